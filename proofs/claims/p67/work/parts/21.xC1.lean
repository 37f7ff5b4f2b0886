/-! functions and contracts, by program: forget, loadSetup, takeBack, undo, hasHiker, demandHiker, hoursOf, bunkOf, blanketOf, warmth, noiseAt, activityNow, activity, coinsOf, debtOf, demandBunk, sleeperIn, hikerIn, noiseIn, userOfBlanket, userOf, ranksBefore, rankOfHiker, hikerOfRank, hikerAtRank, hour, logs, temperature, hutCoins, burnedLogs, sumOfDebts, totalDebt, countOf, coldCount, coldHikers, hikersWithoutBlanket, hikersWithout, sumOfWarmths, meanWarmth, sumOfHours, sleepShare, thingsUsedTwice, auditDifference, faultOfTake, faultOfReturn, faultOfSwap, faultOfLie, faultOfRise, faultOfFetch, faultOfPay, faultOfPass, faultOf -/
def x2_forget (p : Nat) (g : AH) : Option (Unit × AH) :=
  gb (putV 2 g p 2 (.int 0)) fun g1 => some ((), g1)
def x8_loadSetup (p : Nat) (g : AH) : Option (Int32 × AH) :=
  gb (getR 8 g p 6) fun x1 => gb (getR 8 g p 1) fun x3 => gb (isO 0 g x1) fun _ => cb (x0_readSetup x1 x3 g) fun r5 g6 => gb (getR 8 g6 p 6) fun x10 => gb (getR 0 g6 x10 0) fun x12 => gb (putV 7 g6 x12 1 (.int 0)) fun g14 => if r5 = 0 then
  some ((-1), g14)
  else
  gb (getR 8 g14 p 0) fun x17 => gb (getR 8 g14 p 1) fun x19 => gb (isO 3 g14 x17) fun _ => cb (x3_copyFrom x17 x19 g14) fun r21 g22 => gb (getR 8 g22 p 3) fun x26 => gb (isO 2 g22 x26) fun _ => cb (x2_forget x26 g22) fun r28 g29 => gb (getR 8 g29 p 0) fun x33 => gb (getI 3 g29 x33 12) fun x35 => some (x35, g29)
def x2_takeBack (p : Nat) (b0 : Nat) (g : AH) : Option (Unit × AH) :=
  gb (getI 2 g p 1) fun x1 => gb (putV 2 g p 1 (.int (((x1 + 6) - 1) - ((x1 + 6) - 1) / 6 * 6))) fun g4 => gb (getI 2 g4 p 2) fun x6 => gb (putV 2 g4 p 2 (.int (x6 - 1))) fun g8 => gb (getR 2 g8 p 0) fun x10 => gb (getI 2 g8 p 1) fun x12 => gb (aldR 5 g8 x10 x12) fun x14 => gb (isO 3 g8 b0) fun _ => cb (x3_copyFrom b0 x14 g8) fun r16 g17 => some ((), g17)
def x8_undo (p : Nat) (g : AH) : Option ((Int32 ⊕ String) × AH) :=
  gb (getR 8 g p 3) fun x1 => gb (getI 2 g x1 2) fun x3 => if 1 ≤ x3 then
  gb (getR 8 g p 3) fun x6 => gb (getR 8 g p 0) fun x8 => gb (isO 2 g x6) fun _ => cb (x2_takeBack x6 x8 g) fun r10 g11 => gb (getR 8 g11 p 3) fun x15 => gb (getI 2 g11 x15 2) fun x17 => some (.inl x17, g11)
  else
  some (.inr "java/lang/IllegalStateException", hcut g)
def x3_hasHiker (p : Nat) (b0 : Int32) (g : AH) : Option (Int32 × AH) :=
  if b0 < 0 then
  some (0, g)
  else
  gb (getI 3 g p 12) fun x2 => if x2 ≤ b0 then
  some (0, g)
  else
  some (1, g)
def x8_demandHiker (p : Nat) (b0 : Int32) (g : AH) : Option ((Unit ⊕ String) × AH) :=
  gb (getR 8 g p 0) fun x1 => gb (isO 3 g x1) fun _ => cb (x3_hasHiker x1 b0 g) fun r3 g4 => if r3 = 0 then
  some (.inr "java/lang/IndexOutOfBoundsException", hcut g4)
  else
  some (.inl (), g4)
def x8_hoursOf (p : Nat) (b0 : Int32) (b1 : Int32) (g : AH) : Option ((Int32 ⊕ String) × AH) :=
  gb (isO 8 g p) fun _ => cb (x8_demandHiker p b0 g) fun r1 g2 => Sum.elim (fun v6 =>
  cb (x8_isWithin b1 0 3 g2) fun r8 g9 => if r8 = 0 then
  some (.inr "java/lang/IllegalArgumentException", hcut g9)
  else
  gb (getR 8 g9 p 0) fun x12 => gb (getR 3 g9 x12 18) fun x14 => gb (aldR 4 g9 x14 b0) fun x16 => gb (getR 1 g9 x16 8) fun x18 => gb (aldI 0 g9 x18 b1) fun x20 => some (.inl x20, g9)) (fun w7 => some (.inr w7, g2)) r1
def x8_bunkOf (p : Nat) (b0 : Int32) (g : AH) : Option ((Int32 ⊕ String) × AH) :=
  gb (isO 8 g p) fun _ => cb (x8_demandHiker p b0 g) fun r1 g2 => Sum.elim (fun v6 =>
  gb (getR 8 g2 p 0) fun x8 => gb (getR 3 g2 x8 18) fun x10 => gb (aldR 4 g2 x10 b0) fun x12 => gb (getI 1 g2 x12 4) fun x14 => some (.inl x14, g2)) (fun w7 => some (.inr w7, g2)) r1
def x8_blanketOf (p : Nat) (b0 : Int32) (g : AH) : Option ((Int32 ⊕ String) × AH) :=
  gb (isO 8 g p) fun _ => cb (x8_demandHiker p b0 g) fun r1 g2 => Sum.elim (fun v6 =>
  gb (getR 8 g2 p 0) fun x8 => gb (getR 3 g2 x8 18) fun x10 => gb (aldR 4 g2 x10 b0) fun x12 => gb (getI 1 g2 x12 5) fun x14 => some (.inl x14, g2)) (fun w7 => some (.inr w7, g2)) r1
def x8_warmth (p : Nat) (b0 : Int32) (g : AH) : Option ((Int32 ⊕ String) × AH) :=
  gb (isO 8 g p) fun _ => cb (x8_demandHiker p b0 g) fun r1 g2 => Sum.elim (fun v6 =>
  gb (getR 8 g2 p 0) fun x8 => gb (getR 3 g2 x8 18) fun x10 => gb (aldR 4 g2 x10 b0) fun x12 => gb (getI 1 g2 x12 7) fun x14 => some (.inl x14, g2)) (fun w7 => some (.inr w7, g2)) r1
def x3_noiseAt (p : Nat) (b0 : Int32) (g : AH) : Option (Int32 × AH) :=
  if b0 < 0 then
  some (0, g)
  else
  gb (getI 3 g p 9) fun x2 => if b0 < x2 then
  gb (getR 3 g p 17) fun x5 => gb (aldI 0 g x5 ((b0 + 2) - 1)) fun x7 => gb (getR 3 g p 17) fun x9 => gb (aldI 0 g x9 ((b0 + 2) + 1)) fun x11 => gb (getR 3 g p 17) fun x13 => gb (aldI 0 g x13 ((b0 + 2) - 2)) fun x15 => gb (getR 3 g p 17) fun x17 => gb (aldI 0 g x17 ((b0 + 2) + 2)) fun x19 => some (((x7 + x11) + ((x15 + x19) / 2)), g)
  else
  some (0, g)
def x3_activityNow (p : Nat) (b0 : Int32) (g : AH) : Option (Int32 × AH) :=
  gb (getR 3 g p 18) fun x1 => gb (aldR 4 g x1 b0) fun x3 => gb (isO 1 g x3) fun _ => cb (x1_isCold x3 g) fun r5 g6 => if r5 = 0 then
  gb (getI 1 g6 x3 4) fun x11 => if x11 = (-1) then
  some (3, g6)
  else
  gb (getI 1 g6 x3 4) fun x14 => gb (isO 3 g6 p) fun _ => cb (x3_noiseAt p x14 g6) fun r16 g17 => if r16 ≤ 6 then
  some (2, g17)
  else
  some (1, g17)
  else
  some (0, g6)
def x8_activity (p : Nat) (b0 : Int32) (g : AH) : Option ((Int32 ⊕ String) × AH) :=
  gb (isO 8 g p) fun _ => cb (x8_demandHiker p b0 g) fun r1 g2 => Sum.elim (fun v6 =>
  gb (getR 8 g2 p 0) fun x8 => gb (isO 3 g2 x8) fun _ => cb (x3_activityNow x8 b0 g2) fun r10 g11 => some (.inl r10, g11)) (fun w7 => some (.inr w7, g2)) r1
def x8_coinsOf (p : Nat) (b0 : Int32) (g : AH) : Option ((Int32 ⊕ String) × AH) :=
  gb (isO 8 g p) fun _ => cb (x8_demandHiker p b0 g) fun r1 g2 => Sum.elim (fun v6 =>
  gb (getR 8 g2 p 0) fun x8 => gb (getR 3 g2 x8 18) fun x10 => gb (aldR 4 g2 x10 b0) fun x12 => gb (getI 1 g2 x12 2) fun x14 => some (.inl x14, g2)) (fun w7 => some (.inr w7, g2)) r1
def x8_debtOf (p : Nat) (b0 : Int32) (g : AH) : Option ((Int32 ⊕ String) × AH) :=
  gb (isO 8 g p) fun _ => cb (x8_demandHiker p b0 g) fun r1 g2 => Sum.elim (fun v6 =>
  gb (getR 8 g2 p 0) fun x8 => gb (getR 3 g2 x8 18) fun x10 => gb (aldR 4 g2 x10 b0) fun x12 => gb (getI 1 g2 x12 3) fun x14 => some (.inl x14, g2)) (fun w7 => some (.inr w7, g2)) r1
def x8_demandBunk (p : Nat) (b0 : Int32) (g : AH) : Option ((Unit ⊕ String) × AH) :=
  gb (getR 8 g p 0) fun x1 => gb (isO 3 g x1) fun _ => cb (x3_hasBunk x1 b0 g) fun r3 g4 => if r3 = 0 then
  some (.inr "java/lang/IndexOutOfBoundsException", hcut g4)
  else
  some (.inl (), g4)
def x3_sleeperIn (p : Nat) (b0 : Int32) (g : AH) : Option (Int32 × AH) :=
  gb (isO 3 g p) fun _ => cb (x3_hasBunk p b0 g) fun r1 g2 => if r1 = 0 then
  some ((-1), g2)
  else
  gb (getR 3 g2 p 16) fun x7 => gb (aldI 0 g2 x7 (b0 + 2)) fun x9 => some (x9, g2)
def x8_hikerIn (p : Nat) (b0 : Int32) (g : AH) : Option ((Int32 ⊕ String) × AH) :=
  gb (isO 8 g p) fun _ => cb (x8_demandBunk p b0 g) fun r1 g2 => Sum.elim (fun v6 =>
  gb (getR 8 g2 p 0) fun x8 => gb (isO 3 g2 x8) fun _ => cb (x3_sleeperIn x8 b0 g2) fun r10 g11 => some (.inl r10, g11)) (fun w7 => some (.inr w7, g2)) r1
def x8_noiseIn (p : Nat) (b0 : Int32) (g : AH) : Option ((Int32 ⊕ String) × AH) :=
  gb (isO 8 g p) fun _ => cb (x8_demandBunk p b0 g) fun r1 g2 => Sum.elim (fun v6 =>
  gb (getR 8 g2 p 0) fun x8 => gb (isO 3 g2 x8) fun _ => cb (x3_noiseAt x8 b0 g2) fun r10 g11 => some (.inl r10, g11)) (fun w7 => some (.inr w7, g2)) r1
def x3_userOfBlanket_l2 (a0 : Nat) (a1 : Int32) (s0 : Int32) (g : AH) : Option (((Int32) ⊕ ((Unit) ⊕ Int32)) × AH) :=
  gb (getI 3 g a0 12) fun x1 => if x1 ≤ s0 then
  some (.inr (.inl ()), g)
  else
  gb (getR 3 g a0 18) fun x4 => gb (aldR 4 g x4 s0) fun x6 => gb (getI 1 g x6 5) fun x8 => if x8 = a1 then
  some (.inr (.inr s0), g)
  else
  some (.inl (s0 + 1), g)
def x3_userOfBlanket (p : Nat) (b0 : Int32) (g : AH) : Option (Int32 × AH) :=
  cb (loopX (x3_userOfBlanket_l2 p b0) 1000 0 g) fun t1 g2 => Sum.elim (fun t4 =>
  some ((-1), g2)) (fun t5 => some (t5, g2)) t1
def x8_userOf (p : Nat) (b0 : Int32) (g : AH) : Option ((Int32 ⊕ String) × AH) :=
  gb (getR 8 g p 0) fun x1 => gb (isO 3 g x1) fun _ => cb (x3_hasBlanket x1 b0 g) fun r3 g4 => if r3 = 0 then
  some (.inr "java/lang/IndexOutOfBoundsException", hcut g4)
  else
  gb (getR 8 g4 p 0) fun x9 => gb (isO 3 g4 x9) fun _ => cb (x3_userOfBlanket x9 b0 g4) fun r11 g12 => some (.inl r11, g12)
def x1_ranksBefore (p : Nat) (b0 : Nat) (g : AH) : Option (Int32 × AH) :=
  gb (getR 1 g p 8) fun x1 => gb (aldI 0 g x1 2) fun x3 => gb (getR 1 g b0 8) fun x5 => gb (aldI 0 g x5 2) fun x7 => if x3 = x7 then
  gb (getR 1 g p 8) fun x10 => gb (aldI 0 g x10 0) fun x12 => gb (getR 1 g b0 8) fun x14 => gb (aldI 0 g x14 0) fun x16 => if x16 ≤ x12 then
  some (0, g)
  else
  some (1, g)
  else
  gb (getR 1 g p 8) fun x19 => gb (aldI 0 g x19 2) fun x21 => gb (getR 1 g b0 8) fun x23 => gb (aldI 0 g x23 2) fun x25 => if x21 ≤ x25 then
  some (0, g)
  else
  some (1, g)
def x3_rankOfHiker_j68_4 (a0 : Nat) (a1 : Int32) (a2 : Int32) (a3 : Int32) (g : AH) : Option (((Int32 × Int32) ⊕ (Int32)) × AH) :=
  some (.inl (a2, (a3 + 1)), g)
def x3_rankOfHiker_j65_4 (a0 : Nat) (a1 : Int32) (a2 : Int32) (a3 : Int32) (g : AH) : Option (((Int32 × Int32) ⊕ (Int32)) × AH) :=
  x3_rankOfHiker_j68_4 a0 a1 (a2 + 1) a3 g
def x3_rankOfHiker_j40_4 (a0 : Nat) (a1 : Int32) (a2 : Int32) (a3 : Int32) (s0 : Int32) (g : AH) : Option (((Int32 × Int32) ⊕ (Int32)) × AH) :=
  if s0 = 0 then
  gb (getR 3 g a0 18) fun x2 => gb (aldR 4 g x2 a3) fun x4 => gb (getR 3 g a0 18) fun x6 => gb (aldR 4 g x6 a1) fun x8 => gb (isO 1 g x4) fun _ => cb (x1_ranksBefore x4 x8 g) fun r10 g11 => if r10 = 0 then
  x3_rankOfHiker_j68_4 a0 a1 a2 a3 g11
  else
  x3_rankOfHiker_j65_4 a0 a1 a2 a3 g11
  else
  x3_rankOfHiker_j65_4 a0 a1 a2 a3 g
def x3_rankOfHiker_j39_4 (a0 : Nat) (a1 : Int32) (a2 : Int32) (a3 : Int32) (g : AH) : Option (((Int32 × Int32) ⊕ (Int32)) × AH) :=
  x3_rankOfHiker_j40_4 a0 a1 a2 a3 0 g
def x3_rankOfHiker_l4 (a0 : Nat) (a1 : Int32) (s0 : Int32 × Int32) (g : AH) : Option (((Int32 × Int32) ⊕ (Int32)) × AH) :=
  gb (getI 3 g a0 12) fun x1 => if x1 ≤ s0.2 then
  some (.inr s0.1, g)
  else
  if a1 ≤ s0.2 then
  x3_rankOfHiker_j39_4 a0 a1 s0.1 s0.2 g
  else
  gb (getR 3 g a0 18) fun x5 => gb (aldR 4 g x5 a1) fun x7 => gb (getR 3 g a0 18) fun x9 => gb (aldR 4 g x9 s0.2) fun x11 => gb (isO 1 g x7) fun _ => cb (x1_ranksBefore x7 x11 g) fun r13 g14 => if r13 = 0 then
  x3_rankOfHiker_j40_4 a0 a1 s0.1 s0.2 1 g14
  else
  x3_rankOfHiker_j39_4 a0 a1 s0.1 s0.2 g14
def x3_rankOfHiker (p : Nat) (b0 : Int32) (g : AH) : Option (Int32 × AH) :=
  cb (loopX (x3_rankOfHiker_l4 p b0) 1000 (0, 0) g) fun t1 g2 =>
  some (t1, g2)
def x3_hikerOfRank_l2 (a0 : Nat) (a1 : Int32) (s0 : Int32) (g : AH) : Option (((Int32) ⊕ ((Unit) ⊕ Int32)) × AH) :=
  gb (getI 3 g a0 12) fun x1 => if x1 ≤ s0 then
  some (.inr (.inl ()), g)
  else
  gb (isO 3 g a0) fun _ => cb (x3_rankOfHiker a0 s0 g) fun r4 g5 => if r4 = a1 then
  some (.inr (.inr s0), g5)
  else
  some (.inl (s0 + 1), g5)
def x3_hikerOfRank (p : Nat) (b0 : Int32) (g : AH) : Option (Int32 × AH) :=
  cb (loopX (x3_hikerOfRank_l2 p b0) 1000 0 g) fun t1 g2 => Sum.elim (fun t4 =>
  some ((-1), g2)) (fun t5 => some (t5, g2)) t1
def x8_hikerAtRank (p : Nat) (b0 : Int32) (g : AH) : Option ((Int32 ⊕ String) × AH) :=
  gb (getR 8 g p 0) fun x1 => gb (isO 3 g x1) fun _ => cb (x3_hikerOfRank x1 b0 g) fun r3 g4 => if r3 = (-1) then
  some (.inr "java/util/NoSuchElementException", hcut g4)
  else
  some (.inl r3, g4)
def x8_hour (p : Nat) (g : AH) : Option (Int32 × AH) :=
  gb (getR 8 g p 0) fun x1 => gb (getI 3 g x1 0) fun x3 => some (x3, g)
def x8_logs (p : Nat) (g : AH) : Option (Int32 × AH) :=
  gb (getR 8 g p 0) fun x1 => gb (getI 3 g x1 1) fun x3 => some (x3, g)
def x8_temperature (p : Nat) (g : AH) : Option (Int32 × AH) :=
  gb (getR 8 g p 0) fun x1 => gb (isO 3 g x1) fun _ => cb (x3_temperatureInside x1 g) fun r3 g4 => some (r3, g4)
def x8_hutCoins (p : Nat) (g : AH) : Option (Int32 × AH) :=
  gb (getR 8 g p 0) fun x1 => gb (getI 3 g x1 4) fun x3 => some (x3, g)
def x8_burnedLogs (p : Nat) (g : AH) : Option (Int32 × AH) :=
  gb (getR 8 g p 0) fun x1 => gb (getI 3 g x1 5) fun x3 => some (x3, g)
def x3_sumOfDebts_l4 (a0 : Nat) (s0 : Int32 × Int32) (g : AH) : Option (((Int32 × Int32) ⊕ (Int32)) × AH) :=
  gb (getI 3 g a0 12) fun x1 => if x1 ≤ s0.2 then
  some (.inr s0.1, g)
  else
  gb (getR 3 g a0 18) fun x4 => gb (aldR 4 g x4 s0.2) fun x6 => gb (getI 1 g x6 3) fun x8 => some (.inl ((s0.1 + x8), (s0.2 + 1)), g)
def x3_sumOfDebts (p : Nat) (g : AH) : Option (Int32 × AH) :=
  cb (loopX (x3_sumOfDebts_l4 p) 1000 (0, 0) g) fun t1 g2 =>
  some (t1, g2)
def x8_totalDebt (p : Nat) (g : AH) : Option (Int32 × AH) :=
  gb (getR 8 g p 0) fun x1 => gb (isO 3 g x1) fun _ => cb (x3_sumOfDebts x1 g) fun r3 g4 => some (r3, g4)
def x3_countOf_j24_4 (a0 : Nat) (a1 : Int32) (a2 : Int32) (a3 : Int32) (g : AH) : Option (((Int32 × Int32) ⊕ (Int32)) × AH) :=
  some (.inl (a2, (a3 + 1)), g)
def x3_countOf_l4 (a0 : Nat) (a1 : Int32) (s0 : Int32 × Int32) (g : AH) : Option (((Int32 × Int32) ⊕ (Int32)) × AH) :=
  gb (getI 3 g a0 12) fun x1 => if x1 ≤ s0.2 then
  some (.inr s0.1, g)
  else
  gb (isO 3 g a0) fun _ => cb (x3_activityNow a0 s0.2 g) fun r4 g5 => if r4 = a1 then
  x3_countOf_j24_4 a0 a1 (s0.1 + 1) s0.2 g5
  else
  x3_countOf_j24_4 a0 a1 s0.1 s0.2 g5
def x3_countOf (p : Nat) (b0 : Int32) (g : AH) : Option (Int32 × AH) :=
  cb (loopX (x3_countOf_l4 p b0) 1000 (0, 0) g) fun t1 g2 =>
  some (t1, g2)
def x3_coldCount (p : Nat) (g : AH) : Option (Int32 × AH) :=
  gb (isO 3 g p) fun _ => cb (x3_countOf p 0 g) fun r1 g2 => some (r1, g2)
def x8_coldHikers (p : Nat) (g : AH) : Option (Int32 × AH) :=
  gb (getR 8 g p 0) fun x1 => gb (isO 3 g x1) fun _ => cb (x3_coldCount x1 g) fun r3 g4 => some (r3, g4)
def x3_hikersWithoutBlanket_j28_4 (a0 : Nat) (a1 : Int32) (a2 : Int32) (g : AH) : Option (((Int32 × Int32) ⊕ (Int32)) × AH) :=
  some (.inl (a1, (a2 + 1)), g)
def x3_hikersWithoutBlanket_l4 (a0 : Nat) (s0 : Int32 × Int32) (g : AH) : Option (((Int32 × Int32) ⊕ (Int32)) × AH) :=
  gb (getI 3 g a0 12) fun x1 => if x1 ≤ s0.2 then
  some (.inr s0.1, g)
  else
  gb (getR 3 g a0 18) fun x4 => gb (aldR 4 g x4 s0.2) fun x6 => gb (getI 1 g x6 5) fun x8 => if x8 = (-1) then
  x3_hikersWithoutBlanket_j28_4 a0 (s0.1 + 1) s0.2 g
  else
  x3_hikersWithoutBlanket_j28_4 a0 s0.1 s0.2 g
def x3_hikersWithoutBlanket (p : Nat) (g : AH) : Option (Int32 × AH) :=
  cb (loopX (x3_hikersWithoutBlanket_l4 p) 1000 (0, 0) g) fun t1 g2 =>
  some (t1, g2)
def x8_hikersWithout (p : Nat) (g : AH) : Option (Int32 × AH) :=
  gb (getR 8 g p 0) fun x1 => gb (isO 3 g x1) fun _ => cb (x3_hikersWithoutBlanket x1 g) fun r3 g4 => some (r3, g4)
def x3_sumOfWarmths_l4 (a0 : Nat) (s0 : Int32 × Int32) (g : AH) : Option (((Int32 × Int32) ⊕ (Int32)) × AH) :=
  gb (getI 3 g a0 12) fun x1 => if x1 ≤ s0.2 then
  some (.inr s0.1, g)
  else
  gb (getR 3 g a0 18) fun x4 => gb (aldR 4 g x4 s0.2) fun x6 => gb (getI 1 g x6 7) fun x8 => some (.inl ((s0.1 + x8), (s0.2 + 1)), g)
def x3_sumOfWarmths (p : Nat) (g : AH) : Option (Int32 × AH) :=
  cb (loopX (x3_sumOfWarmths_l4 p) 1000 (0, 0) g) fun t1 g2 =>
  some (t1, g2)
def x8_meanWarmth (p : Nat) (g : AH) : Option (UInt64 × AH) :=
  gb (getR 8 g p 0) fun x1 => gb (getI 3 g x1 12) fun x3 => if 1 ≤ x3 then
  gb (getR 8 g p 0) fun x6 => gb (isO 3 g x6) fun _ => cb (x3_sumOfWarmths x6 g) fun r8 g9 => if n64 (FP.ddiv (FP.i2d r8) (FP.i2d x3)) then some ((FP.ddiv (FP.i2d r8) (FP.i2d x3)), g9) else none
  else
  some (FP.dconst0, g)
def x3_sumOfHours_l4 (a0 : Nat) (a1 : Int32) (s0 : Int32 × Int32) (g : AH) : Option (((Int32 × Int32) ⊕ (Int32)) × AH) :=
  gb (getI 3 g a0 12) fun x1 => if x1 ≤ s0.2 then
  some (.inr s0.1, g)
  else
  gb (getR 3 g a0 18) fun x4 => gb (aldR 4 g x4 s0.2) fun x6 => gb (getR 1 g x6 8) fun x8 => gb (aldI 0 g x8 a1) fun x10 => some (.inl ((s0.1 + x10), (s0.2 + 1)), g)
def x3_sumOfHours (p : Nat) (b0 : Int32) (g : AH) : Option (Int32 × AH) :=
  cb (loopX (x3_sumOfHours_l4 p b0) 1000 (0, 0) g) fun t1 g2 =>
  some (t1, g2)
def x8_sleepShare (p : Nat) (g : AH) : Option (UInt32 × AH) :=
  gb (getR 8 g p 0) fun x1 => gb (getI 3 g x1 0) fun x3 => gb (getR 8 g p 0) fun x5 => gb (getI 3 g x5 12) fun x7 => if 1 ≤ (x3 * x7) then
  gb (getR 8 g p 0) fun x10 => gb (isO 3 g x10) fun _ => cb (x3_sumOfHours x10 2 g) fun r12 g13 => if n32 (FP.fdiv (FP.i2f r12) (FP.i2f (x3 * x7))) then some ((FP.fdiv (FP.i2f r12) (FP.i2f (x3 * x7))), g13) else none
  else
  some (FP.fconst0, g)
def x3_thingsUsedTwice_j106_16 (a0 : Nat) (a2 : Int32) (a3 : Int32) (s0 : Int32) (s1 : Int32) (g : AH) : Option (((Int32 × Int32) ⊕ (Int32)) × AH) :=
  some (.inl ((s1 + s0), (a3 + 1)), g)
def x3_thingsUsedTwice_j105_16 (a0 : Nat) (a2 : Int32) (a3 : Int32) (s0 : Int32) (g : AH) : Option (((Int32 × Int32) ⊕ (Int32)) × AH) :=
  x3_thingsUsedTwice_j106_16 a0 a2 a3 0 s0 g
def x3_thingsUsedTwice_j64_16 (a0 : Nat) (a2 : Int32) (a3 : Int32) (s0 : Int32) (s1 : Int32) (g : AH) : Option (((Int32 × Int32) ⊕ (Int32)) × AH) :=
  gb (getR 3 g a0 18) fun x1 => gb (aldR 4 g x1 a2) fun x3 => gb (getI 1 g x3 5) fun x5 => if x5 = (-1) then
  x3_thingsUsedTwice_j105_16 a0 a2 a3 (s1 + s0) g
  else
  gb (getR 3 g a0 18) fun x8 => gb (aldR 4 g x8 a2) fun x10 => gb (getI 1 g x10 5) fun x12 => gb (getR 3 g a0 18) fun x14 => gb (aldR 4 g x14 a3) fun x16 => gb (getI 1 g x16 5) fun x18 => if x12 = x18 then
  x3_thingsUsedTwice_j106_16 a0 a2 a3 1 (s1 + s0) g
  else
  x3_thingsUsedTwice_j105_16 a0 a2 a3 (s1 + s0) g
def x3_thingsUsedTwice_j63_16 (a0 : Nat) (a2 : Int32) (a3 : Int32) (s0 : Int32) (g : AH) : Option (((Int32 × Int32) ⊕ (Int32)) × AH) :=
  x3_thingsUsedTwice_j64_16 a0 a2 a3 0 s0 g
def x3_thingsUsedTwice_l16 (a0 : Nat) (a2 : Int32) (s0 : Int32 × Int32) (g : AH) : Option (((Int32 × Int32) ⊕ (Int32)) × AH) :=
  gb (getI 3 g a0 12) fun x1 => if x1 ≤ s0.2 then
  some (.inr s0.1, g)
  else
  gb (getR 3 g a0 18) fun x4 => gb (aldR 4 g x4 a2) fun x6 => gb (getI 1 g x6 4) fun x8 => if x8 = (-1) then
  x3_thingsUsedTwice_j63_16 a0 a2 s0.2 s0.1 g
  else
  gb (getR 3 g a0 18) fun x11 => gb (aldR 4 g x11 a2) fun x13 => gb (getI 1 g x13 4) fun x15 => gb (getR 3 g a0 18) fun x17 => gb (aldR 4 g x17 s0.2) fun x19 => gb (getI 1 g x19 4) fun x21 => if x15 = x21 then
  x3_thingsUsedTwice_j64_16 a0 a2 s0.2 1 s0.1 g
  else
  x3_thingsUsedTwice_j63_16 a0 a2 s0.2 s0.1 g
def x3_thingsUsedTwice_l4 (a0 : Nat) (s0 : Int32 × Int32) (g : AH) : Option (((Int32 × Int32) ⊕ (Int32)) × AH) :=
  gb (getI 3 g a0 12) fun x1 => if x1 ≤ s0.2 then
  some (.inr s0.1, g)
  else
  cb (loopX (x3_thingsUsedTwice_l16 a0 s0.2) 1000 (s0.1, (s0.2 + 1)) g) fun t4 g5 =>
  some (.inl (t4, (s0.2 + 1)), g5)
def x3_thingsUsedTwice (p : Nat) (g : AH) : Option (Int32 × AH) :=
  cb (loopX (x3_thingsUsedTwice_l4 p) 1000 (0, 0) g) fun t1 g2 =>
  some (t1, g2)
def x8_auditDifference (p : Nat) (g : AH) : Option (Int32 × AH) :=
  gb (getR 8 g p 0) fun x1 => gb (getI 3 g x1 7) fun x3 => gb (getR 8 g p 0) fun x5 => gb (getI 3 g x5 4) fun x7 => gb (getR 8 g p 0) fun x9 => gb (isO 3 g x9) fun _ => cb (x3_sumOfCoins x9 g) fun r11 g12 => gb (getR 8 g12 p 0) fun x16 => gb (getI 3 g12 x16 8) fun x18 => gb (getR 8 g12 p 0) fun x20 => gb (getI 3 g12 x20 1) fun x22 => gb (getR 8 g12 p 0) fun x24 => gb (getI 3 g12 x24 5) fun x26 => gb (getR 8 g12 p 0) fun x28 => gb (isO 3 g12 x28) fun _ => cb (x3_thingsUsedTwice x28 g12) fun r30 g31 => some ((((if (0:Int32) ≤ ((x3 - x7) - r11) then ((x3 - x7) - r11) else 0 - ((x3 - x7) - r11)) + (if (0:Int32) ≤ ((x18 - x22) - x26) then ((x18 - x22) - x26) else 0 - ((x18 - x22) - x26))) + r30), g31)
def x3_faultOfTake (p : Nat) (b0 : Int32) (b1 : Int32) (g : AH) : Option (Int32 × AH) :=
  gb (isO 3 g p) fun _ => cb (x3_hasHiker p b0 g) fun r1 g2 => if r1 = 0 then
  some (1, g2)
  else
  gb (isO 3 g2 p) fun _ => cb (x3_hasBlanket p b1 g2) fun r7 g8 => if r7 = 0 then
  some (1, g8)
  else
  gb (isO 3 g8 p) fun _ => cb (x3_userOfBlanket p b1 g8) fun r13 g14 => if r13 = (-1) then
  some (0, g14)
  else
  some (3, g14)
def x3_faultOfReturn (p : Nat) (b0 : Int32) (g : AH) : Option (Int32 × AH) :=
  gb (isO 3 g p) fun _ => cb (x3_hasHiker p b0 g) fun r1 g2 => if r1 = 0 then
  some (1, g2)
  else
  gb (getR 3 g2 p 18) fun x7 => gb (aldR 4 g2 x7 b0) fun x9 => gb (getI 1 g2 x9 5) fun x11 => if x11 = (-1) then
  some (3, g2)
  else
  some (0, g2)
def x3_faultOfSwap_j59  (g : AH) : Option (Int32 × AH) :=
  some (3, g)
def x3_faultOfSwap_j49 (a1 : Int32) (a2 : Int32) (s0 : Int32) (g : AH) : Option (Int32 × AH) :=
  if a1 = a2 then
  x3_faultOfSwap_j59  g
  else
  if s0 = 0 then
  some (0, g)
  else
  x3_faultOfSwap_j59  g
def x3_faultOfSwap_j48 (a1 : Int32) (a2 : Int32) (g : AH) : Option (Int32 × AH) :=
  x3_faultOfSwap_j49 a1 a2 0 g
def x3_faultOfSwap (p : Nat) (b0 : Int32) (b1 : Int32) (g : AH) : Option (Int32 × AH) :=
  gb (isO 3 g p) fun _ => cb (x3_hasHiker p b0 g) fun r1 g2 => if r1 = 0 then
  some (1, g2)
  else
  gb (isO 3 g2 p) fun _ => cb (x3_hasHiker p b1 g2) fun r7 g8 => if r7 = 0 then
  some (1, g8)
  else
  gb (getR 3 g8 p 18) fun x13 => gb (aldR 4 g8 x13 b0) fun x15 => gb (getI 1 g8 x15 5) fun x17 => if x17 = (-1) then
  gb (getR 3 g8 p 18) fun x20 => gb (aldR 4 g8 x20 b1) fun x22 => gb (getI 1 g8 x22 5) fun x24 => if x24 = (-1) then
  x3_faultOfSwap_j49 b0 b1 1 g8
  else
  x3_faultOfSwap_j48 b0 b1 g8
  else
  x3_faultOfSwap_j48 b0 b1 g8
def x3_faultOfLie (p : Nat) (b0 : Int32) (b1 : Int32) (g : AH) : Option (Int32 × AH) :=
  gb (isO 3 g p) fun _ => cb (x3_hasHiker p b0 g) fun r1 g2 => if r1 = 0 then
  some (1, g2)
  else
  gb (isO 3 g2 p) fun _ => cb (x3_hasBunk p b1 g2) fun r7 g8 => if r7 = 0 then
  some (1, g8)
  else
  gb (isO 3 g8 p) fun _ => cb (x3_sleeperIn p b1 g8) fun r13 g14 => if r13 = (-1) then
  some (0, g14)
  else
  some (3, g14)
def x3_faultOfRise (p : Nat) (b0 : Int32) (g : AH) : Option (Int32 × AH) :=
  gb (isO 3 g p) fun _ => cb (x3_hasHiker p b0 g) fun r1 g2 => if r1 = 0 then
  some (1, g2)
  else
  gb (getR 3 g2 p 18) fun x7 => gb (aldR 4 g2 x7 b0) fun x9 => gb (getI 1 g2 x9 4) fun x11 => if x11 = (-1) then
  some (3, g2)
  else
  some (0, g2)
def x3_faultOfFetch (p : Nat) (b0 : Int32) (g : AH) : Option (Int32 × AH) :=
  cb (x8_isWithin b0 1 50 g) fun r1 g2 => if r1 = 0 then
  some (2, g2)
  else
  gb (getI 3 g2 p 1) fun x5 => if (x5 + b0) ≤ 99 then
  some (0, g2)
  else
  some (3, g2)
def x3_faultOfPay_j53 (s0 : Int32) (g : AH) : Option (Int32 × AH) :=
  if s0 = 0 then
  some (0, g)
  else
  some (3, g)
def x3_faultOfPay_j48  (g : AH) : Option (Int32 × AH) :=
  x3_faultOfPay_j53 1 g
def x3_faultOfPay (p : Nat) (b0 : Int32) (b1 : Int32) (g : AH) : Option (Int32 × AH) :=
  gb (isO 3 g p) fun _ => cb (x3_hasHiker p b0 g) fun r1 g2 => if r1 = 0 then
  some (1, g2)
  else
  cb (x8_isWithin b1 1 99 g2) fun r7 g8 => if r7 = 0 then
  some (2, g8)
  else
  gb (getR 3 g8 p 18) fun x11 => gb (aldR 4 g8 x11 b0) fun x13 => gb (getI 1 g8 x13 2) fun x15 => if x15 < b1 then
  x3_faultOfPay_j48  g8
  else
  gb (getR 3 g8 p 18) fun x18 => gb (aldR 4 g8 x18 b0) fun x20 => gb (getI 1 g8 x20 3) fun x22 => if b1 ≤ x22 then
  x3_faultOfPay_j53 0 g8
  else
  x3_faultOfPay_j48  g8
def x3_faultOfPass (p : Nat) (b0 : Int32) (g : AH) : Option (Int32 × AH) :=
  cb (x8_isWithin b0 1 48 g) fun r1 g2 => if r1 = 0 then
  some (2, g2)
  else
  gb (getI 3 g2 p 0) fun x5 => if (x5 + b0) ≤ 9999 then
  some (0, g2)
  else
  some (3, g2)
def x3_faultOf (p : Nat) (b0 : Int32) (b1 : Int32) (b2 : Int32) (g : AH) : Option (Int32 × AH) :=
  if b0 = 0 then
  gb (isO 3 g p) fun _ => cb (x3_faultOfTake p b1 b2 g) fun r2 g3 => some (r2, g3)
  else if b0 = 1 then
  gb (isO 3 g p) fun _ => cb (x3_faultOfReturn p b1 g) fun r8 g9 => some (r8, g9)
  else if b0 = 2 then
  gb (isO 3 g p) fun _ => cb (x3_faultOfSwap p b1 b2 g) fun r14 g15 => some (r14, g15)
  else if b0 = 3 then
  gb (isO 3 g p) fun _ => cb (x3_faultOfLie p b1 b2 g) fun r20 g21 => some (r20, g21)
  else if b0 = 4 then
  gb (isO 3 g p) fun _ => cb (x3_faultOfRise p b1 g) fun r26 g27 => some (r26, g27)
  else if b0 = 5 then
  cb (x8_isWithin b1 0 3 g) fun r32 g33 => if r32 = 0 then
  some (2, g33)
  else
  some (0, g33)
  else if b0 = 6 then
  gb (isO 3 g p) fun _ => cb (x3_faultOfFetch p b1 g) fun r37 g38 => some (r37, g38)
  else if b0 = 7 then
  gb (isO 3 g p) fun _ => cb (x3_faultOfPay p b1 b2 g) fun r43 g44 => some (r43, g44)
  else gb (isO 3 g p) fun _ => cb (x3_faultOfPass p b1 g) fun r48 g49 => some (r48, g49)
set_option maxHeartbeats 4000000 in
set_option maxRecDepth 100000 in
theorem t_x2_forget_b {l : Launch} {G : GG} {M : MC} (X : CX M G cX2_forget 1 RX2 ⟨1, 0, 0, 60⟩) (hl0 : M.2.1 = l) (hr : (mM M).sig.returnType = none) (hnm : (mM M).name = yX2_forget.name) {p : Nat} {g : AH} {r : Unit} {g1 : AH} (E : x2_forget p g = some (r, g1)) : WW M G 1 (RQ M G none g1 0 0) 0 0 g 0 [(0, .ref p)] [] := by
  unfold x2_forget at E
  refine r_aload_n X 0 dX2_forget_0 rfl rfl ?_
  refine r_iconst X (v := 0) dX2_forget_1 (by decide) ?_
  obtain ⟨g1, e2, E⟩ := gb_some E
  refine r_put X dX2_forget_2 f_X2_29 rfl rfl e2 ?_
  cases E
  exact r_vret X hr dX2_forget_5 (by decide) (by decide)
theorem t_x2_forget {l : Launch} {G : GG} {p : Nat} {g : AH} {r : Unit} {g1 : AH} (E : x2_forget p g = some (r, g1)) : Ct l G yX2_forget cX2_forget 1 none ⟨1, 0, 0, 60⟩ [.ref p] g none g1 :=
  ct_of (L0 := [(0, .ref p)]) y_X2_forget rfl (Nat.le_of_ble_eq_true rfl) fun M hl0 X hr hnm => t_x2_forget_b X hl0 hr hnm E
set_option maxHeartbeats 4000000 in
set_option maxRecDepth 100000 in
theorem t_x8_loadSetup_b {l : Launch} {G : GG} {M : MC} (X : CX M G cX8_loadSetup 2 RX8 ⟨12, 0, 0, 329⟩) (hl0 : M.2.1 = l) (hr : (mM M).sig.returnType = (some .int)) (hnm : (mM M).name = yX8_loadSetup.name) {p : Nat} {g : AH} {r : Int32} {g1 : AH} (E : x8_loadSetup p g = some (r, g1)) : WW M G 2 (RQ M G (some (.int r)) g1 0 0) 0 0 g 0 [(0, .ref p)] [] := by
  unfold x8_loadSetup at E
  refine r_aload_n X 0 dX8_loadSetup_0 rfl rfl ?_
  obtain ⟨x1, e2, E⟩ := gb_some E
  refine r_getR X dX8_loadSetup_1 f_X8_48 e2 ?_
  refine r_aload_n X 0 dX8_loadSetup_4 rfl rfl ?_
  obtain ⟨x3, e4, E⟩ := gb_some E
  refine r_getR X dX8_loadSetup_5 f_X8_16 e4 ?_
  obtain ⟨u8, e9, E⟩ := gb_some E
  obtain ⟨r5, g6, e7, E⟩ := cb_some E
  refine r_callV0 X hl0 (ci := 0) dX8_loadSetup_8 y_X0_readSetup m_X8_78 rfl rfl e9 (t_x0_readSetup (l := l) (G := G) e7) rfl rfl (Nat.le_of_ble_eq_true rfl) (by decide) ?_
  refine r_istore_n X 1 (L1 := [(1, .int r5), (0, .ref p)]) dX8_loadSetup_11 rfl (by decide) rfl ?_
  refine r_aload_n X 0 dX8_loadSetup_12 rfl rfl ?_
  obtain ⟨x10, e11, E⟩ := gb_some E
  refine r_getR X dX8_loadSetup_13 f_X8_48 e11 ?_
  obtain ⟨x12, e13, E⟩ := gb_some E
  refine r_getR X dX8_loadSetup_16 f_X8_66 e13 ?_
  refine r_iconst X (v := 0) dX8_loadSetup_19 (by decide) ?_
  obtain ⟨g14, e15, E⟩ := gb_some E
  refine r_put X dX8_loadSetup_20 f_X8_82 rfl rfl e15 ?_
  refine r_iload_n X 1 dX8_loadSetup_23 rfl rfl ?_
  refine r_if_ne X 29 dX8_loadSetup_24 (by decide) (fun c16 => ?_) (fun c16 => ?_)
  · rw [if_neg c16] at E
    refine r_aload_n X 0 dX8_loadSetup_29 rfl rfl ?_
    obtain ⟨x17, e18, E⟩ := gb_some E
    refine r_getR X dX8_loadSetup_30 f_X8_10 e18 ?_
    refine r_aload_n X 0 dX8_loadSetup_33 rfl rfl ?_
    obtain ⟨x19, e20, E⟩ := gb_some E
    refine r_getR X dX8_loadSetup_34 f_X8_16 e20 ?_
    obtain ⟨u24, e25, E⟩ := gb_some E
    obtain ⟨r21, g22, e23, E⟩ := cb_some E
    refine r_callV0 X hl0 (ci := 3) dX8_loadSetup_37 y_X3_copyFrom m_X8_109 rfl rfl e25 (t_x3_copyFrom (l := l) (G := G) e23) rfl rfl (Nat.le_of_ble_eq_true rfl) (by decide) ?_
    refine r_aload_n X 0 dX8_loadSetup_40 rfl rfl ?_
    obtain ⟨x26, e27, E⟩ := gb_some E
    refine r_getR X dX8_loadSetup_41 f_X8_29 e27 ?_
    obtain ⟨u31, e32, E⟩ := gb_some E
    obtain ⟨r28, g29, e30, E⟩ := cb_some E
    refine r_callV0 X hl0 (ci := 2) dX8_loadSetup_44 y_X2_forget m_X8_113 rfl rfl e32 (t_x2_forget (l := l) (G := G) e30) rfl rfl (Nat.le_of_ble_eq_true rfl) (by decide) ?_
    refine r_aload_n X 0 dX8_loadSetup_47 rfl rfl ?_
    obtain ⟨x33, e34, E⟩ := gb_some E
    refine r_getR X dX8_loadSetup_48 f_X8_10 e34 ?_
    obtain ⟨x35, e36, E⟩ := gb_some E
    refine r_getI X dX8_loadSetup_51 f_X8_116 e36 ?_
    cases E
    exact r_iret X hr dX8_loadSetup_54 (by decide) (by decide)
  · rw [if_pos c16] at E
    refine r_iconst X (v := (-1)) dX8_loadSetup_27 (by decide) ?_
    cases E
    exact r_iret X hr dX8_loadSetup_28 (by decide) (by decide)
theorem t_x8_loadSetup {l : Launch} {G : GG} {p : Nat} {g : AH} {r : Int32} {g1 : AH} (E : x8_loadSetup p g = some (r, g1)) : Ct l G yX8_loadSetup cX8_loadSetup 2 (some .int) ⟨12, 0, 0, 329⟩ [.ref p] g (some (.int r)) g1 :=
  ct_of (L0 := [(0, .ref p)]) y_X8_loadSetup rfl (Nat.le_of_ble_eq_true rfl) fun M hl0 X hr hnm => t_x8_loadSetup_b X hl0 hr hnm E
set_option maxHeartbeats 4000000 in
set_option maxRecDepth 100000 in
theorem t_x2_takeBack_b {l : Launch} {G : GG} {M : MC} (X : CX M G cX2_takeBack 2 RX2 ⟨5, 0, 0, 193⟩) (hl0 : M.2.1 = l) (hr : (mM M).sig.returnType = none) (hnm : (mM M).name = yX2_takeBack.name) {p : Nat} {b0 : Nat} {g : AH} {r : Unit} {g1 : AH} (E : x2_takeBack p b0 g = some (r, g1)) : WW M G 2 (RQ M G none g1 0 0) 0 0 g 0 [(0, .ref p), (1, .ref b0)] [] := by
  unfold x2_takeBack at E
  refine r_aload_n X 0 dX2_takeBack_0 rfl rfl ?_
  refine r_aload_n X 0 dX2_takeBack_1 rfl rfl ?_
  obtain ⟨x1, e2, E⟩ := gb_some E
  refine r_getI X dX2_takeBack_2 f_X2_19 e2 ?_
  refine r_bipush X (v := 6) dX2_takeBack_5 (by decide) ?_
  refine r_iadd X dX2_takeBack_7 ?_
  refine r_iconst X (v := 1) dX2_takeBack_8 (by decide) ?_
  refine r_isub X dX2_takeBack_9 ?_
  refine r_bipush X (v := 6) dX2_takeBack_10 (by decide) ?_
  refine r_irem X dX2_takeBack_12 (by decide) ?_
  obtain ⟨g4, e5, E⟩ := gb_some E
  refine r_put X dX2_takeBack_13 f_X2_19 rfl rfl e5 ?_
  refine r_aload_n X 0 dX2_takeBack_16 rfl rfl ?_
  refine r_dup X dX2_takeBack_17 rfl ?_
  obtain ⟨x6, e7, E⟩ := gb_some E
  refine r_getI X dX2_takeBack_18 f_X2_29 e7 ?_
  refine r_iconst X (v := 1) dX2_takeBack_21 (by decide) ?_
  refine r_isub X dX2_takeBack_22 ?_
  obtain ⟨g8, e9, E⟩ := gb_some E
  refine r_put X dX2_takeBack_23 f_X2_29 rfl rfl e9 ?_
  refine r_aload_n X 1 dX2_takeBack_26 rfl rfl ?_
  refine r_aload_n X 0 dX2_takeBack_27 rfl rfl ?_
  obtain ⟨x10, e11, E⟩ := gb_some E
  refine r_getR X dX2_takeBack_28 f_X2_13 e11 ?_
  refine r_aload_n X 0 dX2_takeBack_31 rfl rfl ?_
  obtain ⟨x12, e13, E⟩ := gb_some E
  refine r_getI X dX2_takeBack_32 f_X2_19 e13 ?_
  obtain ⟨x14, e15, E⟩ := gb_some E
  refine r_aald X 5 (by decide) rfl dX2_takeBack_35 e15 ?_
  obtain ⟨u19, e20, E⟩ := gb_some E
  obtain ⟨r16, g17, e18, E⟩ := cb_some E
  refine r_callV0 X hl0 (ci := 3) dX2_takeBack_36 y_X3_copyFrom m_X2_23 rfl rfl e20 (t_x3_copyFrom (l := l) (G := G) e18) rfl rfl (Nat.le_of_ble_eq_true rfl) (by decide) ?_
  cases E
  exact r_vret X hr dX2_takeBack_39 (by decide) (by decide)
theorem t_x2_takeBack {l : Launch} {G : GG} {p : Nat} {b0 : Nat} {g : AH} {r : Unit} {g1 : AH} (E : x2_takeBack p b0 g = some (r, g1)) : Ct l G yX2_takeBack cX2_takeBack 2 none ⟨5, 0, 0, 193⟩ [.ref p, .ref b0] g none g1 :=
  ct_of (L0 := [(0, .ref p), (1, .ref b0)]) y_X2_takeBack rfl (Nat.le_of_ble_eq_true rfl) fun M hl0 X hr hnm => t_x2_takeBack_b X hl0 hr hnm E
set_option maxHeartbeats 4000000 in
set_option maxRecDepth 100000 in
theorem t_x8_undo_b {l : Launch} {G : GG} {M : MC} (X : CX M G cX8_undo 1 RX8 ⟨7, 1, 6, 214⟩) (hl0 : M.2.1 = l) (hr : (mM M).sig.returnType = (some .int)) (hnm : (mM M).name = yX8_undo.name) (hnt : ∀ x ∈ (mC M).exceptionTable.toList, False) (hst : l.stackTraces = false) {p : Nat} {g : AH} {o : (Int32 ⊕ String)} {g1 : AH} (E : x8_undo p g = some (o, g1)) : WW M G 1 (RX M G (ovI o) g1 1 6) 0 0 g 0 [(0, .ref p)] [] := by
  unfold x8_undo at E
  refine r_aload_n X 0 dX8_undo_0 rfl rfl ?_
  obtain ⟨x1, e2, E⟩ := gb_some E
  refine r_getR X dX8_undo_1 f_X8_29 e2 ?_
  obtain ⟨x3, e4, E⟩ := gb_some E
  refine r_getI X dX8_undo_4 f_X8_375 e4 ?_
  refine r_iconst X (v := 1) dX8_undo_7 (by decide) ?_
  refine r_icmp_ge X 22 dX8_undo_8 (by decide) (fun c5 => ?_) (fun c5 => ?_)
  · rw [if_pos c5] at E
    refine r_aload_n X 0 dX8_undo_22 rfl rfl ?_
    obtain ⟨x6, e7, E⟩ := gb_some E
    refine r_getR X dX8_undo_23 f_X8_29 e7 ?_
    refine r_aload_n X 0 dX8_undo_26 rfl rfl ?_
    obtain ⟨x8, e9, E⟩ := gb_some E
    refine r_getR X dX8_undo_27 f_X8_10 e9 ?_
    obtain ⟨u13, e14, E⟩ := gb_some E
    obtain ⟨r10, g11, e12, E⟩ := cb_some E
    refine r_callV0 X hl0 (ci := 2) dX8_undo_30 y_X2_takeBack m_X8_380 rfl rfl e14 (t_x2_takeBack (l := l) (G := G) e12) rfl rfl (Nat.le_of_ble_eq_true rfl) (by decide) ?_
    refine r_aload_n X 0 dX8_undo_33 rfl rfl ?_
    obtain ⟨x15, e16, E⟩ := gb_some E
    refine r_getR X dX8_undo_34 f_X8_29 e16 ?_
    obtain ⟨x17, e18, E⟩ := gb_some E
    refine r_getI X dX8_undo_37 f_X8_375 e18 ?_
    cases E
    exact r_ret (r_iret X hr dX8_undo_40 (by decide) (by decide))
  · rw [if_neg c5] at E
    cases E
    exact r_throwW X hl0 hst hnt th_X8_94 k_X8_90 (List.mem_of_getElem? (i := 11) rfl) dX8_undo_11 dX8_undo_14 dX8_undo_15 dX8_undo_18 dX8_undo_21 ⟨by decide, Nat.le_of_ble_eq_true rfl⟩ (by decide) (by decide)
theorem t_x8_undo {l : Launch} (hst : l.stackTraces = false) {G : GG} {p : Nat} {g : AH} {o : (Int32 ⊕ String)} {g1 : AH} (E : x8_undo p g = some (o, g1)) : CtX l G yX8_undo cX8_undo 1 (some .int) ⟨7, 1, 6, 214⟩ [.ref p] g (ovI o) g1 :=
  ctX_of (L0 := [(0, .ref p)]) y_X8_undo rfl (Nat.le_of_ble_eq_true rfl) fun M hl0 X hr hnm hnt => t_x8_undo_b X hl0 hr hnm hnt hst E
set_option maxHeartbeats 4000000 in
set_option maxRecDepth 100000 in
theorem t_x3_hasHiker_b {l : Launch} {G : GG} {M : MC} (X : CX M G cX3_hasHiker 2 RX3 ⟨1, 0, 0, 60⟩) (hl0 : M.2.1 = l) (hr : (mM M).sig.returnType = (some .boolean)) (hnm : (mM M).name = yX3_hasHiker.name) {p : Nat} {b0 : Int32} {g : AH} {r : Int32} {g1 : AH} (E : x3_hasHiker p b0 g = some (r, g1)) : WW M G 2 (RQ M G (some (.int r)) g1 0 0) 0 0 g 0 [(0, .ref p), (1, .int b0)] [] := by
  unfold x3_hasHiker at E
  refine r_iconst X (v := 0) dX3_hasHiker_0 (by decide) ?_
  refine r_iload_n X 1 dX3_hasHiker_1 rfl rfl ?_
  refine r_icmp_gt X 17 dX3_hasHiker_2 (by decide) (fun c1 => ?_) (fun c1 => ?_)
  · rw [if_pos c1] at E
    refine r_iconst X (v := 0) dX3_hasHiker_17 (by decide) ?_
    cases E
    exact r_zret X hr (Or.inl rfl) dX3_hasHiker_18 (by decide) (by decide)
  · rw [if_neg c1] at E
    refine r_iload_n X 1 dX3_hasHiker_5 rfl rfl ?_
    refine r_aload_n X 0 dX3_hasHiker_6 rfl rfl ?_
    obtain ⟨x2, e3, E⟩ := gb_some E
    refine r_getI X dX3_hasHiker_7 f_X3_78 e3 ?_
    refine r_icmp_ge X 17 dX3_hasHiker_10 (by decide) (fun c4 => ?_) (fun c4 => ?_)
    · rw [if_pos c4] at E
      refine r_iconst X (v := 0) dX3_hasHiker_17 (by decide) ?_
      cases E
      exact r_zret X hr (Or.inl rfl) dX3_hasHiker_18 (by decide) (by decide)
    · rw [if_neg c4] at E
      refine r_iconst X (v := 1) dX3_hasHiker_13 (by decide) ?_
      refine r_goto X 18 dX3_hasHiker_14 (by decide) ?_
      cases E
      exact r_zret X hr (Or.inr rfl) dX3_hasHiker_18 (by decide) (by decide)
theorem t_x3_hasHiker {l : Launch} {G : GG} {p : Nat} {b0 : Int32} {g : AH} {r : Int32} {g1 : AH} (E : x3_hasHiker p b0 g = some (r, g1)) : Ct l G yX3_hasHiker cX3_hasHiker 2 (some .boolean) ⟨1, 0, 0, 60⟩ [.ref p, .int b0] g (some (.int r)) g1 :=
  ct_of (L0 := [(0, .ref p), (1, .int b0)]) y_X3_hasHiker rfl (Nat.le_of_ble_eq_true rfl) fun M hl0 X hr hnm => t_x3_hasHiker_b X hl0 hr hnm E
set_option maxHeartbeats 4000000 in
set_option maxRecDepth 100000 in
theorem t_x8_demandHiker_b {l : Launch} {G : GG} {M : MC} (X : CX M G cX8_demandHiker 2 RX8 ⟨7, 1, 6, 200⟩) (hl0 : M.2.1 = l) (hr : (mM M).sig.returnType = none) (hnm : (mM M).name = yX8_demandHiker.name) (hnt : ∀ x ∈ (mC M).exceptionTable.toList, False) (hst : l.stackTraces = false) {p : Nat} {b0 : Int32} {g : AH} {o : (Unit ⊕ String)} {g1 : AH} (E : x8_demandHiker p b0 g = some (o, g1)) : WW M G 2 (RX M G (ovU o) g1 1 6) 0 0 g 0 [(0, .ref p), (1, .int b0)] [] := by
  unfold x8_demandHiker at E
  refine r_aload_n X 0 dX8_demandHiker_0 rfl rfl ?_
  obtain ⟨x1, e2, E⟩ := gb_some E
  refine r_getR X dX8_demandHiker_1 f_X8_10 e2 ?_
  refine r_iload_n X 1 dX8_demandHiker_4 rfl rfl ?_
  obtain ⟨u6, e7, E⟩ := gb_some E
  obtain ⟨r3, g4, e5, E⟩ := cb_some E
  refine r_callV0 X hl0 (ci := 3) dX8_demandHiker_5 y_X3_hasHiker m_X8_196 rfl rfl e7 (t_x3_hasHiker (l := l) (G := G) e5) rfl rfl (Nat.le_of_ble_eq_true rfl) (by decide) ?_
  refine r_if_ne X 21 dX8_demandHiker_8 (by decide) (fun c8 => ?_) (fun c8 => ?_)
  · rw [if_neg c8] at E
    cases E
    exact r_ret (r_vret X hr dX8_demandHiker_21 (by decide) (by decide))
  · rw [if_pos c8] at E
    cases E
    exact r_throw X hl0 hst hnt th_X8_195 k_X8_191 (List.mem_of_getElem? (i := 4) rfl) dX8_demandHiker_11 dX8_demandHiker_14 dX8_demandHiker_15 dX8_demandHiker_17 dX8_demandHiker_20 ⟨by decide, Nat.le_of_ble_eq_true rfl⟩ (by decide) (by decide)
theorem t_x8_demandHiker {l : Launch} (hst : l.stackTraces = false) {G : GG} {p : Nat} {b0 : Int32} {g : AH} {o : (Unit ⊕ String)} {g1 : AH} (E : x8_demandHiker p b0 g = some (o, g1)) : CtX l G yX8_demandHiker cX8_demandHiker 2 none ⟨7, 1, 6, 200⟩ [.ref p, .int b0] g (ovU o) g1 :=
  ctX_of (L0 := [(0, .ref p), (1, .int b0)]) y_X8_demandHiker rfl (Nat.le_of_ble_eq_true rfl) fun M hl0 X hr hnm hnt => t_x8_demandHiker_b X hl0 hr hnm hnt hst E
set_option maxHeartbeats 4000000 in
set_option maxRecDepth 100000 in
theorem t_x8_hoursOf_b {l : Launch} {G : GG} {M : MC} (X : CX M G cX8_hoursOf 3 RX8 ⟨8, 2, 12, 221⟩) (hl0 : M.2.1 = l) (hr : (mM M).sig.returnType = (some .int)) (hnm : (mM M).name = yX8_hoursOf.name) (hnt : ∀ x ∈ (mC M).exceptionTable.toList, False) (hst : l.stackTraces = false) {p : Nat} {b0 : Int32} {b1 : Int32} {g : AH} {o : (Int32 ⊕ String)} {g1 : AH} (E : x8_hoursOf p b0 b1 g = some (o, g1)) : WW M G 3 (RX M G (ovI o) g1 2 12) 0 0 g 0 [(0, .ref p), (1, .int b0), (2, .int b1)] [] := by
  unfold x8_hoursOf at E
  refine r_aload_n X 0 dX8_hoursOf_0 rfl rfl ?_
  refine r_iload_n X 1 dX8_hoursOf_1 rfl rfl ?_
  obtain ⟨u4, e5, E⟩ := gb_some E
  obtain ⟨r1, g2, e3, E⟩ := cb_some E
  rcases r1 with v6 | w7
  · rw [Sum.elim_inl] at E
    refine r_callVX X hl0 (ci := 8) dX8_hoursOf_2 y_X8_demandHiker m_X8_181 rfl rfl e5 (t_x8_demandHiker (l := l) hst (G := G) e3) rfl rfl (Nat.le_of_ble_eq_true rfl) (by decide) ?_
    refine r_iload_n X 2 dX8_hoursOf_5 rfl rfl ?_
    refine r_iconst X (v := 0) dX8_hoursOf_6 (by decide) ?_
    refine r_iconst X (v := 3) dX8_hoursOf_7 (by decide) ?_
    obtain ⟨r8, g9, e10, E⟩ := cb_some E
    refine r_callS0 X hl0 dX8_hoursOf_8 y_X8_isWithin m_X8_100 (t_x8_isWithin (l := l) (G := G) e10) rfl rfl (Nat.le_of_ble_eq_true rfl) (by decide) ?_
    refine r_if_ne X 24 dX8_hoursOf_11 (by decide) (fun c11 => ?_) (fun c11 => ?_)
    · rw [if_neg c11] at E
      refine r_aload_n X 0 dX8_hoursOf_24 rfl rfl ?_
      obtain ⟨x12, e13, E⟩ := gb_some E
      refine r_getR X dX8_hoursOf_25 f_X8_10 e13 ?_
      obtain ⟨x14, e15, E⟩ := gb_some E
      refine r_getR X dX8_hoursOf_28 f_X8_223 e15 ?_
      refine r_iload_n X 1 dX8_hoursOf_31 rfl rfl ?_
      obtain ⟨x16, e17, E⟩ := gb_some E
      refine r_aald X 4 (by decide) rfl dX8_hoursOf_32 e17 ?_
      obtain ⟨x18, e19, E⟩ := gb_some E
      refine r_getR X dX8_hoursOf_33 f_X8_243 e19 ?_
      refine r_iload_n X 2 dX8_hoursOf_36 rfl rfl ?_
      obtain ⟨x20, e21, E⟩ := gb_some E
      refine r_iald X dX8_hoursOf_37 e21 ?_
      cases E
      exact r_ret (r_iret X hr dX8_hoursOf_38 (by decide) (by decide))
    · rw [if_pos c11] at E
      cases E
      exact r_throw X hl0 hst hnt th_X8_108 k_X8_104 (List.mem_of_getElem? (i := 7) rfl) dX8_hoursOf_14 dX8_hoursOf_17 dX8_hoursOf_18 dX8_hoursOf_20 dX8_hoursOf_23 ⟨by decide, Nat.le_of_ble_eq_true rfl⟩ (by decide) (by decide)
  · rw [Sum.elim_inr] at E
    cases E
    exact r_thrV X hl0 hnt (ci := 8) dX8_hoursOf_2 y_X8_demandHiker m_X8_181 rfl rfl e5 (t_x8_demandHiker (l := l) hst (G := G) e3) rfl rfl (Nat.le_of_ble_eq_true rfl) (by decide) (by decide) (by decide)
theorem t_x8_hoursOf {l : Launch} (hst : l.stackTraces = false) {G : GG} {p : Nat} {b0 : Int32} {b1 : Int32} {g : AH} {o : (Int32 ⊕ String)} {g1 : AH} (E : x8_hoursOf p b0 b1 g = some (o, g1)) : CtX l G yX8_hoursOf cX8_hoursOf 3 (some .int) ⟨8, 2, 12, 221⟩ [.ref p, .int b0, .int b1] g (ovI o) g1 :=
  ctX_of (L0 := [(0, .ref p), (1, .int b0), (2, .int b1)]) y_X8_hoursOf rfl (Nat.le_of_ble_eq_true rfl) fun M hl0 X hr hnm hnt => t_x8_hoursOf_b X hl0 hr hnm hnt hst E
set_option maxHeartbeats 4000000 in
set_option maxRecDepth 100000 in
theorem t_x8_bunkOf_b {l : Launch} {G : GG} {M : MC} (X : CX M G cX8_bunkOf 2 RX8 ⟨8, 1, 6, 221⟩) (hl0 : M.2.1 = l) (hr : (mM M).sig.returnType = (some .int)) (hnm : (mM M).name = yX8_bunkOf.name) (hnt : ∀ x ∈ (mC M).exceptionTable.toList, False) (hst : l.stackTraces = false) {p : Nat} {b0 : Int32} {g : AH} {o : (Int32 ⊕ String)} {g1 : AH} (E : x8_bunkOf p b0 g = some (o, g1)) : WW M G 2 (RX M G (ovI o) g1 1 6) 0 0 g 0 [(0, .ref p), (1, .int b0)] [] := by
  unfold x8_bunkOf at E
  refine r_aload_n X 0 dX8_bunkOf_0 rfl rfl ?_
  refine r_iload_n X 1 dX8_bunkOf_1 rfl rfl ?_
  obtain ⟨u4, e5, E⟩ := gb_some E
  obtain ⟨r1, g2, e3, E⟩ := cb_some E
  rcases r1 with v6 | w7
  · rw [Sum.elim_inl] at E
    refine r_callVX X hl0 (ci := 8) dX8_bunkOf_2 y_X8_demandHiker m_X8_181 rfl rfl e5 (t_x8_demandHiker (l := l) hst (G := G) e3) rfl rfl (Nat.le_of_ble_eq_true rfl) (by decide) ?_
    refine r_aload_n X 0 dX8_bunkOf_5 rfl rfl ?_
    obtain ⟨x8, e9, E⟩ := gb_some E
    refine r_getR X dX8_bunkOf_6 f_X8_10 e9 ?_
    obtain ⟨x10, e11, E⟩ := gb_some E
    refine r_getR X dX8_bunkOf_9 f_X8_223 e11 ?_
    refine r_iload_n X 1 dX8_bunkOf_12 rfl rfl ?_
    obtain ⟨x12, e13, E⟩ := gb_some E
    refine r_aald X 4 (by decide) rfl dX8_bunkOf_13 e13 ?_
    obtain ⟨x14, e15, E⟩ := gb_some E
    refine r_getI X dX8_bunkOf_14 f_X8_227 e15 ?_
    cases E
    exact r_ret (r_iret X hr dX8_bunkOf_17 (by decide) (by decide))
  · rw [Sum.elim_inr] at E
    cases E
    exact r_thrV X hl0 hnt (ci := 8) dX8_bunkOf_2 y_X8_demandHiker m_X8_181 rfl rfl e5 (t_x8_demandHiker (l := l) hst (G := G) e3) rfl rfl (Nat.le_of_ble_eq_true rfl) (by decide) (by decide) (by decide)
theorem t_x8_bunkOf {l : Launch} (hst : l.stackTraces = false) {G : GG} {p : Nat} {b0 : Int32} {g : AH} {o : (Int32 ⊕ String)} {g1 : AH} (E : x8_bunkOf p b0 g = some (o, g1)) : CtX l G yX8_bunkOf cX8_bunkOf 2 (some .int) ⟨8, 1, 6, 221⟩ [.ref p, .int b0] g (ovI o) g1 :=
  ctX_of (L0 := [(0, .ref p), (1, .int b0)]) y_X8_bunkOf rfl (Nat.le_of_ble_eq_true rfl) fun M hl0 X hr hnm hnt => t_x8_bunkOf_b X hl0 hr hnm hnt hst E
set_option maxHeartbeats 4000000 in
set_option maxRecDepth 100000 in
theorem t_x8_blanketOf_b {l : Launch} {G : GG} {M : MC} (X : CX M G cX8_blanketOf 2 RX8 ⟨8, 1, 6, 221⟩) (hl0 : M.2.1 = l) (hr : (mM M).sig.returnType = (some .int)) (hnm : (mM M).name = yX8_blanketOf.name) (hnt : ∀ x ∈ (mC M).exceptionTable.toList, False) (hst : l.stackTraces = false) {p : Nat} {b0 : Int32} {g : AH} {o : (Int32 ⊕ String)} {g1 : AH} (E : x8_blanketOf p b0 g = some (o, g1)) : WW M G 2 (RX M G (ovI o) g1 1 6) 0 0 g 0 [(0, .ref p), (1, .int b0)] [] := by
  unfold x8_blanketOf at E
  refine r_aload_n X 0 dX8_blanketOf_0 rfl rfl ?_
  refine r_iload_n X 1 dX8_blanketOf_1 rfl rfl ?_
  obtain ⟨u4, e5, E⟩ := gb_some E
  obtain ⟨r1, g2, e3, E⟩ := cb_some E
  rcases r1 with v6 | w7
  · rw [Sum.elim_inl] at E
    refine r_callVX X hl0 (ci := 8) dX8_blanketOf_2 y_X8_demandHiker m_X8_181 rfl rfl e5 (t_x8_demandHiker (l := l) hst (G := G) e3) rfl rfl (Nat.le_of_ble_eq_true rfl) (by decide) ?_
    refine r_aload_n X 0 dX8_blanketOf_5 rfl rfl ?_
    obtain ⟨x8, e9, E⟩ := gb_some E
    refine r_getR X dX8_blanketOf_6 f_X8_10 e9 ?_
    obtain ⟨x10, e11, E⟩ := gb_some E
    refine r_getR X dX8_blanketOf_9 f_X8_223 e11 ?_
    refine r_iload_n X 1 dX8_blanketOf_12 rfl rfl ?_
    obtain ⟨x12, e13, E⟩ := gb_some E
    refine r_aald X 4 (by decide) rfl dX8_blanketOf_13 e13 ?_
    obtain ⟨x14, e15, E⟩ := gb_some E
    refine r_getI X dX8_blanketOf_14 f_X8_232 e15 ?_
    cases E
    exact r_ret (r_iret X hr dX8_blanketOf_17 (by decide) (by decide))
  · rw [Sum.elim_inr] at E
    cases E
    exact r_thrV X hl0 hnt (ci := 8) dX8_blanketOf_2 y_X8_demandHiker m_X8_181 rfl rfl e5 (t_x8_demandHiker (l := l) hst (G := G) e3) rfl rfl (Nat.le_of_ble_eq_true rfl) (by decide) (by decide) (by decide)
theorem t_x8_blanketOf {l : Launch} (hst : l.stackTraces = false) {G : GG} {p : Nat} {b0 : Int32} {g : AH} {o : (Int32 ⊕ String)} {g1 : AH} (E : x8_blanketOf p b0 g = some (o, g1)) : CtX l G yX8_blanketOf cX8_blanketOf 2 (some .int) ⟨8, 1, 6, 221⟩ [.ref p, .int b0] g (ovI o) g1 :=
  ctX_of (L0 := [(0, .ref p), (1, .int b0)]) y_X8_blanketOf rfl (Nat.le_of_ble_eq_true rfl) fun M hl0 X hr hnm hnt => t_x8_blanketOf_b X hl0 hr hnm hnt hst E
set_option maxHeartbeats 4000000 in
set_option maxRecDepth 100000 in
theorem t_x8_warmth_b {l : Launch} {G : GG} {M : MC} (X : CX M G cX8_warmth 2 RX8 ⟨8, 1, 6, 221⟩) (hl0 : M.2.1 = l) (hr : (mM M).sig.returnType = (some .int)) (hnm : (mM M).name = yX8_warmth.name) (hnt : ∀ x ∈ (mC M).exceptionTable.toList, False) (hst : l.stackTraces = false) {p : Nat} {b0 : Int32} {g : AH} {o : (Int32 ⊕ String)} {g1 : AH} (E : x8_warmth p b0 g = some (o, g1)) : WW M G 2 (RX M G (ovI o) g1 1 6) 0 0 g 0 [(0, .ref p), (1, .int b0)] [] := by
  unfold x8_warmth at E
  refine r_aload_n X 0 dX8_warmth_0 rfl rfl ?_
  refine r_iload_n X 1 dX8_warmth_1 rfl rfl ?_
  obtain ⟨u4, e5, E⟩ := gb_some E
  obtain ⟨r1, g2, e3, E⟩ := cb_some E
  rcases r1 with v6 | w7
  · rw [Sum.elim_inl] at E
    refine r_callVX X hl0 (ci := 8) dX8_warmth_2 y_X8_demandHiker m_X8_181 rfl rfl e5 (t_x8_demandHiker (l := l) hst (G := G) e3) rfl rfl (Nat.le_of_ble_eq_true rfl) (by decide) ?_
    refine r_aload_n X 0 dX8_warmth_5 rfl rfl ?_
    obtain ⟨x8, e9, E⟩ := gb_some E
    refine r_getR X dX8_warmth_6 f_X8_10 e9 ?_
    obtain ⟨x10, e11, E⟩ := gb_some E
    refine r_getR X dX8_warmth_9 f_X8_223 e11 ?_
    refine r_iload_n X 1 dX8_warmth_12 rfl rfl ?_
    obtain ⟨x12, e13, E⟩ := gb_some E
    refine r_aald X 4 (by decide) rfl dX8_warmth_13 e13 ?_
    obtain ⟨x14, e15, E⟩ := gb_some E
    refine r_getI X dX8_warmth_14 f_X8_235 e15 ?_
    cases E
    exact r_ret (r_iret X hr dX8_warmth_17 (by decide) (by decide))
  · rw [Sum.elim_inr] at E
    cases E
    exact r_thrV X hl0 hnt (ci := 8) dX8_warmth_2 y_X8_demandHiker m_X8_181 rfl rfl e5 (t_x8_demandHiker (l := l) hst (G := G) e3) rfl rfl (Nat.le_of_ble_eq_true rfl) (by decide) (by decide) (by decide)
theorem t_x8_warmth {l : Launch} (hst : l.stackTraces = false) {G : GG} {p : Nat} {b0 : Int32} {g : AH} {o : (Int32 ⊕ String)} {g1 : AH} (E : x8_warmth p b0 g = some (o, g1)) : CtX l G yX8_warmth cX8_warmth 2 (some .int) ⟨8, 1, 6, 221⟩ [.ref p, .int b0] g (ovI o) g1 :=
  ctX_of (L0 := [(0, .ref p), (1, .int b0)]) y_X8_warmth rfl (Nat.le_of_ble_eq_true rfl) fun M hl0 X hr hnm hnt => t_x8_warmth_b X hl0 hr hnm hnt hst E
set_option maxHeartbeats 4000000 in
set_option maxRecDepth 100000 in
theorem t_x3_noiseAt_b {l : Launch} {G : GG} {M : MC} (X : CX M G cX3_noiseAt 5 RX3 ⟨1, 0, 0, 60⟩) (hl0 : M.2.1 = l) (hr : (mM M).sig.returnType = (some .int)) (hnm : (mM M).name = yX3_noiseAt.name) {p : Nat} {b0 : Int32} {g : AH} {r : Int32} {g1 : AH} (E : x3_noiseAt p b0 g = some (r, g1)) : WW M G 5 (RQ M G (some (.int r)) g1 0 0) 0 0 g 0 [(0, .ref p), (1, .int b0)] [] := by
  unfold x3_noiseAt at E
  refine r_iload_n X 1 dX3_noiseAt_0 rfl rfl ?_
  refine r_if_lt X 12 dX3_noiseAt_1 (by decide) (fun c1 => ?_) (fun c1 => ?_)
  · rw [if_pos c1] at E
    refine r_iconst X (v := 0) dX3_noiseAt_12 (by decide) ?_
    cases E
    exact r_iret X hr dX3_noiseAt_13 (by decide) (by decide)
  · rw [if_neg c1] at E
    refine r_iload_n X 1 dX3_noiseAt_4 rfl rfl ?_
    refine r_aload_n X 0 dX3_noiseAt_5 rfl rfl ?_
    obtain ⟨x2, e3, E⟩ := gb_some E
    refine r_getI X dX3_noiseAt_6 f_X3_69 e3 ?_
    refine r_icmp_lt X 14 dX3_noiseAt_9 (by decide) (fun c4 => ?_) (fun c4 => ?_)
    · rw [if_pos c4] at E
      refine r_iload_n X 1 dX3_noiseAt_14 rfl rfl ?_
      refine r_iconst X (v := 2) dX3_noiseAt_15 (by decide) ?_
      refine r_iadd X dX3_noiseAt_16 ?_
      refine r_istore_n X 2 (L1 := [(2, .int (b0 + 2)), (0, .ref p), (1, .int b0)]) dX3_noiseAt_17 rfl (by decide) rfl ?_
      refine r_aload_n X 0 dX3_noiseAt_18 rfl rfl ?_
      obtain ⟨x5, e6, E⟩ := gb_some E
      refine r_getR X dX3_noiseAt_19 f_X3_24 e6 ?_
      refine r_iload_n X 2 dX3_noiseAt_22 rfl rfl ?_
      refine r_iconst X (v := 1) dX3_noiseAt_23 (by decide) ?_
      refine r_isub X dX3_noiseAt_24 ?_
      obtain ⟨x7, e8, E⟩ := gb_some E
      refine r_iald X dX3_noiseAt_25 e8 ?_
      refine r_aload_n X 0 dX3_noiseAt_26 rfl rfl ?_
      obtain ⟨x9, e10, E⟩ := gb_some E
      refine r_getR X dX3_noiseAt_27 f_X3_24 e10 ?_
      refine r_iload_n X 2 dX3_noiseAt_30 rfl rfl ?_
      refine r_iconst X (v := 1) dX3_noiseAt_31 (by decide) ?_
      refine r_iadd X dX3_noiseAt_32 ?_
      obtain ⟨x11, e12, E⟩ := gb_some E
      refine r_iald X dX3_noiseAt_33 e12 ?_
      refine r_iadd X dX3_noiseAt_34 ?_
      refine r_istore_n X 3 (L1 := [(3, .int (x7 + x11)), (2, .int (b0 + 2)), (0, .ref p), (1, .int b0)]) dX3_noiseAt_35 rfl (by decide) rfl ?_
      refine r_aload_n X 0 dX3_noiseAt_36 rfl rfl ?_
      obtain ⟨x13, e14, E⟩ := gb_some E
      refine r_getR X dX3_noiseAt_37 f_X3_24 e14 ?_
      refine r_iload_n X 2 dX3_noiseAt_40 rfl rfl ?_
      refine r_iconst X (v := 2) dX3_noiseAt_41 (by decide) ?_
      refine r_isub X dX3_noiseAt_42 ?_
      obtain ⟨x15, e16, E⟩ := gb_some E
      refine r_iald X dX3_noiseAt_43 e16 ?_
      refine r_aload_n X 0 dX3_noiseAt_44 rfl rfl ?_
      obtain ⟨x17, e18, E⟩ := gb_some E
      refine r_getR X dX3_noiseAt_45 f_X3_24 e18 ?_
      refine r_iload_n X 2 dX3_noiseAt_48 rfl rfl ?_
      refine r_iconst X (v := 2) dX3_noiseAt_49 (by decide) ?_
      refine r_iadd X dX3_noiseAt_50 ?_
      obtain ⟨x19, e20, E⟩ := gb_some E
      refine r_iald X dX3_noiseAt_51 e20 ?_
      refine r_iadd X dX3_noiseAt_52 ?_
      refine r_istore X (L1 := [(4, .int (x15 + x19)), (3, .int (x7 + x11)), (2, .int (b0 + 2)), (0, .ref p), (1, .int b0)]) dX3_noiseAt_53 (by decide) rfl ?_
      refine r_iload_n X 3 dX3_noiseAt_55 rfl rfl ?_
      refine r_iload X dX3_noiseAt_56 rfl ?_
      refine r_iconst X (v := 2) dX3_noiseAt_58 (by decide) ?_
      refine r_idiv X dX3_noiseAt_59 (by decide) ?_
      refine r_iadd X dX3_noiseAt_60 ?_
      cases E
      exact r_iret X hr dX3_noiseAt_61 (by decide) (by decide)
    · rw [if_neg c4] at E
      refine r_iconst X (v := 0) dX3_noiseAt_12 (by decide) ?_
      cases E
      exact r_iret X hr dX3_noiseAt_13 (by decide) (by decide)
theorem t_x3_noiseAt {l : Launch} {G : GG} {p : Nat} {b0 : Int32} {g : AH} {r : Int32} {g1 : AH} (E : x3_noiseAt p b0 g = some (r, g1)) : Ct l G yX3_noiseAt cX3_noiseAt 5 (some .int) ⟨1, 0, 0, 60⟩ [.ref p, .int b0] g (some (.int r)) g1 :=
  ct_of (L0 := [(0, .ref p), (1, .int b0)]) y_X3_noiseAt rfl (Nat.le_of_ble_eq_true rfl) fun M hl0 X hr hnm => t_x3_noiseAt_b X hl0 hr hnm E
set_option maxHeartbeats 4000000 in
set_option maxRecDepth 100000 in
theorem t_x3_activityNow_b {l : Launch} {G : GG} {M : MC} (X : CX M G cX3_activityNow 3 RX3 ⟨2, 0, 0, 84⟩) (hl0 : M.2.1 = l) (hr : (mM M).sig.returnType = (some .int)) (hnm : (mM M).name = yX3_activityNow.name) {p : Nat} {b0 : Int32} {g : AH} {r : Int32} {g1 : AH} (E : x3_activityNow p b0 g = some (r, g1)) : WW M G 3 (RQ M G (some (.int r)) g1 0 0) 0 0 g 0 [(0, .ref p), (1, .int b0)] [] := by
  unfold x3_activityNow at E
  refine r_aload_n X 0 dX3_activityNow_0 rfl rfl ?_
  obtain ⟨x1, e2, E⟩ := gb_some E
  refine r_getR X dX3_activityNow_1 f_X3_29 e2 ?_
  refine r_iload_n X 1 dX3_activityNow_4 rfl rfl ?_
  obtain ⟨x3, e4, E⟩ := gb_some E
  refine r_aald X 4 (by decide) rfl dX3_activityNow_5 e4 ?_
  refine r_astore_n X 2 (L1 := [(2, .ref x3), (0, .ref p), (1, .int b0)]) dX3_activityNow_6 rfl (by decide) rfl ?_
  refine r_aload_n X 2 dX3_activityNow_7 rfl rfl ?_
  obtain ⟨u8, e9, E⟩ := gb_some E
  obtain ⟨r5, g6, e7, E⟩ := cb_some E
  refine r_callV0 X hl0 (ci := 1) dX3_activityNow_8 y_X1_isCold m_X3_117 rfl rfl e9 (t_x1_isCold (l := l) (G := G) e7) rfl rfl (Nat.le_of_ble_eq_true rfl) (by decide) ?_
  refine r_if_eq X 16 dX3_activityNow_11 (by decide) (fun c10 => ?_) (fun c10 => ?_)
  · rw [if_pos c10] at E
    refine r_aload_n X 2 dX3_activityNow_16 rfl rfl ?_
    obtain ⟨x11, e12, E⟩ := gb_some E
    refine r_getI X dX3_activityNow_17 f_X3_104 e12 ?_
    refine r_iconst X (v := (-1)) dX3_activityNow_20 (by decide) ?_
    refine r_icmp_ne X 26 dX3_activityNow_21 (by decide) (fun c13 => ?_) (fun c13 => ?_)
    · rw [if_neg c13] at E
      refine r_aload_n X 0 dX3_activityNow_26 rfl rfl ?_
      refine r_aload_n X 2 dX3_activityNow_27 rfl rfl ?_
      obtain ⟨x14, e15, E⟩ := gb_some E
      refine r_getI X dX3_activityNow_28 f_X3_104 e15 ?_
      obtain ⟨u19, e20, E⟩ := gb_some E
      obtain ⟨r16, g17, e18, E⟩ := cb_some E
      refine r_callV0 X hl0 (ci := 3) dX3_activityNow_31 y_X3_noiseAt m_X3_124 rfl rfl e20 (t_x3_noiseAt (l := l) (G := G) e18) rfl rfl (Nat.le_of_ble_eq_true rfl) (by decide) ?_
      refine r_bipush X (v := 6) dX3_activityNow_34 (by decide) ?_
      refine r_icmp_le X 43 dX3_activityNow_36 (by decide) (fun c21 => ?_) (fun c21 => ?_)
      · rw [if_pos c21] at E
        refine r_iconst X (v := 2) dX3_activityNow_43 (by decide) ?_
        cases E
        exact r_iret X hr dX3_activityNow_44 (by decide) (by decide)
      · rw [if_neg c21] at E
        refine r_iconst X (v := 1) dX3_activityNow_39 (by decide) ?_
        refine r_goto X 44 dX3_activityNow_40 (by decide) ?_
        cases E
        exact r_iret X hr dX3_activityNow_44 (by decide) (by decide)
    · rw [if_pos c13] at E
      refine r_iconst X (v := 3) dX3_activityNow_24 (by decide) ?_
      cases E
      exact r_iret X hr dX3_activityNow_25 (by decide) (by decide)
  · rw [if_neg c10] at E
    refine r_iconst X (v := 0) dX3_activityNow_14 (by decide) ?_
    cases E
    exact r_iret X hr dX3_activityNow_15 (by decide) (by decide)
theorem t_x3_activityNow {l : Launch} {G : GG} {p : Nat} {b0 : Int32} {g : AH} {r : Int32} {g1 : AH} (E : x3_activityNow p b0 g = some (r, g1)) : Ct l G yX3_activityNow cX3_activityNow 3 (some .int) ⟨2, 0, 0, 84⟩ [.ref p, .int b0] g (some (.int r)) g1 :=
  ct_of (L0 := [(0, .ref p), (1, .int b0)]) y_X3_activityNow rfl (Nat.le_of_ble_eq_true rfl) fun M hl0 X hr hnm => t_x3_activityNow_b X hl0 hr hnm E
set_option maxHeartbeats 4000000 in
set_option maxRecDepth 100000 in
theorem t_x8_activity_b {l : Launch} {G : GG} {M : MC} (X : CX M G cX8_activity 2 RX8 ⟨8, 1, 6, 221⟩) (hl0 : M.2.1 = l) (hr : (mM M).sig.returnType = (some .int)) (hnm : (mM M).name = yX8_activity.name) (hnt : ∀ x ∈ (mC M).exceptionTable.toList, False) (hst : l.stackTraces = false) {p : Nat} {b0 : Int32} {g : AH} {o : (Int32 ⊕ String)} {g1 : AH} (E : x8_activity p b0 g = some (o, g1)) : WW M G 2 (RX M G (ovI o) g1 1 6) 0 0 g 0 [(0, .ref p), (1, .int b0)] [] := by
  unfold x8_activity at E
  refine r_aload_n X 0 dX8_activity_0 rfl rfl ?_
  refine r_iload_n X 1 dX8_activity_1 rfl rfl ?_
  obtain ⟨u4, e5, E⟩ := gb_some E
  obtain ⟨r1, g2, e3, E⟩ := cb_some E
  rcases r1 with v6 | w7
  · rw [Sum.elim_inl] at E
    refine r_callVX X hl0 (ci := 8) dX8_activity_2 y_X8_demandHiker m_X8_181 rfl rfl e5 (t_x8_demandHiker (l := l) hst (G := G) e3) rfl rfl (Nat.le_of_ble_eq_true rfl) (by decide) ?_
    refine r_aload_n X 0 dX8_activity_5 rfl rfl ?_
    obtain ⟨x8, e9, E⟩ := gb_some E
    refine r_getR X dX8_activity_6 f_X8_10 e9 ?_
    refine r_iload_n X 1 dX8_activity_9 rfl rfl ?_
    obtain ⟨u13, e14, E⟩ := gb_some E
    obtain ⟨r10, g11, e12, E⟩ := cb_some E
    refine r_callV0 X hl0 (ci := 3) dX8_activity_10 y_X3_activityNow m_X8_238 rfl rfl e14 (t_x3_activityNow (l := l) (G := G) e12) rfl rfl (Nat.le_of_ble_eq_true rfl) (by decide) ?_
    cases E
    exact r_ret (r_iret X hr dX8_activity_13 (by decide) (by decide))
  · rw [Sum.elim_inr] at E
    cases E
    exact r_thrV X hl0 hnt (ci := 8) dX8_activity_2 y_X8_demandHiker m_X8_181 rfl rfl e5 (t_x8_demandHiker (l := l) hst (G := G) e3) rfl rfl (Nat.le_of_ble_eq_true rfl) (by decide) (by decide) (by decide)
theorem t_x8_activity {l : Launch} (hst : l.stackTraces = false) {G : GG} {p : Nat} {b0 : Int32} {g : AH} {o : (Int32 ⊕ String)} {g1 : AH} (E : x8_activity p b0 g = some (o, g1)) : CtX l G yX8_activity cX8_activity 2 (some .int) ⟨8, 1, 6, 221⟩ [.ref p, .int b0] g (ovI o) g1 :=
  ctX_of (L0 := [(0, .ref p), (1, .int b0)]) y_X8_activity rfl (Nat.le_of_ble_eq_true rfl) fun M hl0 X hr hnm hnt => t_x8_activity_b X hl0 hr hnm hnt hst E
set_option maxHeartbeats 4000000 in
set_option maxRecDepth 100000 in
theorem t_x8_coinsOf_b {l : Launch} {G : GG} {M : MC} (X : CX M G cX8_coinsOf 2 RX8 ⟨8, 1, 6, 221⟩) (hl0 : M.2.1 = l) (hr : (mM M).sig.returnType = (some .int)) (hnm : (mM M).name = yX8_coinsOf.name) (hnt : ∀ x ∈ (mC M).exceptionTable.toList, False) (hst : l.stackTraces = false) {p : Nat} {b0 : Int32} {g : AH} {o : (Int32 ⊕ String)} {g1 : AH} (E : x8_coinsOf p b0 g = some (o, g1)) : WW M G 2 (RX M G (ovI o) g1 1 6) 0 0 g 0 [(0, .ref p), (1, .int b0)] [] := by
  unfold x8_coinsOf at E
  refine r_aload_n X 0 dX8_coinsOf_0 rfl rfl ?_
  refine r_iload_n X 1 dX8_coinsOf_1 rfl rfl ?_
  obtain ⟨u4, e5, E⟩ := gb_some E
  obtain ⟨r1, g2, e3, E⟩ := cb_some E
  rcases r1 with v6 | w7
  · rw [Sum.elim_inl] at E
    refine r_callVX X hl0 (ci := 8) dX8_coinsOf_2 y_X8_demandHiker m_X8_181 rfl rfl e5 (t_x8_demandHiker (l := l) hst (G := G) e3) rfl rfl (Nat.le_of_ble_eq_true rfl) (by decide) ?_
    refine r_aload_n X 0 dX8_coinsOf_5 rfl rfl ?_
    obtain ⟨x8, e9, E⟩ := gb_some E
    refine r_getR X dX8_coinsOf_6 f_X8_10 e9 ?_
    obtain ⟨x10, e11, E⟩ := gb_some E
    refine r_getR X dX8_coinsOf_9 f_X8_223 e11 ?_
    refine r_iload_n X 1 dX8_coinsOf_12 rfl rfl ?_
    obtain ⟨x12, e13, E⟩ := gb_some E
    refine r_aald X 4 (by decide) rfl dX8_coinsOf_13 e13 ?_
    obtain ⟨x14, e15, E⟩ := gb_some E
    refine r_getI X dX8_coinsOf_14 f_X8_246 e15 ?_
    cases E
    exact r_ret (r_iret X hr dX8_coinsOf_17 (by decide) (by decide))
  · rw [Sum.elim_inr] at E
    cases E
    exact r_thrV X hl0 hnt (ci := 8) dX8_coinsOf_2 y_X8_demandHiker m_X8_181 rfl rfl e5 (t_x8_demandHiker (l := l) hst (G := G) e3) rfl rfl (Nat.le_of_ble_eq_true rfl) (by decide) (by decide) (by decide)
theorem t_x8_coinsOf {l : Launch} (hst : l.stackTraces = false) {G : GG} {p : Nat} {b0 : Int32} {g : AH} {o : (Int32 ⊕ String)} {g1 : AH} (E : x8_coinsOf p b0 g = some (o, g1)) : CtX l G yX8_coinsOf cX8_coinsOf 2 (some .int) ⟨8, 1, 6, 221⟩ [.ref p, .int b0] g (ovI o) g1 :=
  ctX_of (L0 := [(0, .ref p), (1, .int b0)]) y_X8_coinsOf rfl (Nat.le_of_ble_eq_true rfl) fun M hl0 X hr hnm hnt => t_x8_coinsOf_b X hl0 hr hnm hnt hst E
set_option maxHeartbeats 4000000 in
set_option maxRecDepth 100000 in
theorem t_x8_debtOf_b {l : Launch} {G : GG} {M : MC} (X : CX M G cX8_debtOf 2 RX8 ⟨8, 1, 6, 221⟩) (hl0 : M.2.1 = l) (hr : (mM M).sig.returnType = (some .int)) (hnm : (mM M).name = yX8_debtOf.name) (hnt : ∀ x ∈ (mC M).exceptionTable.toList, False) (hst : l.stackTraces = false) {p : Nat} {b0 : Int32} {g : AH} {o : (Int32 ⊕ String)} {g1 : AH} (E : x8_debtOf p b0 g = some (o, g1)) : WW M G 2 (RX M G (ovI o) g1 1 6) 0 0 g 0 [(0, .ref p), (1, .int b0)] [] := by
  unfold x8_debtOf at E
  refine r_aload_n X 0 dX8_debtOf_0 rfl rfl ?_
  refine r_iload_n X 1 dX8_debtOf_1 rfl rfl ?_
  obtain ⟨u4, e5, E⟩ := gb_some E
  obtain ⟨r1, g2, e3, E⟩ := cb_some E
  rcases r1 with v6 | w7
  · rw [Sum.elim_inl] at E
    refine r_callVX X hl0 (ci := 8) dX8_debtOf_2 y_X8_demandHiker m_X8_181 rfl rfl e5 (t_x8_demandHiker (l := l) hst (G := G) e3) rfl rfl (Nat.le_of_ble_eq_true rfl) (by decide) ?_
    refine r_aload_n X 0 dX8_debtOf_5 rfl rfl ?_
    obtain ⟨x8, e9, E⟩ := gb_some E
    refine r_getR X dX8_debtOf_6 f_X8_10 e9 ?_
    obtain ⟨x10, e11, E⟩ := gb_some E
    refine r_getR X dX8_debtOf_9 f_X8_223 e11 ?_
    refine r_iload_n X 1 dX8_debtOf_12 rfl rfl ?_
    obtain ⟨x12, e13, E⟩ := gb_some E
    refine r_aald X 4 (by decide) rfl dX8_debtOf_13 e13 ?_
    obtain ⟨x14, e15, E⟩ := gb_some E
    refine r_getI X dX8_debtOf_14 f_X8_249 e15 ?_
    cases E
    exact r_ret (r_iret X hr dX8_debtOf_17 (by decide) (by decide))
  · rw [Sum.elim_inr] at E
    cases E
    exact r_thrV X hl0 hnt (ci := 8) dX8_debtOf_2 y_X8_demandHiker m_X8_181 rfl rfl e5 (t_x8_demandHiker (l := l) hst (G := G) e3) rfl rfl (Nat.le_of_ble_eq_true rfl) (by decide) (by decide) (by decide)
theorem t_x8_debtOf {l : Launch} (hst : l.stackTraces = false) {G : GG} {p : Nat} {b0 : Int32} {g : AH} {o : (Int32 ⊕ String)} {g1 : AH} (E : x8_debtOf p b0 g = some (o, g1)) : CtX l G yX8_debtOf cX8_debtOf 2 (some .int) ⟨8, 1, 6, 221⟩ [.ref p, .int b0] g (ovI o) g1 :=
  ctX_of (L0 := [(0, .ref p), (1, .int b0)]) y_X8_debtOf rfl (Nat.le_of_ble_eq_true rfl) fun M hl0 X hr hnm hnt => t_x8_debtOf_b X hl0 hr hnm hnt hst E
set_option maxHeartbeats 4000000 in
set_option maxRecDepth 100000 in
theorem t_x8_demandBunk_b {l : Launch} {G : GG} {M : MC} (X : CX M G cX8_demandBunk 2 RX8 ⟨7, 1, 6, 200⟩) (hl0 : M.2.1 = l) (hr : (mM M).sig.returnType = none) (hnm : (mM M).name = yX8_demandBunk.name) (hnt : ∀ x ∈ (mC M).exceptionTable.toList, False) (hst : l.stackTraces = false) {p : Nat} {b0 : Int32} {g : AH} {o : (Unit ⊕ String)} {g1 : AH} (E : x8_demandBunk p b0 g = some (o, g1)) : WW M G 2 (RX M G (ovU o) g1 1 6) 0 0 g 0 [(0, .ref p), (1, .int b0)] [] := by
  unfold x8_demandBunk at E
  refine r_aload_n X 0 dX8_demandBunk_0 rfl rfl ?_
  obtain ⟨x1, e2, E⟩ := gb_some E
  refine r_getR X dX8_demandBunk_1 f_X8_10 e2 ?_
  refine r_iload_n X 1 dX8_demandBunk_4 rfl rfl ?_
  obtain ⟨u6, e7, E⟩ := gb_some E
  obtain ⟨r3, g4, e5, E⟩ := cb_some E
  refine r_callV0 X hl0 (ci := 3) dX8_demandBunk_5 y_X3_hasBunk m_X8_188 rfl rfl e7 (t_x3_hasBunk (l := l) (G := G) e5) rfl rfl (Nat.le_of_ble_eq_true rfl) (by decide) ?_
  refine r_if_ne X 21 dX8_demandBunk_8 (by decide) (fun c8 => ?_) (fun c8 => ?_)
  · rw [if_neg c8] at E
    cases E
    exact r_ret (r_vret X hr dX8_demandBunk_21 (by decide) (by decide))
  · rw [if_pos c8] at E
    cases E
    exact r_throw X hl0 hst hnt th_X8_195 k_X8_191 (List.mem_of_getElem? (i := 3) rfl) dX8_demandBunk_11 dX8_demandBunk_14 dX8_demandBunk_15 dX8_demandBunk_17 dX8_demandBunk_20 ⟨by decide, Nat.le_of_ble_eq_true rfl⟩ (by decide) (by decide)
theorem t_x8_demandBunk {l : Launch} (hst : l.stackTraces = false) {G : GG} {p : Nat} {b0 : Int32} {g : AH} {o : (Unit ⊕ String)} {g1 : AH} (E : x8_demandBunk p b0 g = some (o, g1)) : CtX l G yX8_demandBunk cX8_demandBunk 2 none ⟨7, 1, 6, 200⟩ [.ref p, .int b0] g (ovU o) g1 :=
  ctX_of (L0 := [(0, .ref p), (1, .int b0)]) y_X8_demandBunk rfl (Nat.le_of_ble_eq_true rfl) fun M hl0 X hr hnm hnt => t_x8_demandBunk_b X hl0 hr hnm hnt hst E
set_option maxHeartbeats 4000000 in
set_option maxRecDepth 100000 in
theorem t_x3_sleeperIn_b {l : Launch} {G : GG} {M : MC} (X : CX M G cX3_sleeperIn 2 RX3 ⟨2, 0, 0, 81⟩) (hl0 : M.2.1 = l) (hr : (mM M).sig.returnType = (some .int)) (hnm : (mM M).name = yX3_sleeperIn.name) {p : Nat} {b0 : Int32} {g : AH} {r : Int32} {g1 : AH} (E : x3_sleeperIn p b0 g = some (r, g1)) : WW M G 2 (RQ M G (some (.int r)) g1 0 0) 0 0 g 0 [(0, .ref p), (1, .int b0)] [] := by
  unfold x3_sleeperIn at E
  refine r_aload_n X 0 dX3_sleeperIn_0 rfl rfl ?_
  refine r_iload_n X 1 dX3_sleeperIn_1 rfl rfl ?_
  obtain ⟨u4, e5, E⟩ := gb_some E
  obtain ⟨r1, g2, e3, E⟩ := cb_some E
  refine r_callV0 X hl0 (ci := 3) dX3_sleeperIn_2 y_X3_hasBunk m_X3_114 rfl rfl e5 (t_x3_hasBunk (l := l) (G := G) e3) rfl rfl (Nat.le_of_ble_eq_true rfl) (by decide) ?_
  refine r_if_eq X 19 dX3_sleeperIn_5 (by decide) (fun c6 => ?_) (fun c6 => ?_)
  · rw [if_pos c6] at E
    refine r_iconst X (v := (-1)) dX3_sleeperIn_19 (by decide) ?_
    cases E
    exact r_iret X hr dX3_sleeperIn_20 (by decide) (by decide)
  · rw [if_neg c6] at E
    refine r_aload_n X 0 dX3_sleeperIn_8 rfl rfl ?_
    obtain ⟨x7, e8, E⟩ := gb_some E
    refine r_getR X dX3_sleeperIn_9 f_X3_21 e8 ?_
    refine r_iload_n X 1 dX3_sleeperIn_12 rfl rfl ?_
    refine r_iconst X (v := 2) dX3_sleeperIn_13 (by decide) ?_
    refine r_iadd X dX3_sleeperIn_14 ?_
    obtain ⟨x9, e10, E⟩ := gb_some E
    refine r_iald X dX3_sleeperIn_15 e10 ?_
    refine r_goto X 20 dX3_sleeperIn_16 (by decide) ?_
    cases E
    exact r_iret X hr dX3_sleeperIn_20 (by decide) (by decide)
theorem t_x3_sleeperIn {l : Launch} {G : GG} {p : Nat} {b0 : Int32} {g : AH} {r : Int32} {g1 : AH} (E : x3_sleeperIn p b0 g = some (r, g1)) : Ct l G yX3_sleeperIn cX3_sleeperIn 2 (some .int) ⟨2, 0, 0, 81⟩ [.ref p, .int b0] g (some (.int r)) g1 :=
  ct_of (L0 := [(0, .ref p), (1, .int b0)]) y_X3_sleeperIn rfl (Nat.le_of_ble_eq_true rfl) fun M hl0 X hr hnm => t_x3_sleeperIn_b X hl0 hr hnm E
set_option maxHeartbeats 4000000 in
set_option maxRecDepth 100000 in
theorem t_x8_hikerIn_b {l : Launch} {G : GG} {M : MC} (X : CX M G cX8_hikerIn 2 RX8 ⟨8, 1, 6, 221⟩) (hl0 : M.2.1 = l) (hr : (mM M).sig.returnType = (some .int)) (hnm : (mM M).name = yX8_hikerIn.name) (hnt : ∀ x ∈ (mC M).exceptionTable.toList, False) (hst : l.stackTraces = false) {p : Nat} {b0 : Int32} {g : AH} {o : (Int32 ⊕ String)} {g1 : AH} (E : x8_hikerIn p b0 g = some (o, g1)) : WW M G 2 (RX M G (ovI o) g1 1 6) 0 0 g 0 [(0, .ref p), (1, .int b0)] [] := by
  unfold x8_hikerIn at E
  refine r_aload_n X 0 dX8_hikerIn_0 rfl rfl ?_
  refine r_iload_n X 1 dX8_hikerIn_1 rfl rfl ?_
  obtain ⟨u4, e5, E⟩ := gb_some E
  obtain ⟨r1, g2, e3, E⟩ := cb_some E
  rcases r1 with v6 | w7
  · rw [Sum.elim_inl] at E
    refine r_callVX X hl0 (ci := 8) dX8_hikerIn_2 y_X8_demandBunk m_X8_165 rfl rfl e5 (t_x8_demandBunk (l := l) hst (G := G) e3) rfl rfl (Nat.le_of_ble_eq_true rfl) (by decide) ?_
    refine r_aload_n X 0 dX8_hikerIn_5 rfl rfl ?_
    obtain ⟨x8, e9, E⟩ := gb_some E
    refine r_getR X dX8_hikerIn_6 f_X8_10 e9 ?_
    refine r_iload_n X 1 dX8_hikerIn_9 rfl rfl ?_
    obtain ⟨u13, e14, E⟩ := gb_some E
    obtain ⟨r10, g11, e12, E⟩ := cb_some E
    refine r_callV0 X hl0 (ci := 3) dX8_hikerIn_10 y_X3_sleeperIn m_X8_168 rfl rfl e14 (t_x3_sleeperIn (l := l) (G := G) e12) rfl rfl (Nat.le_of_ble_eq_true rfl) (by decide) ?_
    cases E
    exact r_ret (r_iret X hr dX8_hikerIn_13 (by decide) (by decide))
  · rw [Sum.elim_inr] at E
    cases E
    exact r_thrV X hl0 hnt (ci := 8) dX8_hikerIn_2 y_X8_demandBunk m_X8_165 rfl rfl e5 (t_x8_demandBunk (l := l) hst (G := G) e3) rfl rfl (Nat.le_of_ble_eq_true rfl) (by decide) (by decide) (by decide)
theorem t_x8_hikerIn {l : Launch} (hst : l.stackTraces = false) {G : GG} {p : Nat} {b0 : Int32} {g : AH} {o : (Int32 ⊕ String)} {g1 : AH} (E : x8_hikerIn p b0 g = some (o, g1)) : CtX l G yX8_hikerIn cX8_hikerIn 2 (some .int) ⟨8, 1, 6, 221⟩ [.ref p, .int b0] g (ovI o) g1 :=
  ctX_of (L0 := [(0, .ref p), (1, .int b0)]) y_X8_hikerIn rfl (Nat.le_of_ble_eq_true rfl) fun M hl0 X hr hnm hnt => t_x8_hikerIn_b X hl0 hr hnm hnt hst E
set_option maxHeartbeats 4000000 in
set_option maxRecDepth 100000 in
theorem t_x8_noiseIn_b {l : Launch} {G : GG} {M : MC} (X : CX M G cX8_noiseIn 2 RX8 ⟨8, 1, 6, 221⟩) (hl0 : M.2.1 = l) (hr : (mM M).sig.returnType = (some .int)) (hnm : (mM M).name = yX8_noiseIn.name) (hnt : ∀ x ∈ (mC M).exceptionTable.toList, False) (hst : l.stackTraces = false) {p : Nat} {b0 : Int32} {g : AH} {o : (Int32 ⊕ String)} {g1 : AH} (E : x8_noiseIn p b0 g = some (o, g1)) : WW M G 2 (RX M G (ovI o) g1 1 6) 0 0 g 0 [(0, .ref p), (1, .int b0)] [] := by
  unfold x8_noiseIn at E
  refine r_aload_n X 0 dX8_noiseIn_0 rfl rfl ?_
  refine r_iload_n X 1 dX8_noiseIn_1 rfl rfl ?_
  obtain ⟨u4, e5, E⟩ := gb_some E
  obtain ⟨r1, g2, e3, E⟩ := cb_some E
  rcases r1 with v6 | w7
  · rw [Sum.elim_inl] at E
    refine r_callVX X hl0 (ci := 8) dX8_noiseIn_2 y_X8_demandBunk m_X8_165 rfl rfl e5 (t_x8_demandBunk (l := l) hst (G := G) e3) rfl rfl (Nat.le_of_ble_eq_true rfl) (by decide) ?_
    refine r_aload_n X 0 dX8_noiseIn_5 rfl rfl ?_
    obtain ⟨x8, e9, E⟩ := gb_some E
    refine r_getR X dX8_noiseIn_6 f_X8_10 e9 ?_
    refine r_iload_n X 1 dX8_noiseIn_9 rfl rfl ?_
    obtain ⟨u13, e14, E⟩ := gb_some E
    obtain ⟨r10, g11, e12, E⟩ := cb_some E
    refine r_callV0 X hl0 (ci := 3) dX8_noiseIn_10 y_X3_noiseAt m_X8_172 rfl rfl e14 (t_x3_noiseAt (l := l) (G := G) e12) rfl rfl (Nat.le_of_ble_eq_true rfl) (by decide) ?_
    cases E
    exact r_ret (r_iret X hr dX8_noiseIn_13 (by decide) (by decide))
  · rw [Sum.elim_inr] at E
    cases E
    exact r_thrV X hl0 hnt (ci := 8) dX8_noiseIn_2 y_X8_demandBunk m_X8_165 rfl rfl e5 (t_x8_demandBunk (l := l) hst (G := G) e3) rfl rfl (Nat.le_of_ble_eq_true rfl) (by decide) (by decide) (by decide)
theorem t_x8_noiseIn {l : Launch} (hst : l.stackTraces = false) {G : GG} {p : Nat} {b0 : Int32} {g : AH} {o : (Int32 ⊕ String)} {g1 : AH} (E : x8_noiseIn p b0 g = some (o, g1)) : CtX l G yX8_noiseIn cX8_noiseIn 2 (some .int) ⟨8, 1, 6, 221⟩ [.ref p, .int b0] g (ovI o) g1 :=
  ctX_of (L0 := [(0, .ref p), (1, .int b0)]) y_X8_noiseIn rfl (Nat.le_of_ble_eq_true rfl) fun M hl0 X hr hnm hnt => t_x8_noiseIn_b X hl0 hr hnm hnt hst E
set_option maxHeartbeats 4000000 in
set_option maxRecDepth 100000 in
theorem t_x3_userOfBlanket_l2 {l : Launch} {G : GG} {M : MC} (X : CX M G cX3_userOfBlanket 3 RX3 ⟨1, 0, 0, 60⟩) (hl0 : M.2.1 = l) (hr : (mM M).sig.returnType = (some .int)) (hnm : (mM M).name = yX3_userOfBlanket.name) {Q : State → Prop} {kc ks : Nat} {s9 : ((Int32) ⊕ ((Unit) ⊕ Int32))} {g1 : AH} {a0 : Nat} {a1 : Int32} {s0 : Int32} (hc : ∀ s1, s9 = .inl s1 → WW M G 3 Q kc ks g1 2 [(0, .ref a0), (1, .int a1), (2, .int s1)] []) (hx : ∀ t, s9 = .inr t → Sum.elim (fun t1 => WW M G 3 Q kc ks g1 31 [] []) (fun t2 => ∃ mc ms : Nat, kc ≤ mc ∧ ks ≤ ms ∧ Q = RQ M G (some (.int t2)) g1 mc ms) t) {g : AH} (E : x3_userOfBlanket_l2 a0 a1 s0 g = some (s9, g1)) : WW M G 3 Q kc ks g 2 [(0, .ref a0), (1, .int a1), (2, .int s0)] [] := by
  unfold x3_userOfBlanket_l2 at E
  refine r_iload_n X 2 dX3_userOfBlanket_2 rfl rfl ?_
  refine r_aload_n X 0 dX3_userOfBlanket_3 rfl rfl ?_
  obtain ⟨x1, e2, E⟩ := gb_some E
  refine r_getI X dX3_userOfBlanket_4 f_X3_78 e2 ?_
  refine r_icmp_ge X 31 dX3_userOfBlanket_7 (by decide) (fun c3 => ?_) (fun c3 => ?_)
  · rw [if_pos c3] at E
    cases E
    exact r_pick (by rfl : lpick [(0, .ref a0), (1, .int a1), (2, .int s0)] [] = _) (hx _ rfl)
  · rw [if_neg c3] at E
    refine r_aload_n X 0 dX3_userOfBlanket_10 rfl rfl ?_
    obtain ⟨x4, e5, E⟩ := gb_some E
    refine r_getR X dX3_userOfBlanket_11 f_X3_29 e5 ?_
    refine r_iload_n X 2 dX3_userOfBlanket_14 rfl rfl ?_
    obtain ⟨x6, e7, E⟩ := gb_some E
    refine r_aald X 4 (by decide) rfl dX3_userOfBlanket_15 e7 ?_
    obtain ⟨x8, e9, E⟩ := gb_some E
    refine r_getI X dX3_userOfBlanket_16 f_X3_94 e9 ?_
    refine r_iload_n X 1 dX3_userOfBlanket_19 rfl rfl ?_
    refine r_icmp_ne X 25 dX3_userOfBlanket_20 (by decide) (fun c10 => ?_) (fun c10 => ?_)
    · rw [if_neg c10] at E
      refine r_iinc X (v := (s0 + 1)) (L1 := [(2, .int (s0 + 1)), (0, .ref a0), (1, .int a1)]) dX3_userOfBlanket_25 rfl rfl (by decide) rfl ?_
      refine r_goto X 2 dX3_userOfBlanket_28 (by decide) ?_
      cases E
      exact r_pick (by rfl : lpick [(2, .int (s0 + 1)), (0, .ref a0), (1, .int a1)] [1, 2, 0] = _) (hc _ rfl)
    · rw [if_pos c10] at E
      refine r_iload_n X 2 dX3_userOfBlanket_23 rfl rfl ?_
      cases E
      obtain ⟨mc9, ms9, h91, h92, rfl⟩ := hx _ rfl
      exact r_iret X hr dX3_userOfBlanket_24 h91 h92
set_option maxHeartbeats 4000000 in
theorem t_x3_userOfBlanket_l2_r {l : Launch} {G : GG} {M : MC} (X : CX M G cX3_userOfBlanket 3 RX3 ⟨1, 0, 0, 60⟩) (hl0 : M.2.1 = l) (hr : (mM M).sig.returnType = (some .int)) (hnm : (mM M).name = yX3_userOfBlanket.name) {Q : State → Prop} {kc ks : Nat} {a0 : Nat} {a1 : Int32} : ∀ (n : Nat) (s0 : Int32) (g : AH) (t : ((Unit) ⊕ Int32)) (g1 : AH), loopX (x3_userOfBlanket_l2 a0 a1) n s0 g = some (t, g1) → Sum.elim (fun t1 => WW M G 3 Q kc ks g1 31 [] []) (fun t2 => ∃ mc ms : Nat, kc ≤ mc ∧ ks ≤ ms ∧ Q = RQ M G (some (.int t2)) g1 mc ms) t → WW M G 3 Q kc ks g 2 [(0, .ref a0), (1, .int a1), (2, .int s0)] [] :=
  loop_cps (K := fun t g1 => Sum.elim (fun t1 => WW M G 3 Q kc ks g1 31 [] []) (fun t2 => ∃ mc ms : Nat, kc ≤ mc ∧ ks ≤ ms ∧ Q = RQ M G (some (.int t2)) g1 mc ms) t) (fun _ s0 g => WW M G 3 Q kc ks g 2 [(0, .ref a0), (1, .int a1), (2, .int s0)] []) (fun n s0 g st g1 E hc hx => t_x3_userOfBlanket_l2 X hl0 hr hnm hc hx E)
set_option maxHeartbeats 4000000 in
set_option maxRecDepth 100000 in
theorem t_x3_userOfBlanket_b {l : Launch} {G : GG} {M : MC} (X : CX M G cX3_userOfBlanket 3 RX3 ⟨1, 0, 0, 60⟩) (hl0 : M.2.1 = l) (hr : (mM M).sig.returnType = (some .int)) (hnm : (mM M).name = yX3_userOfBlanket.name) {p : Nat} {b0 : Int32} {g : AH} {r : Int32} {g1 : AH} (E : x3_userOfBlanket p b0 g = some (r, g1)) : WW M G 3 (RQ M G (some (.int r)) g1 0 0) 0 0 g 0 [(0, .ref p), (1, .int b0)] [] := by
  unfold x3_userOfBlanket at E
  refine r_iconst X (v := 0) dX3_userOfBlanket_0 (by decide) ?_
  refine r_istore_n X 2 (L1 := [(2, .int 0), (0, .ref p), (1, .int b0)]) dX3_userOfBlanket_1 rfl (by decide) rfl ?_
  obtain ⟨t1, g2, e3, E⟩ := cb_some E
  rcases t1 with t4 | t5
  · rw [Sum.elim_inl] at E
    refine r_pick (by rfl : lpick [(2, .int 0), (0, .ref p), (1, .int b0)] [1, 2, 0] = _) (t_x3_userOfBlanket_l2_r X hl0 hr hnm _ _ _ _ _ e3 ?_)
    refine r_iconst X (v := (-1)) dX3_userOfBlanket_31 (by decide) ?_
    cases E
    exact r_iret X hr dX3_userOfBlanket_32 (by decide) (by decide)
  · rw [Sum.elim_inr] at E
    cases E
    exact r_pick (by rfl : lpick [(2, .int 0), (0, .ref p), (1, .int b0)] [1, 2, 0] = _) (t_x3_userOfBlanket_l2_r X hl0 hr hnm _ _ _ _ _ e3 ⟨_, _, by decide, by decide, rfl⟩)
theorem t_x3_userOfBlanket {l : Launch} {G : GG} {p : Nat} {b0 : Int32} {g : AH} {r : Int32} {g1 : AH} (E : x3_userOfBlanket p b0 g = some (r, g1)) : Ct l G yX3_userOfBlanket cX3_userOfBlanket 3 (some .int) ⟨1, 0, 0, 60⟩ [.ref p, .int b0] g (some (.int r)) g1 :=
  ct_of (L0 := [(0, .ref p), (1, .int b0)]) y_X3_userOfBlanket rfl (Nat.le_of_ble_eq_true rfl) fun M hl0 X hr hnm => t_x3_userOfBlanket_b X hl0 hr hnm E
set_option maxHeartbeats 4000000 in
set_option maxRecDepth 100000 in
theorem t_x8_userOf_b {l : Launch} {G : GG} {M : MC} (X : CX M G cX8_userOf 2 RX8 ⟨7, 1, 6, 200⟩) (hl0 : M.2.1 = l) (hr : (mM M).sig.returnType = (some .int)) (hnm : (mM M).name = yX8_userOf.name) (hnt : ∀ x ∈ (mC M).exceptionTable.toList, False) (hst : l.stackTraces = false) {p : Nat} {b0 : Int32} {g : AH} {o : (Int32 ⊕ String)} {g1 : AH} (E : x8_userOf p b0 g = some (o, g1)) : WW M G 2 (RX M G (ovI o) g1 1 6) 0 0 g 0 [(0, .ref p), (1, .int b0)] [] := by
  unfold x8_userOf at E
  refine r_aload_n X 0 dX8_userOf_0 rfl rfl ?_
  obtain ⟨x1, e2, E⟩ := gb_some E
  refine r_getR X dX8_userOf_1 f_X8_10 e2 ?_
  refine r_iload_n X 1 dX8_userOf_4 rfl rfl ?_
  obtain ⟨u6, e7, E⟩ := gb_some E
  obtain ⟨r3, g4, e5, E⟩ := cb_some E
  refine r_callV0 X hl0 (ci := 3) dX8_userOf_5 y_X3_hasBlanket m_X8_201 rfl rfl e7 (t_x3_hasBlanket (l := l) (G := G) e5) rfl rfl (Nat.le_of_ble_eq_true rfl) (by decide) ?_
  refine r_if_ne X 21 dX8_userOf_8 (by decide) (fun c8 => ?_) (fun c8 => ?_)
  · rw [if_neg c8] at E
    refine r_aload_n X 0 dX8_userOf_21 rfl rfl ?_
    obtain ⟨x9, e10, E⟩ := gb_some E
    refine r_getR X dX8_userOf_22 f_X8_10 e10 ?_
    refine r_iload_n X 1 dX8_userOf_25 rfl rfl ?_
    obtain ⟨u14, e15, E⟩ := gb_some E
    obtain ⟨r11, g12, e13, E⟩ := cb_some E
    refine r_callV0 X hl0 (ci := 3) dX8_userOf_26 y_X3_userOfBlanket m_X8_206 rfl rfl e15 (t_x3_userOfBlanket (l := l) (G := G) e13) rfl rfl (Nat.le_of_ble_eq_true rfl) (by decide) ?_
    cases E
    exact r_ret (r_iret X hr dX8_userOf_29 (by decide) (by decide))
  · rw [if_pos c8] at E
    cases E
    exact r_throw X hl0 hst hnt th_X8_195 k_X8_191 (List.mem_of_getElem? (i := 5) rfl) dX8_userOf_11 dX8_userOf_14 dX8_userOf_15 dX8_userOf_17 dX8_userOf_20 ⟨by decide, Nat.le_of_ble_eq_true rfl⟩ (by decide) (by decide)
theorem t_x8_userOf {l : Launch} (hst : l.stackTraces = false) {G : GG} {p : Nat} {b0 : Int32} {g : AH} {o : (Int32 ⊕ String)} {g1 : AH} (E : x8_userOf p b0 g = some (o, g1)) : CtX l G yX8_userOf cX8_userOf 2 (some .int) ⟨7, 1, 6, 200⟩ [.ref p, .int b0] g (ovI o) g1 :=
  ctX_of (L0 := [(0, .ref p), (1, .int b0)]) y_X8_userOf rfl (Nat.le_of_ble_eq_true rfl) fun M hl0 X hr hnm hnt => t_x8_userOf_b X hl0 hr hnm hnt hst E
set_option maxHeartbeats 4000000 in
set_option maxRecDepth 100000 in
theorem t_x1_ranksBefore_b {l : Launch} {G : GG} {M : MC} (X : CX M G cX1_ranksBefore 2 RX1 ⟨1, 0, 0, 60⟩) (hl0 : M.2.1 = l) (hr : (mM M).sig.returnType = (some .boolean)) (hnm : (mM M).name = yX1_ranksBefore.name) {p : Nat} {b0 : Nat} {g : AH} {r : Int32} {g1 : AH} (E : x1_ranksBefore p b0 g = some (r, g1)) : WW M G 2 (RQ M G (some (.int r)) g1 0 0) 0 0 g 0 [(0, .ref p), (1, .ref b0)] [] := by
  unfold x1_ranksBefore at E
  refine r_aload_n X 0 dX1_ranksBefore_0 rfl rfl ?_
  obtain ⟨x1, e2, E⟩ := gb_some E
  refine r_getR X dX1_ranksBefore_1 f_X1_18 e2 ?_
  refine r_iconst X (v := 2) dX1_ranksBefore_4 (by decide) ?_
  obtain ⟨x3, e4, E⟩ := gb_some E
  refine r_iald X dX1_ranksBefore_5 e4 ?_
  refine r_aload_n X 1 dX1_ranksBefore_6 rfl rfl ?_
  obtain ⟨x5, e6, E⟩ := gb_some E
  refine r_getR X dX1_ranksBefore_7 f_X1_18 e6 ?_
  refine r_iconst X (v := 2) dX1_ranksBefore_10 (by decide) ?_
  obtain ⟨x7, e8, E⟩ := gb_some E
  refine r_iald X dX1_ranksBefore_11 e8 ?_
  refine r_icmp_eq X 36 dX1_ranksBefore_12 (by decide) (fun c9 => ?_) (fun c9 => ?_)
  · rw [if_pos c9] at E
    refine r_aload_n X 0 dX1_ranksBefore_36 rfl rfl ?_
    obtain ⟨x10, e11, E⟩ := gb_some E
    refine r_getR X dX1_ranksBefore_37 f_X1_18 e11 ?_
    refine r_iconst X (v := 0) dX1_ranksBefore_40 (by decide) ?_
    obtain ⟨x12, e13, E⟩ := gb_some E
    refine r_iald X dX1_ranksBefore_41 e13 ?_
    refine r_aload_n X 1 dX1_ranksBefore_42 rfl rfl ?_
    obtain ⟨x14, e15, E⟩ := gb_some E
    refine r_getR X dX1_ranksBefore_43 f_X1_18 e15 ?_
    refine r_iconst X (v := 0) dX1_ranksBefore_46 (by decide) ?_
    obtain ⟨x16, e17, E⟩ := gb_some E
    refine r_iald X dX1_ranksBefore_47 e17 ?_
    refine r_icmp_ge X 55 dX1_ranksBefore_48 (by decide) (fun c18 => ?_) (fun c18 => ?_)
    · rw [if_pos c18] at E
      refine r_iconst X (v := 0) dX1_ranksBefore_55 (by decide) ?_
      cases E
      exact r_zret X hr (Or.inl rfl) dX1_ranksBefore_56 (by decide) (by decide)
    · rw [if_neg c18] at E
      refine r_iconst X (v := 1) dX1_ranksBefore_51 (by decide) ?_
      refine r_goto X 56 dX1_ranksBefore_52 (by decide) ?_
      cases E
      exact r_zret X hr (Or.inr rfl) dX1_ranksBefore_56 (by decide) (by decide)
  · rw [if_neg c9] at E
    refine r_aload_n X 0 dX1_ranksBefore_15 rfl rfl ?_
    obtain ⟨x19, e20, E⟩ := gb_some E
    refine r_getR X dX1_ranksBefore_16 f_X1_18 e20 ?_
    refine r_iconst X (v := 2) dX1_ranksBefore_19 (by decide) ?_
    obtain ⟨x21, e22, E⟩ := gb_some E
    refine r_iald X dX1_ranksBefore_20 e22 ?_
    refine r_aload_n X 1 dX1_ranksBefore_21 rfl rfl ?_
    obtain ⟨x23, e24, E⟩ := gb_some E
    refine r_getR X dX1_ranksBefore_22 f_X1_18 e24 ?_
    refine r_iconst X (v := 2) dX1_ranksBefore_25 (by decide) ?_
    obtain ⟨x25, e26, E⟩ := gb_some E
    refine r_iald X dX1_ranksBefore_26 e26 ?_
    refine r_icmp_le X 34 dX1_ranksBefore_27 (by decide) (fun c27 => ?_) (fun c27 => ?_)
    · rw [if_pos c27] at E
      refine r_iconst X (v := 0) dX1_ranksBefore_34 (by decide) ?_
      cases E
      exact r_zret X hr (Or.inl rfl) dX1_ranksBefore_35 (by decide) (by decide)
    · rw [if_neg c27] at E
      refine r_iconst X (v := 1) dX1_ranksBefore_30 (by decide) ?_
      refine r_goto X 35 dX1_ranksBefore_31 (by decide) ?_
      cases E
      exact r_zret X hr (Or.inr rfl) dX1_ranksBefore_35 (by decide) (by decide)
theorem t_x1_ranksBefore {l : Launch} {G : GG} {p : Nat} {b0 : Nat} {g : AH} {r : Int32} {g1 : AH} (E : x1_ranksBefore p b0 g = some (r, g1)) : Ct l G yX1_ranksBefore cX1_ranksBefore 2 (some .boolean) ⟨1, 0, 0, 60⟩ [.ref p, .ref b0] g (some (.int r)) g1 :=
  ct_of (L0 := [(0, .ref p), (1, .ref b0)]) y_X1_ranksBefore rfl (Nat.le_of_ble_eq_true rfl) fun M hl0 X hr hnm => t_x1_ranksBefore_b X hl0 hr hnm E
set_option maxHeartbeats 4000000 in
set_option maxRecDepth 100000 in
theorem t_x3_rankOfHiker_j68_4 {l : Launch} {G : GG} {M : MC} (X : CX M G cX3_rankOfHiker 5 RX3 ⟨2, 0, 0, 81⟩) (hl0 : M.2.1 = l) (hr : (mM M).sig.returnType = (some .int)) (hnm : (mM M).name = yX3_rankOfHiker.name) {Q : State → Prop} {kc ks : Nat} {s9 : ((Int32 × Int32) ⊕ (Int32))} {g1 : AH} {a0 : Nat} {a1 : Int32} {a2 : Int32} {a3 : Int32} (hc : ∀ s1, s9 = .inl s1 → WW M G 5 Q kc ks g1 4 [(0, .ref a0), (1, .int a1), (2, .int s1.1), (3, .int s1.2)] []) (hx : ∀ t, s9 = .inr t → WW M G 5 Q kc ks g1 74 [(2, .int t)] []) {g : AH} (E : x3_rankOfHiker_j68_4 a0 a1 a2 a3 g = some (s9, g1)) : WW M G 5 Q kc ks g 68 [(0, .ref a0), (1, .int a1), (2, .int a2), (3, .int a3)] [] := by
  unfold x3_rankOfHiker_j68_4 at E
  refine r_iinc X (v := (a3 + 1)) (L1 := [(3, .int (a3 + 1)), (0, .ref a0), (1, .int a1), (2, .int a2)]) dX3_rankOfHiker_68 rfl rfl (by decide) rfl ?_
  refine r_goto X 4 dX3_rankOfHiker_71 (by decide) ?_
  cases E
  exact r_pick (by rfl : lpick [(3, .int (a3 + 1)), (0, .ref a0), (1, .int a1), (2, .int a2)] [1, 2, 3, 0] = _) (hc _ rfl)
set_option maxHeartbeats 4000000 in
set_option maxRecDepth 100000 in
theorem t_x3_rankOfHiker_j65_4 {l : Launch} {G : GG} {M : MC} (X : CX M G cX3_rankOfHiker 5 RX3 ⟨2, 0, 0, 81⟩) (hl0 : M.2.1 = l) (hr : (mM M).sig.returnType = (some .int)) (hnm : (mM M).name = yX3_rankOfHiker.name) {Q : State → Prop} {kc ks : Nat} {s9 : ((Int32 × Int32) ⊕ (Int32))} {g1 : AH} {a0 : Nat} {a1 : Int32} {a2 : Int32} {a3 : Int32} (hc : ∀ s1, s9 = .inl s1 → WW M G 5 Q kc ks g1 4 [(0, .ref a0), (1, .int a1), (2, .int s1.1), (3, .int s1.2)] []) (hx : ∀ t, s9 = .inr t → WW M G 5 Q kc ks g1 74 [(2, .int t)] []) {g : AH} (E : x3_rankOfHiker_j65_4 a0 a1 a2 a3 g = some (s9, g1)) : WW M G 5 Q kc ks g 65 [(0, .ref a0), (1, .int a1), (2, .int a2), (3, .int a3)] [] := by
  unfold x3_rankOfHiker_j65_4 at E
  refine r_iinc X (v := (a2 + 1)) (L1 := [(2, .int (a2 + 1)), (0, .ref a0), (1, .int a1), (3, .int a3)]) dX3_rankOfHiker_65 rfl rfl (by decide) rfl ?_
  exact r_pick (by rfl : lpick [(2, .int (a2 + 1)), (0, .ref a0), (1, .int a1), (3, .int a3)] [1, 2, 0, 3] = _) (t_x3_rankOfHiker_j68_4 X hl0 hr hnm hc hx E)
set_option maxHeartbeats 4000000 in
set_option maxRecDepth 100000 in
theorem t_x3_rankOfHiker_j40_4 {l : Launch} {G : GG} {M : MC} (X : CX M G cX3_rankOfHiker 5 RX3 ⟨2, 0, 0, 81⟩) (hl0 : M.2.1 = l) (hr : (mM M).sig.returnType = (some .int)) (hnm : (mM M).name = yX3_rankOfHiker.name) {Q : State → Prop} {kc ks : Nat} {s9 : ((Int32 × Int32) ⊕ (Int32))} {g1 : AH} {a0 : Nat} {a1 : Int32} {a2 : Int32} {a3 : Int32} {s0 : Int32} (hc : ∀ s1, s9 = .inl s1 → WW M G 5 Q kc ks g1 4 [(0, .ref a0), (1, .int a1), (2, .int s1.1), (3, .int s1.2)] []) (hx : ∀ t, s9 = .inr t → WW M G 5 Q kc ks g1 74 [(2, .int t)] []) {g : AH} (E : x3_rankOfHiker_j40_4 a0 a1 a2 a3 s0 g = some (s9, g1)) : WW M G 5 Q kc ks g 40 [(0, .ref a0), (1, .int a1), (2, .int a2), (3, .int a3)] [.int s0] := by
  unfold x3_rankOfHiker_j40_4 at E
  refine r_istore X (L1 := [(4, .int s0), (0, .ref a0), (1, .int a1), (2, .int a2), (3, .int a3)]) dX3_rankOfHiker_40 (by decide) rfl ?_
  refine r_iload X dX3_rankOfHiker_42 rfl ?_
  refine r_if_ne X 65 dX3_rankOfHiker_44 (by decide) (fun c1 => ?_) (fun c1 => ?_)
  · rw [if_neg c1] at E
    exact r_pick (by rfl : lpick [(4, .int s0), (0, .ref a0), (1, .int a1), (2, .int a2), (3, .int a3)] [1, 2, 3, 4] = _) (t_x3_rankOfHiker_j65_4 X hl0 hr hnm hc hx E)
  · rw [if_pos c1] at E
    refine r_aload_n X 0 dX3_rankOfHiker_47 rfl rfl ?_
    obtain ⟨x2, e3, E⟩ := gb_some E
    refine r_getR X dX3_rankOfHiker_48 f_X3_29 e3 ?_
    refine r_iload_n X 3 dX3_rankOfHiker_51 rfl rfl ?_
    obtain ⟨x4, e5, E⟩ := gb_some E
    refine r_aald X 4 (by decide) rfl dX3_rankOfHiker_52 e5 ?_
    refine r_aload_n X 0 dX3_rankOfHiker_53 rfl rfl ?_
    obtain ⟨x6, e7, E⟩ := gb_some E
    refine r_getR X dX3_rankOfHiker_54 f_X3_29 e7 ?_
    refine r_iload_n X 1 dX3_rankOfHiker_57 rfl rfl ?_
    obtain ⟨x8, e9, E⟩ := gb_some E
    refine r_aald X 4 (by decide) rfl dX3_rankOfHiker_58 e9 ?_
    obtain ⟨u13, e14, E⟩ := gb_some E
    obtain ⟨r10, g11, e12, E⟩ := cb_some E
    refine r_callV0 X hl0 (ci := 1) dX3_rankOfHiker_59 y_X1_ranksBefore m_X3_184 rfl rfl e14 (t_x1_ranksBefore (l := l) (G := G) e12) rfl rfl (Nat.le_of_ble_eq_true rfl) (by decide) ?_
    refine r_if_eq X 68 dX3_rankOfHiker_62 (by decide) (fun c15 => ?_) (fun c15 => ?_)
    · rw [if_pos c15] at E
      exact r_pick (by rfl : lpick [(4, .int s0), (0, .ref a0), (1, .int a1), (2, .int a2), (3, .int a3)] [1, 2, 3, 4] = _) (t_x3_rankOfHiker_j68_4 X hl0 hr hnm hc hx E)
    · rw [if_neg c15] at E
      exact r_pick (by rfl : lpick [(4, .int s0), (0, .ref a0), (1, .int a1), (2, .int a2), (3, .int a3)] [1, 2, 3, 4] = _) (t_x3_rankOfHiker_j65_4 X hl0 hr hnm hc hx E)
set_option maxHeartbeats 4000000 in
set_option maxRecDepth 100000 in
theorem t_x3_rankOfHiker_j39_4 {l : Launch} {G : GG} {M : MC} (X : CX M G cX3_rankOfHiker 5 RX3 ⟨2, 0, 0, 81⟩) (hl0 : M.2.1 = l) (hr : (mM M).sig.returnType = (some .int)) (hnm : (mM M).name = yX3_rankOfHiker.name) {Q : State → Prop} {kc ks : Nat} {s9 : ((Int32 × Int32) ⊕ (Int32))} {g1 : AH} {a0 : Nat} {a1 : Int32} {a2 : Int32} {a3 : Int32} (hc : ∀ s1, s9 = .inl s1 → WW M G 5 Q kc ks g1 4 [(0, .ref a0), (1, .int a1), (2, .int s1.1), (3, .int s1.2)] []) (hx : ∀ t, s9 = .inr t → WW M G 5 Q kc ks g1 74 [(2, .int t)] []) {g : AH} (E : x3_rankOfHiker_j39_4 a0 a1 a2 a3 g = some (s9, g1)) : WW M G 5 Q kc ks g 39 [(0, .ref a0), (1, .int a1), (2, .int a2), (3, .int a3)] [] := by
  unfold x3_rankOfHiker_j39_4 at E
  refine r_iconst X (v := 0) dX3_rankOfHiker_39 (by decide) ?_
  exact r_pick (by rfl : lpick [(0, .ref a0), (1, .int a1), (2, .int a2), (3, .int a3)] [0, 1, 2, 3] = _) (t_x3_rankOfHiker_j40_4 X hl0 hr hnm hc hx E)
set_option maxHeartbeats 4000000 in
set_option maxRecDepth 100000 in
theorem t_x3_rankOfHiker_l4 {l : Launch} {G : GG} {M : MC} (X : CX M G cX3_rankOfHiker 5 RX3 ⟨2, 0, 0, 81⟩) (hl0 : M.2.1 = l) (hr : (mM M).sig.returnType = (some .int)) (hnm : (mM M).name = yX3_rankOfHiker.name) {Q : State → Prop} {kc ks : Nat} {s9 : ((Int32 × Int32) ⊕ (Int32))} {g1 : AH} {a0 : Nat} {a1 : Int32} {s0 : Int32 × Int32} (hc : ∀ s1, s9 = .inl s1 → WW M G 5 Q kc ks g1 4 [(0, .ref a0), (1, .int a1), (2, .int s1.1), (3, .int s1.2)] []) (hx : ∀ t, s9 = .inr t → WW M G 5 Q kc ks g1 74 [(2, .int t)] []) {g : AH} (E : x3_rankOfHiker_l4 a0 a1 s0 g = some (s9, g1)) : WW M G 5 Q kc ks g 4 [(0, .ref a0), (1, .int a1), (2, .int s0.1), (3, .int s0.2)] [] := by
  unfold x3_rankOfHiker_l4 at E
  refine r_iload_n X 3 dX3_rankOfHiker_4 rfl rfl ?_
  refine r_aload_n X 0 dX3_rankOfHiker_5 rfl rfl ?_
  obtain ⟨x1, e2, E⟩ := gb_some E
  refine r_getI X dX3_rankOfHiker_6 f_X3_78 e2 ?_
  refine r_icmp_ge X 74 dX3_rankOfHiker_9 (by decide) (fun c3 => ?_) (fun c3 => ?_)
  · rw [if_pos c3] at E
    cases E
    exact r_pick (by rfl : lpick [(0, .ref a0), (1, .int a1), (2, .int s0.1), (3, .int s0.2)] [2] = _) (hx _ rfl)
  · rw [if_neg c3] at E
    refine r_iload_n X 3 dX3_rankOfHiker_12 rfl rfl ?_
    refine r_iload_n X 1 dX3_rankOfHiker_13 rfl rfl ?_
    refine r_icmp_ge X 39 dX3_rankOfHiker_14 (by decide) (fun c4 => ?_) (fun c4 => ?_)
    · rw [if_pos c4] at E
      exact r_pick (by rfl : lpick [(0, .ref a0), (1, .int a1), (2, .int s0.1), (3, .int s0.2)] [0, 1, 2, 3] = _) (t_x3_rankOfHiker_j39_4 X hl0 hr hnm hc hx E)
    · rw [if_neg c4] at E
      refine r_aload_n X 0 dX3_rankOfHiker_17 rfl rfl ?_
      obtain ⟨x5, e6, E⟩ := gb_some E
      refine r_getR X dX3_rankOfHiker_18 f_X3_29 e6 ?_
      refine r_iload_n X 1 dX3_rankOfHiker_21 rfl rfl ?_
      obtain ⟨x7, e8, E⟩ := gb_some E
      refine r_aald X 4 (by decide) rfl dX3_rankOfHiker_22 e8 ?_
      refine r_aload_n X 0 dX3_rankOfHiker_23 rfl rfl ?_
      obtain ⟨x9, e10, E⟩ := gb_some E
      refine r_getR X dX3_rankOfHiker_24 f_X3_29 e10 ?_
      refine r_iload_n X 3 dX3_rankOfHiker_27 rfl rfl ?_
      obtain ⟨x11, e12, E⟩ := gb_some E
      refine r_aald X 4 (by decide) rfl dX3_rankOfHiker_28 e12 ?_
      obtain ⟨u16, e17, E⟩ := gb_some E
      obtain ⟨r13, g14, e15, E⟩ := cb_some E
      refine r_callV0 X hl0 (ci := 1) dX3_rankOfHiker_29 y_X1_ranksBefore m_X3_184 rfl rfl e17 (t_x1_ranksBefore (l := l) (G := G) e15) rfl rfl (Nat.le_of_ble_eq_true rfl) (by decide) ?_
      refine r_if_ne X 39 dX3_rankOfHiker_32 (by decide) (fun c18 => ?_) (fun c18 => ?_)
      · rw [if_neg c18] at E
        exact r_pick (by rfl : lpick [(0, .ref a0), (1, .int a1), (2, .int s0.1), (3, .int s0.2)] [0, 1, 2, 3] = _) (t_x3_rankOfHiker_j39_4 X hl0 hr hnm hc hx E)
      · rw [if_pos c18] at E
        refine r_iconst X (v := 1) dX3_rankOfHiker_35 (by decide) ?_
        refine r_goto X 40 dX3_rankOfHiker_36 (by decide) ?_
        exact r_pick (by rfl : lpick [(0, .ref a0), (1, .int a1), (2, .int s0.1), (3, .int s0.2)] [0, 1, 2, 3] = _) (t_x3_rankOfHiker_j40_4 X hl0 hr hnm hc hx E)
set_option maxHeartbeats 4000000 in
theorem t_x3_rankOfHiker_l4_r {l : Launch} {G : GG} {M : MC} (X : CX M G cX3_rankOfHiker 5 RX3 ⟨2, 0, 0, 81⟩) (hl0 : M.2.1 = l) (hr : (mM M).sig.returnType = (some .int)) (hnm : (mM M).name = yX3_rankOfHiker.name) {Q : State → Prop} {kc ks : Nat} {a0 : Nat} {a1 : Int32} : ∀ (n : Nat) (s0 : Int32 × Int32) (g : AH) (t : (Int32)) (g1 : AH), loopX (x3_rankOfHiker_l4 a0 a1) n s0 g = some (t, g1) → WW M G 5 Q kc ks g1 74 [(2, .int t)] [] → WW M G 5 Q kc ks g 4 [(0, .ref a0), (1, .int a1), (2, .int s0.1), (3, .int s0.2)] [] :=
  loop_cps (K := fun t g1 => WW M G 5 Q kc ks g1 74 [(2, .int t)] []) (fun _ s0 g => WW M G 5 Q kc ks g 4 [(0, .ref a0), (1, .int a1), (2, .int s0.1), (3, .int s0.2)] []) (fun n s0 g st g1 E hc hx => t_x3_rankOfHiker_l4 X hl0 hr hnm hc hx E)
set_option maxHeartbeats 4000000 in
set_option maxRecDepth 100000 in
theorem t_x3_rankOfHiker_b {l : Launch} {G : GG} {M : MC} (X : CX M G cX3_rankOfHiker 5 RX3 ⟨2, 0, 0, 81⟩) (hl0 : M.2.1 = l) (hr : (mM M).sig.returnType = (some .int)) (hnm : (mM M).name = yX3_rankOfHiker.name) {p : Nat} {b0 : Int32} {g : AH} {r : Int32} {g1 : AH} (E : x3_rankOfHiker p b0 g = some (r, g1)) : WW M G 5 (RQ M G (some (.int r)) g1 0 0) 0 0 g 0 [(0, .ref p), (1, .int b0)] [] := by
  unfold x3_rankOfHiker at E
  refine r_iconst X (v := 0) dX3_rankOfHiker_0 (by decide) ?_
  refine r_istore_n X 2 (L1 := [(2, .int 0), (0, .ref p), (1, .int b0)]) dX3_rankOfHiker_1 rfl (by decide) rfl ?_
  refine r_iconst X (v := 0) dX3_rankOfHiker_2 (by decide) ?_
  refine r_istore_n X 3 (L1 := [(3, .int 0), (2, .int 0), (0, .ref p), (1, .int b0)]) dX3_rankOfHiker_3 rfl (by decide) rfl ?_
  obtain ⟨t1, g2, e3, E⟩ := cb_some E
  refine r_pick (by rfl : lpick [(3, .int 0), (2, .int 0), (0, .ref p), (1, .int b0)] [2, 3, 1, 0] = _) (t_x3_rankOfHiker_l4_r X hl0 hr hnm _ _ _ _ _ e3 ?_)
  refine r_iload_n X 2 dX3_rankOfHiker_74 rfl rfl ?_
  cases E
  exact r_iret X hr dX3_rankOfHiker_75 (by decide) (by decide)
theorem t_x3_rankOfHiker {l : Launch} {G : GG} {p : Nat} {b0 : Int32} {g : AH} {r : Int32} {g1 : AH} (E : x3_rankOfHiker p b0 g = some (r, g1)) : Ct l G yX3_rankOfHiker cX3_rankOfHiker 5 (some .int) ⟨2, 0, 0, 81⟩ [.ref p, .int b0] g (some (.int r)) g1 :=
  ct_of (L0 := [(0, .ref p), (1, .int b0)]) y_X3_rankOfHiker rfl (Nat.le_of_ble_eq_true rfl) fun M hl0 X hr hnm => t_x3_rankOfHiker_b X hl0 hr hnm E
set_option maxHeartbeats 4000000 in
set_option maxRecDepth 100000 in
theorem t_x3_hikerOfRank_l2 {l : Launch} {G : GG} {M : MC} (X : CX M G cX3_hikerOfRank 3 RX3 ⟨3, 0, 0, 105⟩) (hl0 : M.2.1 = l) (hr : (mM M).sig.returnType = (some .int)) (hnm : (mM M).name = yX3_hikerOfRank.name) {Q : State → Prop} {kc ks : Nat} {s9 : ((Int32) ⊕ ((Unit) ⊕ Int32))} {g1 : AH} {a0 : Nat} {a1 : Int32} {s0 : Int32} (hc : ∀ s1, s9 = .inl s1 → WW M G 3 Q kc ks g1 2 [(0, .ref a0), (1, .int a1), (2, .int s1)] []) (hx : ∀ t, s9 = .inr t → Sum.elim (fun t1 => WW M G 3 Q kc ks g1 27 [] []) (fun t2 => ∃ mc ms : Nat, kc ≤ mc ∧ ks ≤ ms ∧ Q = RQ M G (some (.int t2)) g1 mc ms) t) {g : AH} (E : x3_hikerOfRank_l2 a0 a1 s0 g = some (s9, g1)) : WW M G 3 Q kc ks g 2 [(0, .ref a0), (1, .int a1), (2, .int s0)] [] := by
  unfold x3_hikerOfRank_l2 at E
  refine r_iload_n X 2 dX3_hikerOfRank_2 rfl rfl ?_
  refine r_aload_n X 0 dX3_hikerOfRank_3 rfl rfl ?_
  obtain ⟨x1, e2, E⟩ := gb_some E
  refine r_getI X dX3_hikerOfRank_4 f_X3_78 e2 ?_
  refine r_icmp_ge X 27 dX3_hikerOfRank_7 (by decide) (fun c3 => ?_) (fun c3 => ?_)
  · rw [if_pos c3] at E
    cases E
    exact r_pick (by rfl : lpick [(0, .ref a0), (1, .int a1), (2, .int s0)] [] = _) (hx _ rfl)
  · rw [if_neg c3] at E
    refine r_aload_n X 0 dX3_hikerOfRank_10 rfl rfl ?_
    refine r_iload_n X 2 dX3_hikerOfRank_11 rfl rfl ?_
    obtain ⟨u7, e8, E⟩ := gb_some E
    obtain ⟨r4, g5, e6, E⟩ := cb_some E
    refine r_callV0 X hl0 (ci := 3) dX3_hikerOfRank_12 y_X3_rankOfHiker m_X3_181 rfl rfl e8 (t_x3_rankOfHiker (l := l) (G := G) e6) rfl rfl (Nat.le_of_ble_eq_true rfl) (by decide) ?_
    refine r_iload_n X 1 dX3_hikerOfRank_15 rfl rfl ?_
    refine r_icmp_ne X 21 dX3_hikerOfRank_16 (by decide) (fun c9 => ?_) (fun c9 => ?_)
    · rw [if_neg c9] at E
      refine r_iinc X (v := (s0 + 1)) (L1 := [(2, .int (s0 + 1)), (0, .ref a0), (1, .int a1)]) dX3_hikerOfRank_21 rfl rfl (by decide) rfl ?_
      refine r_goto X 2 dX3_hikerOfRank_24 (by decide) ?_
      cases E
      exact r_pick (by rfl : lpick [(2, .int (s0 + 1)), (0, .ref a0), (1, .int a1)] [1, 2, 0] = _) (hc _ rfl)
    · rw [if_pos c9] at E
      refine r_iload_n X 2 dX3_hikerOfRank_19 rfl rfl ?_
      cases E
      obtain ⟨mc9, ms9, h91, h92, rfl⟩ := hx _ rfl
      exact r_iret X hr dX3_hikerOfRank_20 h91 h92
set_option maxHeartbeats 4000000 in
theorem t_x3_hikerOfRank_l2_r {l : Launch} {G : GG} {M : MC} (X : CX M G cX3_hikerOfRank 3 RX3 ⟨3, 0, 0, 105⟩) (hl0 : M.2.1 = l) (hr : (mM M).sig.returnType = (some .int)) (hnm : (mM M).name = yX3_hikerOfRank.name) {Q : State → Prop} {kc ks : Nat} {a0 : Nat} {a1 : Int32} : ∀ (n : Nat) (s0 : Int32) (g : AH) (t : ((Unit) ⊕ Int32)) (g1 : AH), loopX (x3_hikerOfRank_l2 a0 a1) n s0 g = some (t, g1) → Sum.elim (fun t1 => WW M G 3 Q kc ks g1 27 [] []) (fun t2 => ∃ mc ms : Nat, kc ≤ mc ∧ ks ≤ ms ∧ Q = RQ M G (some (.int t2)) g1 mc ms) t → WW M G 3 Q kc ks g 2 [(0, .ref a0), (1, .int a1), (2, .int s0)] [] :=
  loop_cps (K := fun t g1 => Sum.elim (fun t1 => WW M G 3 Q kc ks g1 27 [] []) (fun t2 => ∃ mc ms : Nat, kc ≤ mc ∧ ks ≤ ms ∧ Q = RQ M G (some (.int t2)) g1 mc ms) t) (fun _ s0 g => WW M G 3 Q kc ks g 2 [(0, .ref a0), (1, .int a1), (2, .int s0)] []) (fun n s0 g st g1 E hc hx => t_x3_hikerOfRank_l2 X hl0 hr hnm hc hx E)
set_option maxHeartbeats 4000000 in
set_option maxRecDepth 100000 in
theorem t_x3_hikerOfRank_b {l : Launch} {G : GG} {M : MC} (X : CX M G cX3_hikerOfRank 3 RX3 ⟨3, 0, 0, 105⟩) (hl0 : M.2.1 = l) (hr : (mM M).sig.returnType = (some .int)) (hnm : (mM M).name = yX3_hikerOfRank.name) {p : Nat} {b0 : Int32} {g : AH} {r : Int32} {g1 : AH} (E : x3_hikerOfRank p b0 g = some (r, g1)) : WW M G 3 (RQ M G (some (.int r)) g1 0 0) 0 0 g 0 [(0, .ref p), (1, .int b0)] [] := by
  unfold x3_hikerOfRank at E
  refine r_iconst X (v := 0) dX3_hikerOfRank_0 (by decide) ?_
  refine r_istore_n X 2 (L1 := [(2, .int 0), (0, .ref p), (1, .int b0)]) dX3_hikerOfRank_1 rfl (by decide) rfl ?_
  obtain ⟨t1, g2, e3, E⟩ := cb_some E
  rcases t1 with t4 | t5
  · rw [Sum.elim_inl] at E
    refine r_pick (by rfl : lpick [(2, .int 0), (0, .ref p), (1, .int b0)] [1, 2, 0] = _) (t_x3_hikerOfRank_l2_r X hl0 hr hnm _ _ _ _ _ e3 ?_)
    refine r_iconst X (v := (-1)) dX3_hikerOfRank_27 (by decide) ?_
    cases E
    exact r_iret X hr dX3_hikerOfRank_28 (by decide) (by decide)
  · rw [Sum.elim_inr] at E
    cases E
    exact r_pick (by rfl : lpick [(2, .int 0), (0, .ref p), (1, .int b0)] [1, 2, 0] = _) (t_x3_hikerOfRank_l2_r X hl0 hr hnm _ _ _ _ _ e3 ⟨_, _, by decide, by decide, rfl⟩)
theorem t_x3_hikerOfRank {l : Launch} {G : GG} {p : Nat} {b0 : Int32} {g : AH} {r : Int32} {g1 : AH} (E : x3_hikerOfRank p b0 g = some (r, g1)) : Ct l G yX3_hikerOfRank cX3_hikerOfRank 3 (some .int) ⟨3, 0, 0, 105⟩ [.ref p, .int b0] g (some (.int r)) g1 :=
  ct_of (L0 := [(0, .ref p), (1, .int b0)]) y_X3_hikerOfRank rfl (Nat.le_of_ble_eq_true rfl) fun M hl0 X hr hnm => t_x3_hikerOfRank_b X hl0 hr hnm E
set_option maxHeartbeats 4000000 in
set_option maxRecDepth 100000 in
theorem t_x8_hikerAtRank_b {l : Launch} {G : GG} {M : MC} (X : CX M G cX8_hikerAtRank 3 RX8 ⟨7, 1, 6, 200⟩) (hl0 : M.2.1 = l) (hr : (mM M).sig.returnType = (some .int)) (hnm : (mM M).name = yX8_hikerAtRank.name) (hnt : ∀ x ∈ (mC M).exceptionTable.toList, False) (hst : l.stackTraces = false) {p : Nat} {b0 : Int32} {g : AH} {o : (Int32 ⊕ String)} {g1 : AH} (E : x8_hikerAtRank p b0 g = some (o, g1)) : WW M G 3 (RX M G (ovI o) g1 1 6) 0 0 g 0 [(0, .ref p), (1, .int b0)] [] := by
  unfold x8_hikerAtRank at E
  refine r_aload_n X 0 dX8_hikerAtRank_0 rfl rfl ?_
  obtain ⟨x1, e2, E⟩ := gb_some E
  refine r_getR X dX8_hikerAtRank_1 f_X8_10 e2 ?_
  refine r_iload_n X 1 dX8_hikerAtRank_4 rfl rfl ?_
  obtain ⟨u6, e7, E⟩ := gb_some E
  obtain ⟨r3, g4, e5, E⟩ := cb_some E
  refine r_callV0 X hl0 (ci := 3) dX8_hikerAtRank_5 y_X3_hikerOfRank m_X8_252 rfl rfl e7 (t_x3_hikerOfRank (l := l) (G := G) e5) rfl rfl (Nat.le_of_ble_eq_true rfl) (by decide) ?_
  refine r_istore_n X 2 (L1 := [(2, .int r3), (0, .ref p), (1, .int b0)]) dX8_hikerAtRank_8 rfl (by decide) rfl ?_
  refine r_iload_n X 2 dX8_hikerAtRank_9 rfl rfl ?_
  refine r_iconst X (v := (-1)) dX8_hikerAtRank_10 (by decide) ?_
  refine r_icmp_ne X 24 dX8_hikerAtRank_11 (by decide) (fun c8 => ?_) (fun c8 => ?_)
  · rw [if_neg c8] at E
    refine r_iload_n X 2 dX8_hikerAtRank_24 rfl rfl ?_
    cases E
    exact r_ret (r_iret X hr dX8_hikerAtRank_25 (by decide) (by decide))
  · rw [if_pos c8] at E
    cases E
    exact r_throwN X hl0 hst hnt th_X8_216 k_X8_212 (List.mem_of_getElem? (i := 6) rfl) dX8_hikerAtRank_14 dX8_hikerAtRank_17 dX8_hikerAtRank_18 dX8_hikerAtRank_20 dX8_hikerAtRank_23 ⟨by decide, Nat.le_of_ble_eq_true rfl⟩ (by decide) (by decide)
theorem t_x8_hikerAtRank {l : Launch} (hst : l.stackTraces = false) {G : GG} {p : Nat} {b0 : Int32} {g : AH} {o : (Int32 ⊕ String)} {g1 : AH} (E : x8_hikerAtRank p b0 g = some (o, g1)) : CtX l G yX8_hikerAtRank cX8_hikerAtRank 3 (some .int) ⟨7, 1, 6, 200⟩ [.ref p, .int b0] g (ovI o) g1 :=
  ctX_of (L0 := [(0, .ref p), (1, .int b0)]) y_X8_hikerAtRank rfl (Nat.le_of_ble_eq_true rfl) fun M hl0 X hr hnm hnt => t_x8_hikerAtRank_b X hl0 hr hnm hnt hst E
set_option maxHeartbeats 4000000 in
set_option maxRecDepth 100000 in
theorem t_x8_hour_b {l : Launch} {G : GG} {M : MC} (X : CX M G cX8_hour 1 RX8 ⟨1, 0, 0, 60⟩) (hl0 : M.2.1 = l) (hr : (mM M).sig.returnType = (some .int)) (hnm : (mM M).name = yX8_hour.name) {p : Nat} {g : AH} {r : Int32} {g1 : AH} (E : x8_hour p g = some (r, g1)) : WW M G 1 (RQ M G (some (.int r)) g1 0 0) 0 0 g 0 [(0, .ref p)] [] := by
  unfold x8_hour at E
  refine r_aload_n X 0 dX8_hour_0 rfl rfl ?_
  obtain ⟨x1, e2, E⟩ := gb_some E
  refine r_getR X dX8_hour_1 f_X8_10 e2 ?_
  obtain ⟨x3, e4, E⟩ := gb_some E
  refine r_getI X dX8_hour_4 f_X8_152 e4 ?_
  cases E
  exact r_iret X hr dX8_hour_7 (by decide) (by decide)
theorem t_x8_hour {l : Launch} {G : GG} {p : Nat} {g : AH} {r : Int32} {g1 : AH} (E : x8_hour p g = some (r, g1)) : Ct l G yX8_hour cX8_hour 1 (some .int) ⟨1, 0, 0, 60⟩ [.ref p] g (some (.int r)) g1 :=
  ct_of (L0 := [(0, .ref p)]) y_X8_hour rfl (Nat.le_of_ble_eq_true rfl) fun M hl0 X hr hnm => t_x8_hour_b X hl0 hr hnm E
set_option maxHeartbeats 4000000 in
set_option maxRecDepth 100000 in
theorem t_x8_logs_b {l : Launch} {G : GG} {M : MC} (X : CX M G cX8_logs 1 RX8 ⟨1, 0, 0, 60⟩) (hl0 : M.2.1 = l) (hr : (mM M).sig.returnType = (some .int)) (hnm : (mM M).name = yX8_logs.name) {p : Nat} {g : AH} {r : Int32} {g1 : AH} (E : x8_logs p g = some (r, g1)) : WW M G 1 (RQ M G (some (.int r)) g1 0 0) 0 0 g 0 [(0, .ref p)] [] := by
  unfold x8_logs at E
  refine r_aload_n X 0 dX8_logs_0 rfl rfl ?_
  obtain ⟨x1, e2, E⟩ := gb_some E
  refine r_getR X dX8_logs_1 f_X8_10 e2 ?_
  obtain ⟨x3, e4, E⟩ := gb_some E
  refine r_getI X dX8_logs_4 f_X8_159 e4 ?_
  cases E
  exact r_iret X hr dX8_logs_7 (by decide) (by decide)
theorem t_x8_logs {l : Launch} {G : GG} {p : Nat} {g : AH} {r : Int32} {g1 : AH} (E : x8_logs p g = some (r, g1)) : Ct l G yX8_logs cX8_logs 1 (some .int) ⟨1, 0, 0, 60⟩ [.ref p] g (some (.int r)) g1 :=
  ct_of (L0 := [(0, .ref p)]) y_X8_logs rfl (Nat.le_of_ble_eq_true rfl) fun M hl0 X hr hnm => t_x8_logs_b X hl0 hr hnm E
set_option maxHeartbeats 4000000 in
set_option maxRecDepth 100000 in
theorem t_x8_temperature_b {l : Launch} {G : GG} {M : MC} (X : CX M G cX8_temperature 1 RX8 ⟨2, 0, 0, 81⟩) (hl0 : M.2.1 = l) (hr : (mM M).sig.returnType = (some .int)) (hnm : (mM M).name = yX8_temperature.name) {p : Nat} {g : AH} {r : Int32} {g1 : AH} (E : x8_temperature p g = some (r, g1)) : WW M G 1 (RQ M G (some (.int r)) g1 0 0) 0 0 g 0 [(0, .ref p)] [] := by
  unfold x8_temperature at E
  refine r_aload_n X 0 dX8_temperature_0 rfl rfl ?_
  obtain ⟨x1, e2, E⟩ := gb_some E
  refine r_getR X dX8_temperature_1 f_X8_10 e2 ?_
  obtain ⟨u6, e7, E⟩ := gb_some E
  obtain ⟨r3, g4, e5, E⟩ := cb_some E
  refine r_callV0 X hl0 (ci := 3) dX8_temperature_4 y_X3_temperatureInside m_X8_162 rfl rfl e7 (t_x3_temperatureInside (l := l) (G := G) e5) rfl rfl (Nat.le_of_ble_eq_true rfl) (by decide) ?_
  cases E
  exact r_iret X hr dX8_temperature_7 (by decide) (by decide)
theorem t_x8_temperature {l : Launch} {G : GG} {p : Nat} {g : AH} {r : Int32} {g1 : AH} (E : x8_temperature p g = some (r, g1)) : Ct l G yX8_temperature cX8_temperature 1 (some .int) ⟨2, 0, 0, 81⟩ [.ref p] g (some (.int r)) g1 :=
  ct_of (L0 := [(0, .ref p)]) y_X8_temperature rfl (Nat.le_of_ble_eq_true rfl) fun M hl0 X hr hnm => t_x8_temperature_b X hl0 hr hnm E
set_option maxHeartbeats 4000000 in
set_option maxRecDepth 100000 in
theorem t_x8_hutCoins_b {l : Launch} {G : GG} {M : MC} (X : CX M G cX8_hutCoins 1 RX8 ⟨1, 0, 0, 60⟩) (hl0 : M.2.1 = l) (hr : (mM M).sig.returnType = (some .int)) (hnm : (mM M).name = yX8_hutCoins.name) {p : Nat} {g : AH} {r : Int32} {g1 : AH} (E : x8_hutCoins p g = some (r, g1)) : WW M G 1 (RQ M G (some (.int r)) g1 0 0) 0 0 g 0 [(0, .ref p)] [] := by
  unfold x8_hutCoins at E
  refine r_aload_n X 0 dX8_hutCoins_0 rfl rfl ?_
  obtain ⟨x1, e2, E⟩ := gb_some E
  refine r_getR X dX8_hutCoins_1 f_X8_10 e2 ?_
  obtain ⟨x3, e4, E⟩ := gb_some E
  refine r_getI X dX8_hutCoins_4 f_X8_277 e4 ?_
  cases E
  exact r_iret X hr dX8_hutCoins_7 (by decide) (by decide)
theorem t_x8_hutCoins {l : Launch} {G : GG} {p : Nat} {g : AH} {r : Int32} {g1 : AH} (E : x8_hutCoins p g = some (r, g1)) : Ct l G yX8_hutCoins cX8_hutCoins 1 (some .int) ⟨1, 0, 0, 60⟩ [.ref p] g (some (.int r)) g1 :=
  ct_of (L0 := [(0, .ref p)]) y_X8_hutCoins rfl (Nat.le_of_ble_eq_true rfl) fun M hl0 X hr hnm => t_x8_hutCoins_b X hl0 hr hnm E
set_option maxHeartbeats 4000000 in
set_option maxRecDepth 100000 in
theorem t_x8_burnedLogs_b {l : Launch} {G : GG} {M : MC} (X : CX M G cX8_burnedLogs 1 RX8 ⟨1, 0, 0, 60⟩) (hl0 : M.2.1 = l) (hr : (mM M).sig.returnType = (some .int)) (hnm : (mM M).name = yX8_burnedLogs.name) {p : Nat} {g : AH} {r : Int32} {g1 : AH} (E : x8_burnedLogs p g = some (r, g1)) : WW M G 1 (RQ M G (some (.int r)) g1 0 0) 0 0 g 0 [(0, .ref p)] [] := by
  unfold x8_burnedLogs at E
  refine r_aload_n X 0 dX8_burnedLogs_0 rfl rfl ?_
  obtain ⟨x1, e2, E⟩ := gb_some E
  refine r_getR X dX8_burnedLogs_1 f_X8_10 e2 ?_
  obtain ⟨x3, e4, E⟩ := gb_some E
  refine r_getI X dX8_burnedLogs_4 f_X8_280 e4 ?_
  cases E
  exact r_iret X hr dX8_burnedLogs_7 (by decide) (by decide)
theorem t_x8_burnedLogs {l : Launch} {G : GG} {p : Nat} {g : AH} {r : Int32} {g1 : AH} (E : x8_burnedLogs p g = some (r, g1)) : Ct l G yX8_burnedLogs cX8_burnedLogs 1 (some .int) ⟨1, 0, 0, 60⟩ [.ref p] g (some (.int r)) g1 :=
  ct_of (L0 := [(0, .ref p)]) y_X8_burnedLogs rfl (Nat.le_of_ble_eq_true rfl) fun M hl0 X hr hnm => t_x8_burnedLogs_b X hl0 hr hnm E
set_option maxHeartbeats 4000000 in
set_option maxRecDepth 100000 in
theorem t_x3_sumOfDebts_l4 {l : Launch} {G : GG} {M : MC} (X : CX M G cX3_sumOfDebts 3 RX3 ⟨1, 0, 0, 60⟩) (hl0 : M.2.1 = l) (hr : (mM M).sig.returnType = (some .int)) (hnm : (mM M).name = yX3_sumOfDebts.name) {Q : State → Prop} {kc ks : Nat} {s9 : ((Int32 × Int32) ⊕ (Int32))} {g1 : AH} {a0 : Nat} {s0 : Int32 × Int32} (hc : ∀ s1, s9 = .inl s1 → WW M G 3 Q kc ks g1 4 [(0, .ref a0), (1, .int s1.1), (2, .int s1.2)] []) (hx : ∀ t, s9 = .inr t → WW M G 3 Q kc ks g1 30 [(1, .int t)] []) {g : AH} (E : x3_sumOfDebts_l4 a0 s0 g = some (s9, g1)) : WW M G 3 Q kc ks g 4 [(0, .ref a0), (1, .int s0.1), (2, .int s0.2)] [] := by
  unfold x3_sumOfDebts_l4 at E
  refine r_iload_n X 2 dX3_sumOfDebts_4 rfl rfl ?_
  refine r_aload_n X 0 dX3_sumOfDebts_5 rfl rfl ?_
  obtain ⟨x1, e2, E⟩ := gb_some E
  refine r_getI X dX3_sumOfDebts_6 f_X3_78 e2 ?_
  refine r_icmp_ge X 30 dX3_sumOfDebts_9 (by decide) (fun c3 => ?_) (fun c3 => ?_)
  · rw [if_pos c3] at E
    cases E
    exact r_pick (by rfl : lpick [(0, .ref a0), (1, .int s0.1), (2, .int s0.2)] [1] = _) (hx _ rfl)
  · rw [if_neg c3] at E
    refine r_iload_n X 1 dX3_sumOfDebts_12 rfl rfl ?_
    refine r_aload_n X 0 dX3_sumOfDebts_13 rfl rfl ?_
    obtain ⟨x4, e5, E⟩ := gb_some E
    refine r_getR X dX3_sumOfDebts_14 f_X3_29 e5 ?_
    refine r_iload_n X 2 dX3_sumOfDebts_17 rfl rfl ?_
    obtain ⟨x6, e7, E⟩ := gb_some E
    refine r_aald X 4 (by decide) rfl dX3_sumOfDebts_18 e7 ?_
    obtain ⟨x8, e9, E⟩ := gb_some E
    refine r_getI X dX3_sumOfDebts_19 f_X3_191 e9 ?_
    refine r_iadd X dX3_sumOfDebts_22 ?_
    refine r_istore_n X 1 (L1 := [(1, .int (s0.1 + x8)), (0, .ref a0), (2, .int s0.2)]) dX3_sumOfDebts_23 rfl (by decide) rfl ?_
    refine r_iinc X (v := (s0.2 + 1)) (L1 := [(2, .int (s0.2 + 1)), (1, .int (s0.1 + x8)), (0, .ref a0)]) dX3_sumOfDebts_24 rfl rfl (by decide) rfl ?_
    refine r_goto X 4 dX3_sumOfDebts_27 (by decide) ?_
    cases E
    exact r_pick (by rfl : lpick [(2, .int (s0.2 + 1)), (1, .int (s0.1 + x8)), (0, .ref a0)] [2, 1, 0] = _) (hc _ rfl)
set_option maxHeartbeats 4000000 in
theorem t_x3_sumOfDebts_l4_r {l : Launch} {G : GG} {M : MC} (X : CX M G cX3_sumOfDebts 3 RX3 ⟨1, 0, 0, 60⟩) (hl0 : M.2.1 = l) (hr : (mM M).sig.returnType = (some .int)) (hnm : (mM M).name = yX3_sumOfDebts.name) {Q : State → Prop} {kc ks : Nat} {a0 : Nat} : ∀ (n : Nat) (s0 : Int32 × Int32) (g : AH) (t : (Int32)) (g1 : AH), loopX (x3_sumOfDebts_l4 a0) n s0 g = some (t, g1) → WW M G 3 Q kc ks g1 30 [(1, .int t)] [] → WW M G 3 Q kc ks g 4 [(0, .ref a0), (1, .int s0.1), (2, .int s0.2)] [] :=
  loop_cps (K := fun t g1 => WW M G 3 Q kc ks g1 30 [(1, .int t)] []) (fun _ s0 g => WW M G 3 Q kc ks g 4 [(0, .ref a0), (1, .int s0.1), (2, .int s0.2)] []) (fun n s0 g st g1 E hc hx => t_x3_sumOfDebts_l4 X hl0 hr hnm hc hx E)
set_option maxHeartbeats 4000000 in
set_option maxRecDepth 100000 in
theorem t_x3_sumOfDebts_b {l : Launch} {G : GG} {M : MC} (X : CX M G cX3_sumOfDebts 3 RX3 ⟨1, 0, 0, 60⟩) (hl0 : M.2.1 = l) (hr : (mM M).sig.returnType = (some .int)) (hnm : (mM M).name = yX3_sumOfDebts.name) {p : Nat} {g : AH} {r : Int32} {g1 : AH} (E : x3_sumOfDebts p g = some (r, g1)) : WW M G 3 (RQ M G (some (.int r)) g1 0 0) 0 0 g 0 [(0, .ref p)] [] := by
  unfold x3_sumOfDebts at E
  refine r_iconst X (v := 0) dX3_sumOfDebts_0 (by decide) ?_
  refine r_istore_n X 1 (L1 := [(1, .int 0), (0, .ref p)]) dX3_sumOfDebts_1 rfl (by decide) rfl ?_
  refine r_iconst X (v := 0) dX3_sumOfDebts_2 (by decide) ?_
  refine r_istore_n X 2 (L1 := [(2, .int 0), (1, .int 0), (0, .ref p)]) dX3_sumOfDebts_3 rfl (by decide) rfl ?_
  obtain ⟨t1, g2, e3, E⟩ := cb_some E
  refine r_pick (by rfl : lpick [(2, .int 0), (1, .int 0), (0, .ref p)] [2, 1, 0] = _) (t_x3_sumOfDebts_l4_r X hl0 hr hnm _ _ _ _ _ e3 ?_)
  refine r_iload_n X 1 dX3_sumOfDebts_30 rfl rfl ?_
  cases E
  exact r_iret X hr dX3_sumOfDebts_31 (by decide) (by decide)
theorem t_x3_sumOfDebts {l : Launch} {G : GG} {p : Nat} {g : AH} {r : Int32} {g1 : AH} (E : x3_sumOfDebts p g = some (r, g1)) : Ct l G yX3_sumOfDebts cX3_sumOfDebts 3 (some .int) ⟨1, 0, 0, 60⟩ [.ref p] g (some (.int r)) g1 :=
  ct_of (L0 := [(0, .ref p)]) y_X3_sumOfDebts rfl (Nat.le_of_ble_eq_true rfl) fun M hl0 X hr hnm => t_x3_sumOfDebts_b X hl0 hr hnm E
set_option maxHeartbeats 4000000 in
set_option maxRecDepth 100000 in
theorem t_x8_totalDebt_b {l : Launch} {G : GG} {M : MC} (X : CX M G cX8_totalDebt 1 RX8 ⟨2, 0, 0, 82⟩) (hl0 : M.2.1 = l) (hr : (mM M).sig.returnType = (some .int)) (hnm : (mM M).name = yX8_totalDebt.name) {p : Nat} {g : AH} {r : Int32} {g1 : AH} (E : x8_totalDebt p g = some (r, g1)) : WW M G 1 (RQ M G (some (.int r)) g1 0 0) 0 0 g 0 [(0, .ref p)] [] := by
  unfold x8_totalDebt at E
  refine r_aload_n X 0 dX8_totalDebt_0 rfl rfl ?_
  obtain ⟨x1, e2, E⟩ := gb_some E
  refine r_getR X dX8_totalDebt_1 f_X8_10 e2 ?_
  obtain ⟨u6, e7, E⟩ := gb_some E
  obtain ⟨r3, g4, e5, E⟩ := cb_some E
  refine r_callV0 X hl0 (ci := 3) dX8_totalDebt_4 y_X3_sumOfDebts m_X8_283 rfl rfl e7 (t_x3_sumOfDebts (l := l) (G := G) e5) rfl rfl (Nat.le_of_ble_eq_true rfl) (by decide) ?_
  cases E
  exact r_iret X hr dX8_totalDebt_7 (by decide) (by decide)
theorem t_x8_totalDebt {l : Launch} {G : GG} {p : Nat} {g : AH} {r : Int32} {g1 : AH} (E : x8_totalDebt p g = some (r, g1)) : Ct l G yX8_totalDebt cX8_totalDebt 1 (some .int) ⟨2, 0, 0, 82⟩ [.ref p] g (some (.int r)) g1 :=
  ct_of (L0 := [(0, .ref p)]) y_X8_totalDebt rfl (Nat.le_of_ble_eq_true rfl) fun M hl0 X hr hnm => t_x8_totalDebt_b X hl0 hr hnm E
set_option maxHeartbeats 4000000 in
set_option maxRecDepth 100000 in
theorem t_x3_countOf_j24_4 {l : Launch} {G : GG} {M : MC} (X : CX M G cX3_countOf 4 RX3 ⟨3, 0, 0, 106⟩) (hl0 : M.2.1 = l) (hr : (mM M).sig.returnType = (some .int)) (hnm : (mM M).name = yX3_countOf.name) {Q : State → Prop} {kc ks : Nat} {s9 : ((Int32 × Int32) ⊕ (Int32))} {g1 : AH} {a0 : Nat} {a1 : Int32} {a2 : Int32} {a3 : Int32} (hc : ∀ s1, s9 = .inl s1 → WW M G 4 Q kc ks g1 4 [(0, .ref a0), (1, .int a1), (2, .int s1.1), (3, .int s1.2)] []) (hx : ∀ t, s9 = .inr t → WW M G 4 Q kc ks g1 30 [(2, .int t)] []) {g : AH} (E : x3_countOf_j24_4 a0 a1 a2 a3 g = some (s9, g1)) : WW M G 4 Q kc ks g 24 [(0, .ref a0), (1, .int a1), (2, .int a2), (3, .int a3)] [] := by
  unfold x3_countOf_j24_4 at E
  refine r_iinc X (v := (a3 + 1)) (L1 := [(3, .int (a3 + 1)), (0, .ref a0), (1, .int a1), (2, .int a2)]) dX3_countOf_24 rfl rfl (by decide) rfl ?_
  refine r_goto X 4 dX3_countOf_27 (by decide) ?_
  cases E
  exact r_pick (by rfl : lpick [(3, .int (a3 + 1)), (0, .ref a0), (1, .int a1), (2, .int a2)] [1, 2, 3, 0] = _) (hc _ rfl)
set_option maxHeartbeats 4000000 in
set_option maxRecDepth 100000 in
theorem t_x3_countOf_l4 {l : Launch} {G : GG} {M : MC} (X : CX M G cX3_countOf 4 RX3 ⟨3, 0, 0, 106⟩) (hl0 : M.2.1 = l) (hr : (mM M).sig.returnType = (some .int)) (hnm : (mM M).name = yX3_countOf.name) {Q : State → Prop} {kc ks : Nat} {s9 : ((Int32 × Int32) ⊕ (Int32))} {g1 : AH} {a0 : Nat} {a1 : Int32} {s0 : Int32 × Int32} (hc : ∀ s1, s9 = .inl s1 → WW M G 4 Q kc ks g1 4 [(0, .ref a0), (1, .int a1), (2, .int s1.1), (3, .int s1.2)] []) (hx : ∀ t, s9 = .inr t → WW M G 4 Q kc ks g1 30 [(2, .int t)] []) {g : AH} (E : x3_countOf_l4 a0 a1 s0 g = some (s9, g1)) : WW M G 4 Q kc ks g 4 [(0, .ref a0), (1, .int a1), (2, .int s0.1), (3, .int s0.2)] [] := by
  unfold x3_countOf_l4 at E
  refine r_iload_n X 3 dX3_countOf_4 rfl rfl ?_
  refine r_aload_n X 0 dX3_countOf_5 rfl rfl ?_
  obtain ⟨x1, e2, E⟩ := gb_some E
  refine r_getI X dX3_countOf_6 f_X3_78 e2 ?_
  refine r_icmp_ge X 30 dX3_countOf_9 (by decide) (fun c3 => ?_) (fun c3 => ?_)
  · rw [if_pos c3] at E
    cases E
    exact r_pick (by rfl : lpick [(0, .ref a0), (1, .int a1), (2, .int s0.1), (3, .int s0.2)] [2] = _) (hx _ rfl)
  · rw [if_neg c3] at E
    refine r_aload_n X 0 dX3_countOf_12 rfl rfl ?_
    refine r_iload_n X 3 dX3_countOf_13 rfl rfl ?_
    obtain ⟨u7, e8, E⟩ := gb_some E
    obtain ⟨r4, g5, e6, E⟩ := cb_some E
    refine r_callV0 X hl0 (ci := 3) dX3_countOf_14 y_X3_activityNow m_X3_175 rfl rfl e8 (t_x3_activityNow (l := l) (G := G) e6) rfl rfl (Nat.le_of_ble_eq_true rfl) (by decide) ?_
    refine r_iload_n X 1 dX3_countOf_17 rfl rfl ?_
    refine r_icmp_ne X 24 dX3_countOf_18 (by decide) (fun c9 => ?_) (fun c9 => ?_)
    · rw [if_neg c9] at E
      exact r_pick (by rfl : lpick [(0, .ref a0), (1, .int a1), (2, .int s0.1), (3, .int s0.2)] [0, 1, 2, 3] = _) (t_x3_countOf_j24_4 X hl0 hr hnm hc hx E)
    · rw [if_pos c9] at E
      refine r_iinc X (v := (s0.1 + 1)) (L1 := [(2, .int (s0.1 + 1)), (0, .ref a0), (1, .int a1), (3, .int s0.2)]) dX3_countOf_21 rfl rfl (by decide) rfl ?_
      exact r_pick (by rfl : lpick [(2, .int (s0.1 + 1)), (0, .ref a0), (1, .int a1), (3, .int s0.2)] [1, 2, 0, 3] = _) (t_x3_countOf_j24_4 X hl0 hr hnm hc hx E)
set_option maxHeartbeats 4000000 in
theorem t_x3_countOf_l4_r {l : Launch} {G : GG} {M : MC} (X : CX M G cX3_countOf 4 RX3 ⟨3, 0, 0, 106⟩) (hl0 : M.2.1 = l) (hr : (mM M).sig.returnType = (some .int)) (hnm : (mM M).name = yX3_countOf.name) {Q : State → Prop} {kc ks : Nat} {a0 : Nat} {a1 : Int32} : ∀ (n : Nat) (s0 : Int32 × Int32) (g : AH) (t : (Int32)) (g1 : AH), loopX (x3_countOf_l4 a0 a1) n s0 g = some (t, g1) → WW M G 4 Q kc ks g1 30 [(2, .int t)] [] → WW M G 4 Q kc ks g 4 [(0, .ref a0), (1, .int a1), (2, .int s0.1), (3, .int s0.2)] [] :=
  loop_cps (K := fun t g1 => WW M G 4 Q kc ks g1 30 [(2, .int t)] []) (fun _ s0 g => WW M G 4 Q kc ks g 4 [(0, .ref a0), (1, .int a1), (2, .int s0.1), (3, .int s0.2)] []) (fun n s0 g st g1 E hc hx => t_x3_countOf_l4 X hl0 hr hnm hc hx E)
set_option maxHeartbeats 4000000 in
set_option maxRecDepth 100000 in
theorem t_x3_countOf_b {l : Launch} {G : GG} {M : MC} (X : CX M G cX3_countOf 4 RX3 ⟨3, 0, 0, 106⟩) (hl0 : M.2.1 = l) (hr : (mM M).sig.returnType = (some .int)) (hnm : (mM M).name = yX3_countOf.name) {p : Nat} {b0 : Int32} {g : AH} {r : Int32} {g1 : AH} (E : x3_countOf p b0 g = some (r, g1)) : WW M G 4 (RQ M G (some (.int r)) g1 0 0) 0 0 g 0 [(0, .ref p), (1, .int b0)] [] := by
  unfold x3_countOf at E
  refine r_iconst X (v := 0) dX3_countOf_0 (by decide) ?_
  refine r_istore_n X 2 (L1 := [(2, .int 0), (0, .ref p), (1, .int b0)]) dX3_countOf_1 rfl (by decide) rfl ?_
  refine r_iconst X (v := 0) dX3_countOf_2 (by decide) ?_
  refine r_istore_n X 3 (L1 := [(3, .int 0), (2, .int 0), (0, .ref p), (1, .int b0)]) dX3_countOf_3 rfl (by decide) rfl ?_
  obtain ⟨t1, g2, e3, E⟩ := cb_some E
  refine r_pick (by rfl : lpick [(3, .int 0), (2, .int 0), (0, .ref p), (1, .int b0)] [2, 3, 1, 0] = _) (t_x3_countOf_l4_r X hl0 hr hnm _ _ _ _ _ e3 ?_)
  refine r_iload_n X 2 dX3_countOf_30 rfl rfl ?_
  cases E
  exact r_iret X hr dX3_countOf_31 (by decide) (by decide)
theorem t_x3_countOf {l : Launch} {G : GG} {p : Nat} {b0 : Int32} {g : AH} {r : Int32} {g1 : AH} (E : x3_countOf p b0 g = some (r, g1)) : Ct l G yX3_countOf cX3_countOf 4 (some .int) ⟨3, 0, 0, 106⟩ [.ref p, .int b0] g (some (.int r)) g1 :=
  ct_of (L0 := [(0, .ref p), (1, .int b0)]) y_X3_countOf rfl (Nat.le_of_ble_eq_true rfl) fun M hl0 X hr hnm => t_x3_countOf_b X hl0 hr hnm E
set_option maxHeartbeats 4000000 in
set_option maxRecDepth 100000 in
theorem t_x3_coldCount_b {l : Launch} {G : GG} {M : MC} (X : CX M G cX3_coldCount 1 RX3 ⟨4, 0, 0, 129⟩) (hl0 : M.2.1 = l) (hr : (mM M).sig.returnType = (some .int)) (hnm : (mM M).name = yX3_coldCount.name) {p : Nat} {g : AH} {r : Int32} {g1 : AH} (E : x3_coldCount p g = some (r, g1)) : WW M G 1 (RQ M G (some (.int r)) g1 0 0) 0 0 g 0 [(0, .ref p)] [] := by
  unfold x3_coldCount at E
  refine r_aload_n X 0 dX3_coldCount_0 rfl rfl ?_
  refine r_iconst X (v := 0) dX3_coldCount_1 (by decide) ?_
  obtain ⟨u4, e5, E⟩ := gb_some E
  obtain ⟨r1, g2, e3, E⟩ := cb_some E
  refine r_callV0 X hl0 (ci := 3) dX3_coldCount_2 y_X3_countOf m_X3_172 rfl rfl e5 (t_x3_countOf (l := l) (G := G) e3) rfl rfl (Nat.le_of_ble_eq_true rfl) (by decide) ?_
  cases E
  exact r_iret X hr dX3_coldCount_5 (by decide) (by decide)
theorem t_x3_coldCount {l : Launch} {G : GG} {p : Nat} {g : AH} {r : Int32} {g1 : AH} (E : x3_coldCount p g = some (r, g1)) : Ct l G yX3_coldCount cX3_coldCount 1 (some .int) ⟨4, 0, 0, 129⟩ [.ref p] g (some (.int r)) g1 :=
  ct_of (L0 := [(0, .ref p)]) y_X3_coldCount rfl (Nat.le_of_ble_eq_true rfl) fun M hl0 X hr hnm => t_x3_coldCount_b X hl0 hr hnm E
set_option maxHeartbeats 4000000 in
set_option maxRecDepth 100000 in
theorem t_x8_coldHikers_b {l : Launch} {G : GG} {M : MC} (X : CX M G cX8_coldHikers 1 RX8 ⟨5, 0, 0, 149⟩) (hl0 : M.2.1 = l) (hr : (mM M).sig.returnType = (some .int)) (hnm : (mM M).name = yX8_coldHikers.name) {p : Nat} {g : AH} {r : Int32} {g1 : AH} (E : x8_coldHikers p g = some (r, g1)) : WW M G 1 (RQ M G (some (.int r)) g1 0 0) 0 0 g 0 [(0, .ref p)] [] := by
  unfold x8_coldHikers at E
  refine r_aload_n X 0 dX8_coldHikers_0 rfl rfl ?_
  obtain ⟨x1, e2, E⟩ := gb_some E
  refine r_getR X dX8_coldHikers_1 f_X8_10 e2 ?_
  obtain ⟨u6, e7, E⟩ := gb_some E
  obtain ⟨r3, g4, e5, E⟩ := cb_some E
  refine r_callV0 X hl0 (ci := 3) dX8_coldHikers_4 y_X3_coldCount m_X8_262 rfl rfl e7 (t_x3_coldCount (l := l) (G := G) e5) rfl rfl (Nat.le_of_ble_eq_true rfl) (by decide) ?_
  cases E
  exact r_iret X hr dX8_coldHikers_7 (by decide) (by decide)
theorem t_x8_coldHikers {l : Launch} {G : GG} {p : Nat} {g : AH} {r : Int32} {g1 : AH} (E : x8_coldHikers p g = some (r, g1)) : Ct l G yX8_coldHikers cX8_coldHikers 1 (some .int) ⟨5, 0, 0, 149⟩ [.ref p] g (some (.int r)) g1 :=
  ct_of (L0 := [(0, .ref p)]) y_X8_coldHikers rfl (Nat.le_of_ble_eq_true rfl) fun M hl0 X hr hnm => t_x8_coldHikers_b X hl0 hr hnm E
set_option maxHeartbeats 4000000 in
set_option maxRecDepth 100000 in
theorem t_x3_hikersWithoutBlanket_j28_4 {l : Launch} {G : GG} {M : MC} (X : CX M G cX3_hikersWithoutBlanket 3 RX3 ⟨1, 0, 0, 60⟩) (hl0 : M.2.1 = l) (hr : (mM M).sig.returnType = (some .int)) (hnm : (mM M).name = yX3_hikersWithoutBlanket.name) {Q : State → Prop} {kc ks : Nat} {s9 : ((Int32 × Int32) ⊕ (Int32))} {g1 : AH} {a0 : Nat} {a1 : Int32} {a2 : Int32} (hc : ∀ s1, s9 = .inl s1 → WW M G 3 Q kc ks g1 4 [(0, .ref a0), (1, .int s1.1), (2, .int s1.2)] []) (hx : ∀ t, s9 = .inr t → WW M G 3 Q kc ks g1 34 [(1, .int t)] []) {g : AH} (E : x3_hikersWithoutBlanket_j28_4 a0 a1 a2 g = some (s9, g1)) : WW M G 3 Q kc ks g 28 [(0, .ref a0), (1, .int a1), (2, .int a2)] [] := by
  unfold x3_hikersWithoutBlanket_j28_4 at E
  refine r_iinc X (v := (a2 + 1)) (L1 := [(2, .int (a2 + 1)), (0, .ref a0), (1, .int a1)]) dX3_hikersWithoutBlanket_28 rfl rfl (by decide) rfl ?_
  refine r_goto X 4 dX3_hikersWithoutBlanket_31 (by decide) ?_
  cases E
  exact r_pick (by rfl : lpick [(2, .int (a2 + 1)), (0, .ref a0), (1, .int a1)] [1, 2, 0] = _) (hc _ rfl)
set_option maxHeartbeats 4000000 in
set_option maxRecDepth 100000 in
theorem t_x3_hikersWithoutBlanket_l4 {l : Launch} {G : GG} {M : MC} (X : CX M G cX3_hikersWithoutBlanket 3 RX3 ⟨1, 0, 0, 60⟩) (hl0 : M.2.1 = l) (hr : (mM M).sig.returnType = (some .int)) (hnm : (mM M).name = yX3_hikersWithoutBlanket.name) {Q : State → Prop} {kc ks : Nat} {s9 : ((Int32 × Int32) ⊕ (Int32))} {g1 : AH} {a0 : Nat} {s0 : Int32 × Int32} (hc : ∀ s1, s9 = .inl s1 → WW M G 3 Q kc ks g1 4 [(0, .ref a0), (1, .int s1.1), (2, .int s1.2)] []) (hx : ∀ t, s9 = .inr t → WW M G 3 Q kc ks g1 34 [(1, .int t)] []) {g : AH} (E : x3_hikersWithoutBlanket_l4 a0 s0 g = some (s9, g1)) : WW M G 3 Q kc ks g 4 [(0, .ref a0), (1, .int s0.1), (2, .int s0.2)] [] := by
  unfold x3_hikersWithoutBlanket_l4 at E
  refine r_iload_n X 2 dX3_hikersWithoutBlanket_4 rfl rfl ?_
  refine r_aload_n X 0 dX3_hikersWithoutBlanket_5 rfl rfl ?_
  obtain ⟨x1, e2, E⟩ := gb_some E
  refine r_getI X dX3_hikersWithoutBlanket_6 f_X3_78 e2 ?_
  refine r_icmp_ge X 34 dX3_hikersWithoutBlanket_9 (by decide) (fun c3 => ?_) (fun c3 => ?_)
  · rw [if_pos c3] at E
    cases E
    exact r_pick (by rfl : lpick [(0, .ref a0), (1, .int s0.1), (2, .int s0.2)] [1] = _) (hx _ rfl)
  · rw [if_neg c3] at E
    refine r_aload_n X 0 dX3_hikersWithoutBlanket_12 rfl rfl ?_
    obtain ⟨x4, e5, E⟩ := gb_some E
    refine r_getR X dX3_hikersWithoutBlanket_13 f_X3_29 e5 ?_
    refine r_iload_n X 2 dX3_hikersWithoutBlanket_16 rfl rfl ?_
    obtain ⟨x6, e7, E⟩ := gb_some E
    refine r_aald X 4 (by decide) rfl dX3_hikersWithoutBlanket_17 e7 ?_
    obtain ⟨x8, e9, E⟩ := gb_some E
    refine r_getI X dX3_hikersWithoutBlanket_18 f_X3_94 e9 ?_
    refine r_iconst X (v := (-1)) dX3_hikersWithoutBlanket_21 (by decide) ?_
    refine r_icmp_ne X 28 dX3_hikersWithoutBlanket_22 (by decide) (fun c10 => ?_) (fun c10 => ?_)
    · rw [if_neg c10] at E
      exact r_pick (by rfl : lpick [(0, .ref a0), (1, .int s0.1), (2, .int s0.2)] [0, 1, 2] = _) (t_x3_hikersWithoutBlanket_j28_4 X hl0 hr hnm hc hx E)
    · rw [if_pos c10] at E
      refine r_iinc X (v := (s0.1 + 1)) (L1 := [(1, .int (s0.1 + 1)), (0, .ref a0), (2, .int s0.2)]) dX3_hikersWithoutBlanket_25 rfl rfl (by decide) rfl ?_
      exact r_pick (by rfl : lpick [(1, .int (s0.1 + 1)), (0, .ref a0), (2, .int s0.2)] [1, 0, 2] = _) (t_x3_hikersWithoutBlanket_j28_4 X hl0 hr hnm hc hx E)
set_option maxHeartbeats 4000000 in
theorem t_x3_hikersWithoutBlanket_l4_r {l : Launch} {G : GG} {M : MC} (X : CX M G cX3_hikersWithoutBlanket 3 RX3 ⟨1, 0, 0, 60⟩) (hl0 : M.2.1 = l) (hr : (mM M).sig.returnType = (some .int)) (hnm : (mM M).name = yX3_hikersWithoutBlanket.name) {Q : State → Prop} {kc ks : Nat} {a0 : Nat} : ∀ (n : Nat) (s0 : Int32 × Int32) (g : AH) (t : (Int32)) (g1 : AH), loopX (x3_hikersWithoutBlanket_l4 a0) n s0 g = some (t, g1) → WW M G 3 Q kc ks g1 34 [(1, .int t)] [] → WW M G 3 Q kc ks g 4 [(0, .ref a0), (1, .int s0.1), (2, .int s0.2)] [] :=
  loop_cps (K := fun t g1 => WW M G 3 Q kc ks g1 34 [(1, .int t)] []) (fun _ s0 g => WW M G 3 Q kc ks g 4 [(0, .ref a0), (1, .int s0.1), (2, .int s0.2)] []) (fun n s0 g st g1 E hc hx => t_x3_hikersWithoutBlanket_l4 X hl0 hr hnm hc hx E)
set_option maxHeartbeats 4000000 in
set_option maxRecDepth 100000 in
theorem t_x3_hikersWithoutBlanket_b {l : Launch} {G : GG} {M : MC} (X : CX M G cX3_hikersWithoutBlanket 3 RX3 ⟨1, 0, 0, 60⟩) (hl0 : M.2.1 = l) (hr : (mM M).sig.returnType = (some .int)) (hnm : (mM M).name = yX3_hikersWithoutBlanket.name) {p : Nat} {g : AH} {r : Int32} {g1 : AH} (E : x3_hikersWithoutBlanket p g = some (r, g1)) : WW M G 3 (RQ M G (some (.int r)) g1 0 0) 0 0 g 0 [(0, .ref p)] [] := by
  unfold x3_hikersWithoutBlanket at E
  refine r_iconst X (v := 0) dX3_hikersWithoutBlanket_0 (by decide) ?_
  refine r_istore_n X 1 (L1 := [(1, .int 0), (0, .ref p)]) dX3_hikersWithoutBlanket_1 rfl (by decide) rfl ?_
  refine r_iconst X (v := 0) dX3_hikersWithoutBlanket_2 (by decide) ?_
  refine r_istore_n X 2 (L1 := [(2, .int 0), (1, .int 0), (0, .ref p)]) dX3_hikersWithoutBlanket_3 rfl (by decide) rfl ?_
  obtain ⟨t1, g2, e3, E⟩ := cb_some E
  refine r_pick (by rfl : lpick [(2, .int 0), (1, .int 0), (0, .ref p)] [2, 1, 0] = _) (t_x3_hikersWithoutBlanket_l4_r X hl0 hr hnm _ _ _ _ _ e3 ?_)
  refine r_iload_n X 1 dX3_hikersWithoutBlanket_34 rfl rfl ?_
  cases E
  exact r_iret X hr dX3_hikersWithoutBlanket_35 (by decide) (by decide)
theorem t_x3_hikersWithoutBlanket {l : Launch} {G : GG} {p : Nat} {g : AH} {r : Int32} {g1 : AH} (E : x3_hikersWithoutBlanket p g = some (r, g1)) : Ct l G yX3_hikersWithoutBlanket cX3_hikersWithoutBlanket 3 (some .int) ⟨1, 0, 0, 60⟩ [.ref p] g (some (.int r)) g1 :=
  ct_of (L0 := [(0, .ref p)]) y_X3_hikersWithoutBlanket rfl (Nat.le_of_ble_eq_true rfl) fun M hl0 X hr hnm => t_x3_hikersWithoutBlanket_b X hl0 hr hnm E
set_option maxHeartbeats 4000000 in
set_option maxRecDepth 100000 in
theorem t_x8_hikersWithout_b {l : Launch} {G : GG} {M : MC} (X : CX M G cX8_hikersWithout 1 RX8 ⟨2, 0, 0, 82⟩) (hl0 : M.2.1 = l) (hr : (mM M).sig.returnType = (some .int)) (hnm : (mM M).name = yX8_hikersWithout.name) {p : Nat} {g : AH} {r : Int32} {g1 : AH} (E : x8_hikersWithout p g = some (r, g1)) : WW M G 1 (RQ M G (some (.int r)) g1 0 0) 0 0 g 0 [(0, .ref p)] [] := by
  unfold x8_hikersWithout at E
  refine r_aload_n X 0 dX8_hikersWithout_0 rfl rfl ?_
  obtain ⟨x1, e2, E⟩ := gb_some E
  refine r_getR X dX8_hikersWithout_1 f_X8_10 e2 ?_
  obtain ⟨u6, e7, E⟩ := gb_some E
  obtain ⟨r3, g4, e5, E⟩ := cb_some E
  refine r_callV0 X hl0 (ci := 3) dX8_hikersWithout_4 y_X3_hikersWithoutBlanket m_X8_259 rfl rfl e7 (t_x3_hikersWithoutBlanket (l := l) (G := G) e5) rfl rfl (Nat.le_of_ble_eq_true rfl) (by decide) ?_
  cases E
  exact r_iret X hr dX8_hikersWithout_7 (by decide) (by decide)
theorem t_x8_hikersWithout {l : Launch} {G : GG} {p : Nat} {g : AH} {r : Int32} {g1 : AH} (E : x8_hikersWithout p g = some (r, g1)) : Ct l G yX8_hikersWithout cX8_hikersWithout 1 (some .int) ⟨2, 0, 0, 82⟩ [.ref p] g (some (.int r)) g1 :=
  ct_of (L0 := [(0, .ref p)]) y_X8_hikersWithout rfl (Nat.le_of_ble_eq_true rfl) fun M hl0 X hr hnm => t_x8_hikersWithout_b X hl0 hr hnm E
set_option maxHeartbeats 4000000 in
set_option maxRecDepth 100000 in
theorem t_x3_sumOfWarmths_l4 {l : Launch} {G : GG} {M : MC} (X : CX M G cX3_sumOfWarmths 3 RX3 ⟨1, 0, 0, 60⟩) (hl0 : M.2.1 = l) (hr : (mM M).sig.returnType = (some .int)) (hnm : (mM M).name = yX3_sumOfWarmths.name) {Q : State → Prop} {kc ks : Nat} {s9 : ((Int32 × Int32) ⊕ (Int32))} {g1 : AH} {a0 : Nat} {s0 : Int32 × Int32} (hc : ∀ s1, s9 = .inl s1 → WW M G 3 Q kc ks g1 4 [(0, .ref a0), (1, .int s1.1), (2, .int s1.2)] []) (hx : ∀ t, s9 = .inr t → WW M G 3 Q kc ks g1 30 [(1, .int t)] []) {g : AH} (E : x3_sumOfWarmths_l4 a0 s0 g = some (s9, g1)) : WW M G 3 Q kc ks g 4 [(0, .ref a0), (1, .int s0.1), (2, .int s0.2)] [] := by
  unfold x3_sumOfWarmths_l4 at E
  refine r_iload_n X 2 dX3_sumOfWarmths_4 rfl rfl ?_
  refine r_aload_n X 0 dX3_sumOfWarmths_5 rfl rfl ?_
  obtain ⟨x1, e2, E⟩ := gb_some E
  refine r_getI X dX3_sumOfWarmths_6 f_X3_78 e2 ?_
  refine r_icmp_ge X 30 dX3_sumOfWarmths_9 (by decide) (fun c3 => ?_) (fun c3 => ?_)
  · rw [if_pos c3] at E
    cases E
    exact r_pick (by rfl : lpick [(0, .ref a0), (1, .int s0.1), (2, .int s0.2)] [1] = _) (hx _ rfl)
  · rw [if_neg c3] at E
    refine r_iload_n X 1 dX3_sumOfWarmths_12 rfl rfl ?_
    refine r_aload_n X 0 dX3_sumOfWarmths_13 rfl rfl ?_
    obtain ⟨x4, e5, E⟩ := gb_some E
    refine r_getR X dX3_sumOfWarmths_14 f_X3_29 e5 ?_
    refine r_iload_n X 2 dX3_sumOfWarmths_17 rfl rfl ?_
    obtain ⟨x6, e7, E⟩ := gb_some E
    refine r_aald X 4 (by decide) rfl dX3_sumOfWarmths_18 e7 ?_
    obtain ⟨x8, e9, E⟩ := gb_some E
    refine r_getI X dX3_sumOfWarmths_19 f_X3_111 e9 ?_
    refine r_iadd X dX3_sumOfWarmths_22 ?_
    refine r_istore_n X 1 (L1 := [(1, .int (s0.1 + x8)), (0, .ref a0), (2, .int s0.2)]) dX3_sumOfWarmths_23 rfl (by decide) rfl ?_
    refine r_iinc X (v := (s0.2 + 1)) (L1 := [(2, .int (s0.2 + 1)), (1, .int (s0.1 + x8)), (0, .ref a0)]) dX3_sumOfWarmths_24 rfl rfl (by decide) rfl ?_
    refine r_goto X 4 dX3_sumOfWarmths_27 (by decide) ?_
    cases E
    exact r_pick (by rfl : lpick [(2, .int (s0.2 + 1)), (1, .int (s0.1 + x8)), (0, .ref a0)] [2, 1, 0] = _) (hc _ rfl)
set_option maxHeartbeats 4000000 in
theorem t_x3_sumOfWarmths_l4_r {l : Launch} {G : GG} {M : MC} (X : CX M G cX3_sumOfWarmths 3 RX3 ⟨1, 0, 0, 60⟩) (hl0 : M.2.1 = l) (hr : (mM M).sig.returnType = (some .int)) (hnm : (mM M).name = yX3_sumOfWarmths.name) {Q : State → Prop} {kc ks : Nat} {a0 : Nat} : ∀ (n : Nat) (s0 : Int32 × Int32) (g : AH) (t : (Int32)) (g1 : AH), loopX (x3_sumOfWarmths_l4 a0) n s0 g = some (t, g1) → WW M G 3 Q kc ks g1 30 [(1, .int t)] [] → WW M G 3 Q kc ks g 4 [(0, .ref a0), (1, .int s0.1), (2, .int s0.2)] [] :=
  loop_cps (K := fun t g1 => WW M G 3 Q kc ks g1 30 [(1, .int t)] []) (fun _ s0 g => WW M G 3 Q kc ks g 4 [(0, .ref a0), (1, .int s0.1), (2, .int s0.2)] []) (fun n s0 g st g1 E hc hx => t_x3_sumOfWarmths_l4 X hl0 hr hnm hc hx E)
set_option maxHeartbeats 4000000 in
set_option maxRecDepth 100000 in
theorem t_x3_sumOfWarmths_b {l : Launch} {G : GG} {M : MC} (X : CX M G cX3_sumOfWarmths 3 RX3 ⟨1, 0, 0, 60⟩) (hl0 : M.2.1 = l) (hr : (mM M).sig.returnType = (some .int)) (hnm : (mM M).name = yX3_sumOfWarmths.name) {p : Nat} {g : AH} {r : Int32} {g1 : AH} (E : x3_sumOfWarmths p g = some (r, g1)) : WW M G 3 (RQ M G (some (.int r)) g1 0 0) 0 0 g 0 [(0, .ref p)] [] := by
  unfold x3_sumOfWarmths at E
  refine r_iconst X (v := 0) dX3_sumOfWarmths_0 (by decide) ?_
  refine r_istore_n X 1 (L1 := [(1, .int 0), (0, .ref p)]) dX3_sumOfWarmths_1 rfl (by decide) rfl ?_
  refine r_iconst X (v := 0) dX3_sumOfWarmths_2 (by decide) ?_
  refine r_istore_n X 2 (L1 := [(2, .int 0), (1, .int 0), (0, .ref p)]) dX3_sumOfWarmths_3 rfl (by decide) rfl ?_
  obtain ⟨t1, g2, e3, E⟩ := cb_some E
  refine r_pick (by rfl : lpick [(2, .int 0), (1, .int 0), (0, .ref p)] [2, 1, 0] = _) (t_x3_sumOfWarmths_l4_r X hl0 hr hnm _ _ _ _ _ e3 ?_)
  refine r_iload_n X 1 dX3_sumOfWarmths_30 rfl rfl ?_
  cases E
  exact r_iret X hr dX3_sumOfWarmths_31 (by decide) (by decide)
theorem t_x3_sumOfWarmths {l : Launch} {G : GG} {p : Nat} {g : AH} {r : Int32} {g1 : AH} (E : x3_sumOfWarmths p g = some (r, g1)) : Ct l G yX3_sumOfWarmths cX3_sumOfWarmths 3 (some .int) ⟨1, 0, 0, 60⟩ [.ref p] g (some (.int r)) g1 :=
  ct_of (L0 := [(0, .ref p)]) y_X3_sumOfWarmths rfl (Nat.le_of_ble_eq_true rfl) fun M hl0 X hr hnm => t_x3_sumOfWarmths_b X hl0 hr hnm E
set_option maxHeartbeats 4000000 in
set_option maxRecDepth 100000 in
theorem t_x8_meanWarmth_b {l : Launch} {G : GG} {M : MC} (X : CX M G cX8_meanWarmth 2 RX8 ⟨2, 0, 0, 82⟩) (hl0 : M.2.1 = l) (hr : (mM M).sig.returnType = (some .double)) (hnm : (mM M).name = yX8_meanWarmth.name) {p : Nat} {g : AH} {r : UInt64} {g1 : AH} (E : x8_meanWarmth p g = some (r, g1)) : WW M G 2 (RQ M G (some (.double r)) g1 0 0) 0 0 g 0 [(0, .ref p)] [] := by
  unfold x8_meanWarmth at E
  refine r_aload_n X 0 dX8_meanWarmth_0 rfl rfl ?_
  obtain ⟨x1, e2, E⟩ := gb_some E
  refine r_getR X dX8_meanWarmth_1 f_X8_10 e2 ?_
  obtain ⟨x3, e4, E⟩ := gb_some E
  refine r_getI X dX8_meanWarmth_4 f_X8_116 e4 ?_
  refine r_istore_n X 1 (L1 := [(1, .int x3), (0, .ref p)]) dX8_meanWarmth_7 rfl (by decide) rfl ?_
  refine r_iload_n X 1 dX8_meanWarmth_8 rfl rfl ?_
  refine r_iconst X (v := 1) dX8_meanWarmth_9 (by decide) ?_
  refine r_icmp_ge X 17 dX8_meanWarmth_10 (by decide) (fun c5 => ?_) (fun c5 => ?_)
  · rw [if_pos c5] at E
    refine r_aload_n X 0 dX8_meanWarmth_17 rfl rfl ?_
    obtain ⟨x6, e7, E⟩ := gb_some E
    refine r_getR X dX8_meanWarmth_18 f_X8_10 e7 ?_
    obtain ⟨u11, e12, E⟩ := gb_some E
    obtain ⟨r8, g9, e10, E⟩ := cb_some E
    refine r_callV0 X hl0 (ci := 3) dX8_meanWarmth_21 y_X3_sumOfWarmths m_X8_303 rfl rfl e12 (t_x3_sumOfWarmths (l := l) (G := G) e10) rfl rfl (Nat.le_of_ble_eq_true rfl) (by decide) ?_
    refine r_i2d X dX8_meanWarmth_24 ?_
    refine r_iload_n X 1 dX8_meanWarmth_25 rfl rfl ?_
    refine r_i2d X dX8_meanWarmth_26 ?_
    by_cases c13 : n64 (FP.ddiv (FP.i2d r8) (FP.i2d x3))
    rotate_left
    · rw [if_neg c13] at E; cases E
    rw [if_pos c13] at E
    refine r_ddiv X dX8_meanWarmth_27 c13 ?_
    cases E
    exact r_dret X hr dX8_meanWarmth_28 (by decide) (by decide)
  · rw [if_neg c5] at E
    refine r_dconst0 X dX8_meanWarmth_13 ?_
    refine r_goto X 28 dX8_meanWarmth_14 (by decide) ?_
    cases E
    exact r_dret X hr dX8_meanWarmth_28 (by decide) (by decide)
theorem t_x8_meanWarmth {l : Launch} {G : GG} {p : Nat} {g : AH} {r : UInt64} {g1 : AH} (E : x8_meanWarmth p g = some (r, g1)) : Ct l G yX8_meanWarmth cX8_meanWarmth 2 (some .double) ⟨2, 0, 0, 82⟩ [.ref p] g (some (.double r)) g1 :=
  ct_of (L0 := [(0, .ref p)]) y_X8_meanWarmth rfl (Nat.le_of_ble_eq_true rfl) fun M hl0 X hr hnm => t_x8_meanWarmth_b X hl0 hr hnm E
set_option maxHeartbeats 4000000 in
set_option maxRecDepth 100000 in
theorem t_x3_sumOfHours_l4 {l : Launch} {G : GG} {M : MC} (X : CX M G cX3_sumOfHours 4 RX3 ⟨1, 0, 0, 60⟩) (hl0 : M.2.1 = l) (hr : (mM M).sig.returnType = (some .int)) (hnm : (mM M).name = yX3_sumOfHours.name) {Q : State → Prop} {kc ks : Nat} {s9 : ((Int32 × Int32) ⊕ (Int32))} {g1 : AH} {a0 : Nat} {a1 : Int32} {s0 : Int32 × Int32} (hc : ∀ s1, s9 = .inl s1 → WW M G 4 Q kc ks g1 4 [(0, .ref a0), (1, .int a1), (2, .int s1.1), (3, .int s1.2)] []) (hx : ∀ t, s9 = .inr t → WW M G 4 Q kc ks g1 32 [(2, .int t)] []) {g : AH} (E : x3_sumOfHours_l4 a0 a1 s0 g = some (s9, g1)) : WW M G 4 Q kc ks g 4 [(0, .ref a0), (1, .int a1), (2, .int s0.1), (3, .int s0.2)] [] := by
  unfold x3_sumOfHours_l4 at E
  refine r_iload_n X 3 dX3_sumOfHours_4 rfl rfl ?_
  refine r_aload_n X 0 dX3_sumOfHours_5 rfl rfl ?_
  obtain ⟨x1, e2, E⟩ := gb_some E
  refine r_getI X dX3_sumOfHours_6 f_X3_78 e2 ?_
  refine r_icmp_ge X 32 dX3_sumOfHours_9 (by decide) (fun c3 => ?_) (fun c3 => ?_)
  · rw [if_pos c3] at E
    cases E
    exact r_pick (by rfl : lpick [(0, .ref a0), (1, .int a1), (2, .int s0.1), (3, .int s0.2)] [2] = _) (hx _ rfl)
  · rw [if_neg c3] at E
    refine r_iload_n X 2 dX3_sumOfHours_12 rfl rfl ?_
    refine r_aload_n X 0 dX3_sumOfHours_13 rfl rfl ?_
    obtain ⟨x4, e5, E⟩ := gb_some E
    refine r_getR X dX3_sumOfHours_14 f_X3_29 e5 ?_
    refine r_iload_n X 3 dX3_sumOfHours_17 rfl rfl ?_
    obtain ⟨x6, e7, E⟩ := gb_some E
    refine r_aald X 4 (by decide) rfl dX3_sumOfHours_18 e7 ?_
    obtain ⟨x8, e9, E⟩ := gb_some E
    refine r_getR X dX3_sumOfHours_19 f_X3_194 e9 ?_
    refine r_iload_n X 1 dX3_sumOfHours_22 rfl rfl ?_
    obtain ⟨x10, e11, E⟩ := gb_some E
    refine r_iald X dX3_sumOfHours_23 e11 ?_
    refine r_iadd X dX3_sumOfHours_24 ?_
    refine r_istore_n X 2 (L1 := [(2, .int (s0.1 + x10)), (0, .ref a0), (1, .int a1), (3, .int s0.2)]) dX3_sumOfHours_25 rfl (by decide) rfl ?_
    refine r_iinc X (v := (s0.2 + 1)) (L1 := [(3, .int (s0.2 + 1)), (2, .int (s0.1 + x10)), (0, .ref a0), (1, .int a1)]) dX3_sumOfHours_26 rfl rfl (by decide) rfl ?_
    refine r_goto X 4 dX3_sumOfHours_29 (by decide) ?_
    cases E
    exact r_pick (by rfl : lpick [(3, .int (s0.2 + 1)), (2, .int (s0.1 + x10)), (0, .ref a0), (1, .int a1)] [2, 3, 1, 0] = _) (hc _ rfl)
set_option maxHeartbeats 4000000 in
theorem t_x3_sumOfHours_l4_r {l : Launch} {G : GG} {M : MC} (X : CX M G cX3_sumOfHours 4 RX3 ⟨1, 0, 0, 60⟩) (hl0 : M.2.1 = l) (hr : (mM M).sig.returnType = (some .int)) (hnm : (mM M).name = yX3_sumOfHours.name) {Q : State → Prop} {kc ks : Nat} {a0 : Nat} {a1 : Int32} : ∀ (n : Nat) (s0 : Int32 × Int32) (g : AH) (t : (Int32)) (g1 : AH), loopX (x3_sumOfHours_l4 a0 a1) n s0 g = some (t, g1) → WW M G 4 Q kc ks g1 32 [(2, .int t)] [] → WW M G 4 Q kc ks g 4 [(0, .ref a0), (1, .int a1), (2, .int s0.1), (3, .int s0.2)] [] :=
  loop_cps (K := fun t g1 => WW M G 4 Q kc ks g1 32 [(2, .int t)] []) (fun _ s0 g => WW M G 4 Q kc ks g 4 [(0, .ref a0), (1, .int a1), (2, .int s0.1), (3, .int s0.2)] []) (fun n s0 g st g1 E hc hx => t_x3_sumOfHours_l4 X hl0 hr hnm hc hx E)
set_option maxHeartbeats 4000000 in
set_option maxRecDepth 100000 in
theorem t_x3_sumOfHours_b {l : Launch} {G : GG} {M : MC} (X : CX M G cX3_sumOfHours 4 RX3 ⟨1, 0, 0, 60⟩) (hl0 : M.2.1 = l) (hr : (mM M).sig.returnType = (some .int)) (hnm : (mM M).name = yX3_sumOfHours.name) {p : Nat} {b0 : Int32} {g : AH} {r : Int32} {g1 : AH} (E : x3_sumOfHours p b0 g = some (r, g1)) : WW M G 4 (RQ M G (some (.int r)) g1 0 0) 0 0 g 0 [(0, .ref p), (1, .int b0)] [] := by
  unfold x3_sumOfHours at E
  refine r_iconst X (v := 0) dX3_sumOfHours_0 (by decide) ?_
  refine r_istore_n X 2 (L1 := [(2, .int 0), (0, .ref p), (1, .int b0)]) dX3_sumOfHours_1 rfl (by decide) rfl ?_
  refine r_iconst X (v := 0) dX3_sumOfHours_2 (by decide) ?_
  refine r_istore_n X 3 (L1 := [(3, .int 0), (2, .int 0), (0, .ref p), (1, .int b0)]) dX3_sumOfHours_3 rfl (by decide) rfl ?_
  obtain ⟨t1, g2, e3, E⟩ := cb_some E
  refine r_pick (by rfl : lpick [(3, .int 0), (2, .int 0), (0, .ref p), (1, .int b0)] [2, 3, 1, 0] = _) (t_x3_sumOfHours_l4_r X hl0 hr hnm _ _ _ _ _ e3 ?_)
  refine r_iload_n X 2 dX3_sumOfHours_32 rfl rfl ?_
  cases E
  exact r_iret X hr dX3_sumOfHours_33 (by decide) (by decide)
theorem t_x3_sumOfHours {l : Launch} {G : GG} {p : Nat} {b0 : Int32} {g : AH} {r : Int32} {g1 : AH} (E : x3_sumOfHours p b0 g = some (r, g1)) : Ct l G yX3_sumOfHours cX3_sumOfHours 4 (some .int) ⟨1, 0, 0, 60⟩ [.ref p, .int b0] g (some (.int r)) g1 :=
  ct_of (L0 := [(0, .ref p), (1, .int b0)]) y_X3_sumOfHours rfl (Nat.le_of_ble_eq_true rfl) fun M hl0 X hr hnm => t_x3_sumOfHours_b X hl0 hr hnm E
set_option maxHeartbeats 4000000 in
set_option maxRecDepth 100000 in
theorem t_x8_sleepShare_b {l : Launch} {G : GG} {M : MC} (X : CX M G cX8_sleepShare 2 RX8 ⟨2, 0, 0, 83⟩) (hl0 : M.2.1 = l) (hr : (mM M).sig.returnType = (some .float)) (hnm : (mM M).name = yX8_sleepShare.name) {p : Nat} {g : AH} {r : UInt32} {g1 : AH} (E : x8_sleepShare p g = some (r, g1)) : WW M G 2 (RQ M G (some (.float r)) g1 0 0) 0 0 g 0 [(0, .ref p)] [] := by
  unfold x8_sleepShare at E
  refine r_aload_n X 0 dX8_sleepShare_0 rfl rfl ?_
  obtain ⟨x1, e2, E⟩ := gb_some E
  refine r_getR X dX8_sleepShare_1 f_X8_10 e2 ?_
  obtain ⟨x3, e4, E⟩ := gb_some E
  refine r_getI X dX8_sleepShare_4 f_X8_152 e4 ?_
  refine r_aload_n X 0 dX8_sleepShare_7 rfl rfl ?_
  obtain ⟨x5, e6, E⟩ := gb_some E
  refine r_getR X dX8_sleepShare_8 f_X8_10 e6 ?_
  obtain ⟨x7, e8, E⟩ := gb_some E
  refine r_getI X dX8_sleepShare_11 f_X8_116 e8 ?_
  refine r_imul X dX8_sleepShare_14 ?_
  refine r_istore_n X 1 (L1 := [(1, .int (x3 * x7)), (0, .ref p)]) dX8_sleepShare_15 rfl (by decide) rfl ?_
  refine r_iload_n X 1 dX8_sleepShare_16 rfl rfl ?_
  refine r_iconst X (v := 1) dX8_sleepShare_17 (by decide) ?_
  refine r_icmp_ge X 25 dX8_sleepShare_18 (by decide) (fun c9 => ?_) (fun c9 => ?_)
  · rw [if_pos c9] at E
    refine r_aload_n X 0 dX8_sleepShare_25 rfl rfl ?_
    obtain ⟨x10, e11, E⟩ := gb_some E
    refine r_getR X dX8_sleepShare_26 f_X8_10 e11 ?_
    refine r_iconst X (v := 2) dX8_sleepShare_29 (by decide) ?_
    obtain ⟨u15, e16, E⟩ := gb_some E
    obtain ⟨r12, g13, e14, E⟩ := cb_some E
    refine r_callV0 X hl0 (ci := 3) dX8_sleepShare_30 y_X3_sumOfHours m_X8_306 rfl rfl e16 (t_x3_sumOfHours (l := l) (G := G) e14) rfl rfl (Nat.le_of_ble_eq_true rfl) (by decide) ?_
    refine r_i2f X dX8_sleepShare_33 ?_
    refine r_iload_n X 1 dX8_sleepShare_34 rfl rfl ?_
    refine r_i2f X dX8_sleepShare_35 ?_
    by_cases c17 : n32 (FP.fdiv (FP.i2f r12) (FP.i2f (x3 * x7)))
    rotate_left
    · rw [if_neg c17] at E; cases E
    rw [if_pos c17] at E
    refine r_fdiv X dX8_sleepShare_36 c17 ?_
    cases E
    exact r_fret X hr dX8_sleepShare_37 (by decide) (by decide)
  · rw [if_neg c9] at E
    refine r_fconst0 X dX8_sleepShare_21 ?_
    refine r_goto X 37 dX8_sleepShare_22 (by decide) ?_
    cases E
    exact r_fret X hr dX8_sleepShare_37 (by decide) (by decide)
theorem t_x8_sleepShare {l : Launch} {G : GG} {p : Nat} {g : AH} {r : UInt32} {g1 : AH} (E : x8_sleepShare p g = some (r, g1)) : Ct l G yX8_sleepShare cX8_sleepShare 2 (some .float) ⟨2, 0, 0, 83⟩ [.ref p] g (some (.float r)) g1 :=
  ct_of (L0 := [(0, .ref p)]) y_X8_sleepShare rfl (Nat.le_of_ble_eq_true rfl) fun M hl0 X hr hnm => t_x8_sleepShare_b X hl0 hr hnm E
set_option maxHeartbeats 4000000 in
set_option maxRecDepth 100000 in
theorem t_x3_thingsUsedTwice_j106_16 {l : Launch} {G : GG} {M : MC} (X : CX M G cX3_thingsUsedTwice 4 RX3 ⟨1, 0, 0, 60⟩) (hl0 : M.2.1 = l) (hr : (mM M).sig.returnType = (some .int)) (hnm : (mM M).name = yX3_thingsUsedTwice.name) {Q : State → Prop} {kc ks : Nat} {s9 : ((Int32 × Int32) ⊕ (Int32))} {g1 : AH} {a0 : Nat} {a2 : Int32} {a3 : Int32} {s0 : Int32} {s1 : Int32} (hc : ∀ s1, s9 = .inl s1 → WW M G 4 Q kc ks g1 16 [(0, .ref a0), (1, .int s1.1), (2, .int a2), (3, .int s1.2)] []) (hx : ∀ t, s9 = .inr t → WW M G 4 Q kc ks g1 114 [(0, .ref a0), (1, .int t), (2, .int a2)] []) {g : AH} (E : x3_thingsUsedTwice_j106_16 a0 a2 a3 s0 s1 g = some (s9, g1)) : WW M G 4 Q kc ks g 106 [(0, .ref a0), (2, .int a2), (3, .int a3)] [.int s0, .int s1] := by
  unfold x3_thingsUsedTwice_j106_16 at E
  refine r_iadd X dX3_thingsUsedTwice_106 ?_
  refine r_istore_n X 1 (L1 := [(1, .int (s1 + s0)), (0, .ref a0), (2, .int a2), (3, .int a3)]) dX3_thingsUsedTwice_107 rfl (by decide) rfl ?_
  refine r_iinc X (v := (a3 + 1)) (L1 := [(3, .int (a3 + 1)), (1, .int (s1 + s0)), (0, .ref a0), (2, .int a2)]) dX3_thingsUsedTwice_108 rfl rfl (by decide) rfl ?_
  refine r_goto X 16 dX3_thingsUsedTwice_111 (by decide) ?_
  cases E
  exact r_pick (by rfl : lpick [(3, .int (a3 + 1)), (1, .int (s1 + s0)), (0, .ref a0), (2, .int a2)] [2, 1, 3, 0] = _) (hc _ rfl)
set_option maxHeartbeats 4000000 in
set_option maxRecDepth 100000 in
theorem t_x3_thingsUsedTwice_j105_16 {l : Launch} {G : GG} {M : MC} (X : CX M G cX3_thingsUsedTwice 4 RX3 ⟨1, 0, 0, 60⟩) (hl0 : M.2.1 = l) (hr : (mM M).sig.returnType = (some .int)) (hnm : (mM M).name = yX3_thingsUsedTwice.name) {Q : State → Prop} {kc ks : Nat} {s9 : ((Int32 × Int32) ⊕ (Int32))} {g1 : AH} {a0 : Nat} {a2 : Int32} {a3 : Int32} {s0 : Int32} (hc : ∀ s1, s9 = .inl s1 → WW M G 4 Q kc ks g1 16 [(0, .ref a0), (1, .int s1.1), (2, .int a2), (3, .int s1.2)] []) (hx : ∀ t, s9 = .inr t → WW M G 4 Q kc ks g1 114 [(0, .ref a0), (1, .int t), (2, .int a2)] []) {g : AH} (E : x3_thingsUsedTwice_j105_16 a0 a2 a3 s0 g = some (s9, g1)) : WW M G 4 Q kc ks g 105 [(0, .ref a0), (2, .int a2), (3, .int a3)] [.int s0] := by
  unfold x3_thingsUsedTwice_j105_16 at E
  refine r_iconst X (v := 0) dX3_thingsUsedTwice_105 (by decide) ?_
  exact r_pick (by rfl : lpick [(0, .ref a0), (2, .int a2), (3, .int a3)] [0, 1, 2] = _) (t_x3_thingsUsedTwice_j106_16 X hl0 hr hnm hc hx E)
set_option maxHeartbeats 4000000 in
set_option maxRecDepth 100000 in
theorem t_x3_thingsUsedTwice_j64_16 {l : Launch} {G : GG} {M : MC} (X : CX M G cX3_thingsUsedTwice 4 RX3 ⟨1, 0, 0, 60⟩) (hl0 : M.2.1 = l) (hr : (mM M).sig.returnType = (some .int)) (hnm : (mM M).name = yX3_thingsUsedTwice.name) {Q : State → Prop} {kc ks : Nat} {s9 : ((Int32 × Int32) ⊕ (Int32))} {g1 : AH} {a0 : Nat} {a2 : Int32} {a3 : Int32} {s0 : Int32} {s1 : Int32} (hc : ∀ s1, s9 = .inl s1 → WW M G 4 Q kc ks g1 16 [(0, .ref a0), (1, .int s1.1), (2, .int a2), (3, .int s1.2)] []) (hx : ∀ t, s9 = .inr t → WW M G 4 Q kc ks g1 114 [(0, .ref a0), (1, .int t), (2, .int a2)] []) {g : AH} (E : x3_thingsUsedTwice_j64_16 a0 a2 a3 s0 s1 g = some (s9, g1)) : WW M G 4 Q kc ks g 64 [(0, .ref a0), (2, .int a2), (3, .int a3)] [.int s0, .int s1] := by
  unfold x3_thingsUsedTwice_j64_16 at E
  refine r_iadd X dX3_thingsUsedTwice_64 ?_
  refine r_istore_n X 1 (L1 := [(1, .int (s1 + s0)), (0, .ref a0), (2, .int a2), (3, .int a3)]) dX3_thingsUsedTwice_65 rfl (by decide) rfl ?_
  refine r_iload_n X 1 dX3_thingsUsedTwice_66 rfl rfl ?_
  refine r_aload_n X 0 dX3_thingsUsedTwice_67 rfl rfl ?_
  obtain ⟨x1, e2, E⟩ := gb_some E
  refine r_getR X dX3_thingsUsedTwice_68 f_X3_29 e2 ?_
  refine r_iload_n X 2 dX3_thingsUsedTwice_71 rfl rfl ?_
  obtain ⟨x3, e4, E⟩ := gb_some E
  refine r_aald X 4 (by decide) rfl dX3_thingsUsedTwice_72 e4 ?_
  obtain ⟨x5, e6, E⟩ := gb_some E
  refine r_getI X dX3_thingsUsedTwice_73 f_X3_94 e6 ?_
  refine r_iconst X (v := (-1)) dX3_thingsUsedTwice_76 (by decide) ?_
  refine r_icmp_eq X 105 dX3_thingsUsedTwice_77 (by decide) (fun c7 => ?_) (fun c7 => ?_)
  · rw [if_pos c7] at E
    exact r_pick (by rfl : lpick [(1, .int (s1 + s0)), (0, .ref a0), (2, .int a2), (3, .int a3)] [1, 2, 3] = _) (t_x3_thingsUsedTwice_j105_16 X hl0 hr hnm hc hx E)
  · rw [if_neg c7] at E
    refine r_aload_n X 0 dX3_thingsUsedTwice_80 rfl rfl ?_
    obtain ⟨x8, e9, E⟩ := gb_some E
    refine r_getR X dX3_thingsUsedTwice_81 f_X3_29 e9 ?_
    refine r_iload_n X 2 dX3_thingsUsedTwice_84 rfl rfl ?_
    obtain ⟨x10, e11, E⟩ := gb_some E
    refine r_aald X 4 (by decide) rfl dX3_thingsUsedTwice_85 e11 ?_
    obtain ⟨x12, e13, E⟩ := gb_some E
    refine r_getI X dX3_thingsUsedTwice_86 f_X3_94 e13 ?_
    refine r_aload_n X 0 dX3_thingsUsedTwice_89 rfl rfl ?_
    obtain ⟨x14, e15, E⟩ := gb_some E
    refine r_getR X dX3_thingsUsedTwice_90 f_X3_29 e15 ?_
    refine r_iload_n X 3 dX3_thingsUsedTwice_93 rfl rfl ?_
    obtain ⟨x16, e17, E⟩ := gb_some E
    refine r_aald X 4 (by decide) rfl dX3_thingsUsedTwice_94 e17 ?_
    obtain ⟨x18, e19, E⟩ := gb_some E
    refine r_getI X dX3_thingsUsedTwice_95 f_X3_94 e19 ?_
    refine r_icmp_ne X 105 dX3_thingsUsedTwice_98 (by decide) (fun c20 => ?_) (fun c20 => ?_)
    · rw [if_neg c20] at E
      exact r_pick (by rfl : lpick [(1, .int (s1 + s0)), (0, .ref a0), (2, .int a2), (3, .int a3)] [1, 2, 3] = _) (t_x3_thingsUsedTwice_j105_16 X hl0 hr hnm hc hx E)
    · rw [if_pos c20] at E
      refine r_iconst X (v := 1) dX3_thingsUsedTwice_101 (by decide) ?_
      refine r_goto X 106 dX3_thingsUsedTwice_102 (by decide) ?_
      exact r_pick (by rfl : lpick [(1, .int (s1 + s0)), (0, .ref a0), (2, .int a2), (3, .int a3)] [1, 2, 3] = _) (t_x3_thingsUsedTwice_j106_16 X hl0 hr hnm hc hx E)
set_option maxHeartbeats 4000000 in
set_option maxRecDepth 100000 in
theorem t_x3_thingsUsedTwice_j63_16 {l : Launch} {G : GG} {M : MC} (X : CX M G cX3_thingsUsedTwice 4 RX3 ⟨1, 0, 0, 60⟩) (hl0 : M.2.1 = l) (hr : (mM M).sig.returnType = (some .int)) (hnm : (mM M).name = yX3_thingsUsedTwice.name) {Q : State → Prop} {kc ks : Nat} {s9 : ((Int32 × Int32) ⊕ (Int32))} {g1 : AH} {a0 : Nat} {a2 : Int32} {a3 : Int32} {s0 : Int32} (hc : ∀ s1, s9 = .inl s1 → WW M G 4 Q kc ks g1 16 [(0, .ref a0), (1, .int s1.1), (2, .int a2), (3, .int s1.2)] []) (hx : ∀ t, s9 = .inr t → WW M G 4 Q kc ks g1 114 [(0, .ref a0), (1, .int t), (2, .int a2)] []) {g : AH} (E : x3_thingsUsedTwice_j63_16 a0 a2 a3 s0 g = some (s9, g1)) : WW M G 4 Q kc ks g 63 [(0, .ref a0), (2, .int a2), (3, .int a3)] [.int s0] := by
  unfold x3_thingsUsedTwice_j63_16 at E
  refine r_iconst X (v := 0) dX3_thingsUsedTwice_63 (by decide) ?_
  exact r_pick (by rfl : lpick [(0, .ref a0), (2, .int a2), (3, .int a3)] [0, 1, 2] = _) (t_x3_thingsUsedTwice_j64_16 X hl0 hr hnm hc hx E)
set_option maxHeartbeats 4000000 in
set_option maxRecDepth 100000 in
theorem t_x3_thingsUsedTwice_l16 {l : Launch} {G : GG} {M : MC} (X : CX M G cX3_thingsUsedTwice 4 RX3 ⟨1, 0, 0, 60⟩) (hl0 : M.2.1 = l) (hr : (mM M).sig.returnType = (some .int)) (hnm : (mM M).name = yX3_thingsUsedTwice.name) {Q : State → Prop} {kc ks : Nat} {s9 : ((Int32 × Int32) ⊕ (Int32))} {g1 : AH} {a0 : Nat} {a2 : Int32} {s0 : Int32 × Int32} (hc : ∀ s1, s9 = .inl s1 → WW M G 4 Q kc ks g1 16 [(0, .ref a0), (1, .int s1.1), (2, .int a2), (3, .int s1.2)] []) (hx : ∀ t, s9 = .inr t → WW M G 4 Q kc ks g1 114 [(0, .ref a0), (1, .int t), (2, .int a2)] []) {g : AH} (E : x3_thingsUsedTwice_l16 a0 a2 s0 g = some (s9, g1)) : WW M G 4 Q kc ks g 16 [(0, .ref a0), (1, .int s0.1), (2, .int a2), (3, .int s0.2)] [] := by
  unfold x3_thingsUsedTwice_l16 at E
  refine r_iload_n X 3 dX3_thingsUsedTwice_16 rfl rfl ?_
  refine r_aload_n X 0 dX3_thingsUsedTwice_17 rfl rfl ?_
  obtain ⟨x1, e2, E⟩ := gb_some E
  refine r_getI X dX3_thingsUsedTwice_18 f_X3_78 e2 ?_
  refine r_icmp_ge X 114 dX3_thingsUsedTwice_21 (by decide) (fun c3 => ?_) (fun c3 => ?_)
  · rw [if_pos c3] at E
    cases E
    exact r_pick (by rfl : lpick [(0, .ref a0), (1, .int s0.1), (2, .int a2), (3, .int s0.2)] [0, 1, 2] = _) (hx _ rfl)
  · rw [if_neg c3] at E
    refine r_iload_n X 1 dX3_thingsUsedTwice_24 rfl rfl ?_
    refine r_aload_n X 0 dX3_thingsUsedTwice_25 rfl rfl ?_
    obtain ⟨x4, e5, E⟩ := gb_some E
    refine r_getR X dX3_thingsUsedTwice_26 f_X3_29 e5 ?_
    refine r_iload_n X 2 dX3_thingsUsedTwice_29 rfl rfl ?_
    obtain ⟨x6, e7, E⟩ := gb_some E
    refine r_aald X 4 (by decide) rfl dX3_thingsUsedTwice_30 e7 ?_
    obtain ⟨x8, e9, E⟩ := gb_some E
    refine r_getI X dX3_thingsUsedTwice_31 f_X3_104 e9 ?_
    refine r_iconst X (v := (-1)) dX3_thingsUsedTwice_34 (by decide) ?_
    refine r_icmp_eq X 63 dX3_thingsUsedTwice_35 (by decide) (fun c10 => ?_) (fun c10 => ?_)
    · rw [if_pos c10] at E
      exact r_pick (by rfl : lpick [(0, .ref a0), (1, .int s0.1), (2, .int a2), (3, .int s0.2)] [0, 2, 3] = _) (t_x3_thingsUsedTwice_j63_16 X hl0 hr hnm hc hx E)
    · rw [if_neg c10] at E
      refine r_aload_n X 0 dX3_thingsUsedTwice_38 rfl rfl ?_
      obtain ⟨x11, e12, E⟩ := gb_some E
      refine r_getR X dX3_thingsUsedTwice_39 f_X3_29 e12 ?_
      refine r_iload_n X 2 dX3_thingsUsedTwice_42 rfl rfl ?_
      obtain ⟨x13, e14, E⟩ := gb_some E
      refine r_aald X 4 (by decide) rfl dX3_thingsUsedTwice_43 e14 ?_
      obtain ⟨x15, e16, E⟩ := gb_some E
      refine r_getI X dX3_thingsUsedTwice_44 f_X3_104 e16 ?_
      refine r_aload_n X 0 dX3_thingsUsedTwice_47 rfl rfl ?_
      obtain ⟨x17, e18, E⟩ := gb_some E
      refine r_getR X dX3_thingsUsedTwice_48 f_X3_29 e18 ?_
      refine r_iload_n X 3 dX3_thingsUsedTwice_51 rfl rfl ?_
      obtain ⟨x19, e20, E⟩ := gb_some E
      refine r_aald X 4 (by decide) rfl dX3_thingsUsedTwice_52 e20 ?_
      obtain ⟨x21, e22, E⟩ := gb_some E
      refine r_getI X dX3_thingsUsedTwice_53 f_X3_104 e22 ?_
      refine r_icmp_ne X 63 dX3_thingsUsedTwice_56 (by decide) (fun c23 => ?_) (fun c23 => ?_)
      · rw [if_neg c23] at E
        exact r_pick (by rfl : lpick [(0, .ref a0), (1, .int s0.1), (2, .int a2), (3, .int s0.2)] [0, 2, 3] = _) (t_x3_thingsUsedTwice_j63_16 X hl0 hr hnm hc hx E)
      · rw [if_pos c23] at E
        refine r_iconst X (v := 1) dX3_thingsUsedTwice_59 (by decide) ?_
        refine r_goto X 64 dX3_thingsUsedTwice_60 (by decide) ?_
        exact r_pick (by rfl : lpick [(0, .ref a0), (1, .int s0.1), (2, .int a2), (3, .int s0.2)] [0, 2, 3] = _) (t_x3_thingsUsedTwice_j64_16 X hl0 hr hnm hc hx E)
set_option maxHeartbeats 4000000 in
theorem t_x3_thingsUsedTwice_l16_r {l : Launch} {G : GG} {M : MC} (X : CX M G cX3_thingsUsedTwice 4 RX3 ⟨1, 0, 0, 60⟩) (hl0 : M.2.1 = l) (hr : (mM M).sig.returnType = (some .int)) (hnm : (mM M).name = yX3_thingsUsedTwice.name) {Q : State → Prop} {kc ks : Nat} {a0 : Nat} {a2 : Int32} : ∀ (n : Nat) (s0 : Int32 × Int32) (g : AH) (t : (Int32)) (g1 : AH), loopX (x3_thingsUsedTwice_l16 a0 a2) n s0 g = some (t, g1) → WW M G 4 Q kc ks g1 114 [(0, .ref a0), (1, .int t), (2, .int a2)] [] → WW M G 4 Q kc ks g 16 [(0, .ref a0), (1, .int s0.1), (2, .int a2), (3, .int s0.2)] [] :=
  loop_cps (K := fun t g1 => WW M G 4 Q kc ks g1 114 [(0, .ref a0), (1, .int t), (2, .int a2)] []) (fun _ s0 g => WW M G 4 Q kc ks g 16 [(0, .ref a0), (1, .int s0.1), (2, .int a2), (3, .int s0.2)] []) (fun n s0 g st g1 E hc hx => t_x3_thingsUsedTwice_l16 X hl0 hr hnm hc hx E)
set_option maxHeartbeats 4000000 in
set_option maxRecDepth 100000 in
theorem t_x3_thingsUsedTwice_l4 {l : Launch} {G : GG} {M : MC} (X : CX M G cX3_thingsUsedTwice 4 RX3 ⟨1, 0, 0, 60⟩) (hl0 : M.2.1 = l) (hr : (mM M).sig.returnType = (some .int)) (hnm : (mM M).name = yX3_thingsUsedTwice.name) {Q : State → Prop} {kc ks : Nat} {s9 : ((Int32 × Int32) ⊕ (Int32))} {g1 : AH} {a0 : Nat} {s0 : Int32 × Int32} (hc : ∀ s1, s9 = .inl s1 → WW M G 4 Q kc ks g1 4 [(0, .ref a0), (1, .int s1.1), (2, .int s1.2)] []) (hx : ∀ t, s9 = .inr t → WW M G 4 Q kc ks g1 120 [(1, .int t)] []) {g : AH} (E : x3_thingsUsedTwice_l4 a0 s0 g = some (s9, g1)) : WW M G 4 Q kc ks g 4 [(0, .ref a0), (1, .int s0.1), (2, .int s0.2)] [] := by
  unfold x3_thingsUsedTwice_l4 at E
  refine r_iload_n X 2 dX3_thingsUsedTwice_4 rfl rfl ?_
  refine r_aload_n X 0 dX3_thingsUsedTwice_5 rfl rfl ?_
  obtain ⟨x1, e2, E⟩ := gb_some E
  refine r_getI X dX3_thingsUsedTwice_6 f_X3_78 e2 ?_
  refine r_icmp_ge X 120 dX3_thingsUsedTwice_9 (by decide) (fun c3 => ?_) (fun c3 => ?_)
  · rw [if_pos c3] at E
    cases E
    exact r_pick (by rfl : lpick [(0, .ref a0), (1, .int s0.1), (2, .int s0.2)] [1] = _) (hx _ rfl)
  · rw [if_neg c3] at E
    refine r_iload_n X 2 dX3_thingsUsedTwice_12 rfl rfl ?_
    refine r_iconst X (v := 1) dX3_thingsUsedTwice_13 (by decide) ?_
    refine r_iadd X dX3_thingsUsedTwice_14 ?_
    refine r_istore_n X 3 (L1 := [(3, .int (s0.2 + 1)), (0, .ref a0), (1, .int s0.1), (2, .int s0.2)]) dX3_thingsUsedTwice_15 rfl (by decide) rfl ?_
    obtain ⟨t4, g5, e6, E⟩ := cb_some E
    refine r_pick (by rfl : lpick [(3, .int (s0.2 + 1)), (0, .ref a0), (1, .int s0.1), (2, .int s0.2)] [1, 2, 3, 0] = _) (t_x3_thingsUsedTwice_l16_r X hl0 hr hnm _ _ _ _ _ e6 ?_)
    refine r_iinc X (v := (s0.2 + 1)) (L1 := [(2, .int (s0.2 + 1)), (0, .ref a0), (1, .int t4)]) dX3_thingsUsedTwice_114 rfl rfl (by decide) rfl ?_
    refine r_goto X 4 dX3_thingsUsedTwice_117 (by decide) ?_
    cases E
    exact r_pick (by rfl : lpick [(2, .int (s0.2 + 1)), (0, .ref a0), (1, .int t4)] [1, 2, 0] = _) (hc _ rfl)
set_option maxHeartbeats 4000000 in
theorem t_x3_thingsUsedTwice_l4_r {l : Launch} {G : GG} {M : MC} (X : CX M G cX3_thingsUsedTwice 4 RX3 ⟨1, 0, 0, 60⟩) (hl0 : M.2.1 = l) (hr : (mM M).sig.returnType = (some .int)) (hnm : (mM M).name = yX3_thingsUsedTwice.name) {Q : State → Prop} {kc ks : Nat} {a0 : Nat} : ∀ (n : Nat) (s0 : Int32 × Int32) (g : AH) (t : (Int32)) (g1 : AH), loopX (x3_thingsUsedTwice_l4 a0) n s0 g = some (t, g1) → WW M G 4 Q kc ks g1 120 [(1, .int t)] [] → WW M G 4 Q kc ks g 4 [(0, .ref a0), (1, .int s0.1), (2, .int s0.2)] [] :=
  loop_cps (K := fun t g1 => WW M G 4 Q kc ks g1 120 [(1, .int t)] []) (fun _ s0 g => WW M G 4 Q kc ks g 4 [(0, .ref a0), (1, .int s0.1), (2, .int s0.2)] []) (fun n s0 g st g1 E hc hx => t_x3_thingsUsedTwice_l4 X hl0 hr hnm hc hx E)
set_option maxHeartbeats 4000000 in
set_option maxRecDepth 100000 in
theorem t_x3_thingsUsedTwice_b {l : Launch} {G : GG} {M : MC} (X : CX M G cX3_thingsUsedTwice 4 RX3 ⟨1, 0, 0, 60⟩) (hl0 : M.2.1 = l) (hr : (mM M).sig.returnType = (some .int)) (hnm : (mM M).name = yX3_thingsUsedTwice.name) {p : Nat} {g : AH} {r : Int32} {g1 : AH} (E : x3_thingsUsedTwice p g = some (r, g1)) : WW M G 4 (RQ M G (some (.int r)) g1 0 0) 0 0 g 0 [(0, .ref p)] [] := by
  unfold x3_thingsUsedTwice at E
  refine r_iconst X (v := 0) dX3_thingsUsedTwice_0 (by decide) ?_
  refine r_istore_n X 1 (L1 := [(1, .int 0), (0, .ref p)]) dX3_thingsUsedTwice_1 rfl (by decide) rfl ?_
  refine r_iconst X (v := 0) dX3_thingsUsedTwice_2 (by decide) ?_
  refine r_istore_n X 2 (L1 := [(2, .int 0), (1, .int 0), (0, .ref p)]) dX3_thingsUsedTwice_3 rfl (by decide) rfl ?_
  obtain ⟨t1, g2, e3, E⟩ := cb_some E
  refine r_pick (by rfl : lpick [(2, .int 0), (1, .int 0), (0, .ref p)] [2, 1, 0] = _) (t_x3_thingsUsedTwice_l4_r X hl0 hr hnm _ _ _ _ _ e3 ?_)
  refine r_iload_n X 1 dX3_thingsUsedTwice_120 rfl rfl ?_
  cases E
  exact r_iret X hr dX3_thingsUsedTwice_121 (by decide) (by decide)
theorem t_x3_thingsUsedTwice {l : Launch} {G : GG} {p : Nat} {g : AH} {r : Int32} {g1 : AH} (E : x3_thingsUsedTwice p g = some (r, g1)) : Ct l G yX3_thingsUsedTwice cX3_thingsUsedTwice 4 (some .int) ⟨1, 0, 0, 60⟩ [.ref p] g (some (.int r)) g1 :=
  ct_of (L0 := [(0, .ref p)]) y_X3_thingsUsedTwice rfl (Nat.le_of_ble_eq_true rfl) fun M hl0 X hr hnm => t_x3_thingsUsedTwice_b X hl0 hr hnm E
set_option maxHeartbeats 4000000 in
set_option maxRecDepth 100000 in
theorem t_x8_auditDifference_b {l : Launch} {G : GG} {M : MC} (X : CX M G cX8_auditDifference 1 RX8 ⟨3, 0, 0, 150⟩) (hl0 : M.2.1 = l) (hr : (mM M).sig.returnType = (some .int)) (hnm : (mM M).name = yX8_auditDifference.name) {p : Nat} {g : AH} {r : Int32} {g1 : AH} (E : x8_auditDifference p g = some (r, g1)) : WW M G 1 (RQ M G (some (.int r)) g1 0 0) 0 0 g 0 [(0, .ref p)] [] := by
  unfold x8_auditDifference at E
  refine r_aload_n X 0 dX8_auditDifference_0 rfl rfl ?_
  obtain ⟨x1, e2, E⟩ := gb_some E
  refine r_getR X dX8_auditDifference_1 f_X8_10 e2 ?_
  obtain ⟨x3, e4, E⟩ := gb_some E
  refine r_getI X dX8_auditDifference_4 f_X8_286 e4 ?_
  refine r_aload_n X 0 dX8_auditDifference_7 rfl rfl ?_
  obtain ⟨x5, e6, E⟩ := gb_some E
  refine r_getR X dX8_auditDifference_8 f_X8_10 e6 ?_
  obtain ⟨x7, e8, E⟩ := gb_some E
  refine r_getI X dX8_auditDifference_11 f_X8_277 e8 ?_
  refine r_isub X dX8_auditDifference_14 ?_
  refine r_aload_n X 0 dX8_auditDifference_15 rfl rfl ?_
  obtain ⟨x9, e10, E⟩ := gb_some E
  refine r_getR X dX8_auditDifference_16 f_X8_10 e10 ?_
  obtain ⟨u14, e15, E⟩ := gb_some E
  obtain ⟨r11, g12, e13, E⟩ := cb_some E
  refine r_callV0 X hl0 (ci := 3) dX8_auditDifference_19 y_X3_sumOfCoins m_X8_289 rfl rfl e15 (t_x3_sumOfCoins (l := l) (G := G) e13) rfl rfl (Nat.le_of_ble_eq_true rfl) (by decide) ?_
  refine r_isub X dX8_auditDifference_22 ?_
  refine r_abs X dX8_auditDifference_23 m_X8_292m (by decide) (Nat.le_of_ble_eq_true rfl) ?_
  refine r_aload_n X 0 dX8_auditDifference_26 rfl rfl ?_
  obtain ⟨x16, e17, E⟩ := gb_some E
  refine r_getR X dX8_auditDifference_27 f_X8_10 e17 ?_
  obtain ⟨x18, e19, E⟩ := gb_some E
  refine r_getI X dX8_auditDifference_30 f_X8_297 e19 ?_
  refine r_aload_n X 0 dX8_auditDifference_33 rfl rfl ?_
  obtain ⟨x20, e21, E⟩ := gb_some E
  refine r_getR X dX8_auditDifference_34 f_X8_10 e21 ?_
  obtain ⟨x22, e23, E⟩ := gb_some E
  refine r_getI X dX8_auditDifference_37 f_X8_159 e23 ?_
  refine r_isub X dX8_auditDifference_40 ?_
  refine r_aload_n X 0 dX8_auditDifference_41 rfl rfl ?_
  obtain ⟨x24, e25, E⟩ := gb_some E
  refine r_getR X dX8_auditDifference_42 f_X8_10 e25 ?_
  obtain ⟨x26, e27, E⟩ := gb_some E
  refine r_getI X dX8_auditDifference_45 f_X8_280 e27 ?_
  refine r_isub X dX8_auditDifference_48 ?_
  refine r_abs X dX8_auditDifference_49 m_X8_292m (by decide) (Nat.le_of_ble_eq_true rfl) ?_
  refine r_iadd X dX8_auditDifference_52 ?_
  refine r_aload_n X 0 dX8_auditDifference_53 rfl rfl ?_
  obtain ⟨x28, e29, E⟩ := gb_some E
  refine r_getR X dX8_auditDifference_54 f_X8_10 e29 ?_
  obtain ⟨u33, e34, E⟩ := gb_some E
  obtain ⟨r30, g31, e32, E⟩ := cb_some E
  refine r_callV0 X hl0 (ci := 3) dX8_auditDifference_57 y_X3_thingsUsedTwice m_X8_300 rfl rfl e34 (t_x3_thingsUsedTwice (l := l) (G := G) e32) rfl rfl (Nat.le_of_ble_eq_true rfl) (by decide) ?_
  refine r_iadd X dX8_auditDifference_60 ?_
  cases E
  exact r_iret X hr dX8_auditDifference_61 (by decide) (by decide)
theorem t_x8_auditDifference {l : Launch} {G : GG} {p : Nat} {g : AH} {r : Int32} {g1 : AH} (E : x8_auditDifference p g = some (r, g1)) : Ct l G yX8_auditDifference cX8_auditDifference 1 (some .int) ⟨3, 0, 0, 150⟩ [.ref p] g (some (.int r)) g1 :=
  ct_of (L0 := [(0, .ref p)]) y_X8_auditDifference rfl (Nat.le_of_ble_eq_true rfl) fun M hl0 X hr hnm => t_x8_auditDifference_b X hl0 hr hnm E
set_option maxHeartbeats 4000000 in
set_option maxRecDepth 100000 in
theorem t_x3_faultOfTake_b {l : Launch} {G : GG} {M : MC} (X : CX M G cX3_faultOfTake 3 RX3 ⟨2, 0, 0, 82⟩) (hl0 : M.2.1 = l) (hr : (mM M).sig.returnType = (some .int)) (hnm : (mM M).name = yX3_faultOfTake.name) {p : Nat} {b0 : Int32} {b1 : Int32} {g : AH} {r : Int32} {g1 : AH} (E : x3_faultOfTake p b0 b1 g = some (r, g1)) : WW M G 3 (RQ M G (some (.int r)) g1 0 0) 0 0 g 0 [(0, .ref p), (1, .int b0), (2, .int b1)] [] := by
  unfold x3_faultOfTake at E
  refine r_aload_n X 0 dX3_faultOfTake_0 rfl rfl ?_
  refine r_iload_n X 1 dX3_faultOfTake_1 rfl rfl ?_
  obtain ⟨u4, e5, E⟩ := gb_some E
  obtain ⟨r1, g2, e3, E⟩ := cb_some E
  refine r_callV0 X hl0 (ci := 3) dX3_faultOfTake_2 y_X3_hasHiker m_X3_248 rfl rfl e5 (t_x3_hasHiker (l := l) (G := G) e3) rfl rfl (Nat.le_of_ble_eq_true rfl) (by decide) ?_
  refine r_if_eq X 16 dX3_faultOfTake_5 (by decide) (fun c6 => ?_) (fun c6 => ?_)
  · rw [if_pos c6] at E
    refine r_iconst X (v := 1) dX3_faultOfTake_16 (by decide) ?_
    cases E
    exact r_iret X hr dX3_faultOfTake_17 (by decide) (by decide)
  · rw [if_neg c6] at E
    refine r_aload_n X 0 dX3_faultOfTake_8 rfl rfl ?_
    refine r_iload_n X 2 dX3_faultOfTake_9 rfl rfl ?_
    obtain ⟨u10, e11, E⟩ := gb_some E
    obtain ⟨r7, g8, e9, E⟩ := cb_some E
    refine r_callV0 X hl0 (ci := 3) dX3_faultOfTake_10 y_X3_hasBlanket m_X3_97 rfl rfl e11 (t_x3_hasBlanket (l := l) (G := G) e9) rfl rfl (Nat.le_of_ble_eq_true rfl) (by decide) ?_
    refine r_if_ne X 18 dX3_faultOfTake_13 (by decide) (fun c12 => ?_) (fun c12 => ?_)
    · rw [if_neg c12] at E
      refine r_aload_n X 0 dX3_faultOfTake_18 rfl rfl ?_
      refine r_iload_n X 2 dX3_faultOfTake_19 rfl rfl ?_
      obtain ⟨u16, e17, E⟩ := gb_some E
      obtain ⟨r13, g14, e15, E⟩ := cb_some E
      refine r_callV0 X hl0 (ci := 3) dX3_faultOfTake_20 y_X3_userOfBlanket m_X3_143 rfl rfl e17 (t_x3_userOfBlanket (l := l) (G := G) e15) rfl rfl (Nat.le_of_ble_eq_true rfl) (by decide) ?_
      refine r_iconst X (v := (-1)) dX3_faultOfTake_23 (by decide) ?_
      refine r_icmp_ne X 31 dX3_faultOfTake_24 (by decide) (fun c18 => ?_) (fun c18 => ?_)
      · rw [if_neg c18] at E
        refine r_iconst X (v := 3) dX3_faultOfTake_31 (by decide) ?_
        cases E
        exact r_iret X hr dX3_faultOfTake_32 (by decide) (by decide)
      · rw [if_pos c18] at E
        refine r_iconst X (v := 0) dX3_faultOfTake_27 (by decide) ?_
        refine r_goto X 32 dX3_faultOfTake_28 (by decide) ?_
        cases E
        exact r_iret X hr dX3_faultOfTake_32 (by decide) (by decide)
    · rw [if_pos c12] at E
      refine r_iconst X (v := 1) dX3_faultOfTake_16 (by decide) ?_
      cases E
      exact r_iret X hr dX3_faultOfTake_17 (by decide) (by decide)
theorem t_x3_faultOfTake {l : Launch} {G : GG} {p : Nat} {b0 : Int32} {b1 : Int32} {g : AH} {r : Int32} {g1 : AH} (E : x3_faultOfTake p b0 b1 g = some (r, g1)) : Ct l G yX3_faultOfTake cX3_faultOfTake 3 (some .int) ⟨2, 0, 0, 82⟩ [.ref p, .int b0, .int b1] g (some (.int r)) g1 :=
  ct_of (L0 := [(0, .ref p), (1, .int b0), (2, .int b1)]) y_X3_faultOfTake rfl (Nat.le_of_ble_eq_true rfl) fun M hl0 X hr hnm => t_x3_faultOfTake_b X hl0 hr hnm E
set_option maxHeartbeats 4000000 in
set_option maxRecDepth 100000 in
theorem t_x3_faultOfReturn_b {l : Launch} {G : GG} {M : MC} (X : CX M G cX3_faultOfReturn 2 RX3 ⟨2, 0, 0, 81⟩) (hl0 : M.2.1 = l) (hr : (mM M).sig.returnType = (some .int)) (hnm : (mM M).name = yX3_faultOfReturn.name) {p : Nat} {b0 : Int32} {g : AH} {r : Int32} {g1 : AH} (E : x3_faultOfReturn p b0 g = some (r, g1)) : WW M G 2 (RQ M G (some (.int r)) g1 0 0) 0 0 g 0 [(0, .ref p), (1, .int b0)] [] := by
  unfold x3_faultOfReturn at E
  refine r_aload_n X 0 dX3_faultOfReturn_0 rfl rfl ?_
  refine r_iload_n X 1 dX3_faultOfReturn_1 rfl rfl ?_
  obtain ⟨u4, e5, E⟩ := gb_some E
  obtain ⟨r1, g2, e3, E⟩ := cb_some E
  refine r_callV0 X hl0 (ci := 3) dX3_faultOfReturn_2 y_X3_hasHiker m_X3_248 rfl rfl e5 (t_x3_hasHiker (l := l) (G := G) e3) rfl rfl (Nat.le_of_ble_eq_true rfl) (by decide) ?_
  refine r_if_ne X 10 dX3_faultOfReturn_5 (by decide) (fun c6 => ?_) (fun c6 => ?_)
  · rw [if_neg c6] at E
    refine r_aload_n X 0 dX3_faultOfReturn_10 rfl rfl ?_
    obtain ⟨x7, e8, E⟩ := gb_some E
    refine r_getR X dX3_faultOfReturn_11 f_X3_29 e8 ?_
    refine r_iload_n X 1 dX3_faultOfReturn_14 rfl rfl ?_
    obtain ⟨x9, e10, E⟩ := gb_some E
    refine r_aald X 4 (by decide) rfl dX3_faultOfReturn_15 e10 ?_
    obtain ⟨x11, e12, E⟩ := gb_some E
    refine r_getI X dX3_faultOfReturn_16 f_X3_94 e12 ?_
    refine r_iconst X (v := (-1)) dX3_faultOfReturn_19 (by decide) ?_
    refine r_icmp_ne X 27 dX3_faultOfReturn_20 (by decide) (fun c13 => ?_) (fun c13 => ?_)
    · rw [if_neg c13] at E
      refine r_iconst X (v := 0) dX3_faultOfReturn_27 (by decide) ?_
      cases E
      exact r_iret X hr dX3_faultOfReturn_28 (by decide) (by decide)
    · rw [if_pos c13] at E
      refine r_iconst X (v := 3) dX3_faultOfReturn_23 (by decide) ?_
      refine r_goto X 28 dX3_faultOfReturn_24 (by decide) ?_
      cases E
      exact r_iret X hr dX3_faultOfReturn_28 (by decide) (by decide)
  · rw [if_pos c6] at E
    refine r_iconst X (v := 1) dX3_faultOfReturn_8 (by decide) ?_
    cases E
    exact r_iret X hr dX3_faultOfReturn_9 (by decide) (by decide)
theorem t_x3_faultOfReturn {l : Launch} {G : GG} {p : Nat} {b0 : Int32} {g : AH} {r : Int32} {g1 : AH} (E : x3_faultOfReturn p b0 g = some (r, g1)) : Ct l G yX3_faultOfReturn cX3_faultOfReturn 2 (some .int) ⟨2, 0, 0, 81⟩ [.ref p, .int b0] g (some (.int r)) g1 :=
  ct_of (L0 := [(0, .ref p), (1, .int b0)]) y_X3_faultOfReturn rfl (Nat.le_of_ble_eq_true rfl) fun M hl0 X hr hnm => t_x3_faultOfReturn_b X hl0 hr hnm E
set_option maxHeartbeats 4000000 in
set_option maxRecDepth 100000 in
theorem t_x3_faultOfSwap_j59 {l : Launch} {G : GG} {M : MC} (X : CX M G cX3_faultOfSwap 4 RX3 ⟨2, 0, 0, 81⟩) (hl0 : M.2.1 = l) (hr : (mM M).sig.returnType = (some .int)) (hnm : (mM M).name = yX3_faultOfSwap.name)  {g : AH} {r : Int32} {g1 : AH} (E : x3_faultOfSwap_j59  g = some (r, g1)) : WW M G 4 (RQ M G (some (.int r)) g1 0 0) 0 0 g 59 [] [] := by
  unfold x3_faultOfSwap_j59 at E
  refine r_iconst X (v := 3) dX3_faultOfSwap_59 (by decide) ?_
  refine r_goto X 64 dX3_faultOfSwap_60 (by decide) ?_
  cases E
  exact r_iret X hr dX3_faultOfSwap_64 (by decide) (by decide)
set_option maxHeartbeats 4000000 in
set_option maxRecDepth 100000 in
theorem t_x3_faultOfSwap_j49 {l : Launch} {G : GG} {M : MC} (X : CX M G cX3_faultOfSwap 4 RX3 ⟨2, 0, 0, 81⟩) (hl0 : M.2.1 = l) (hr : (mM M).sig.returnType = (some .int)) (hnm : (mM M).name = yX3_faultOfSwap.name) {a1 : Int32} {a2 : Int32} {s0 : Int32} {g : AH} {r : Int32} {g1 : AH} (E : x3_faultOfSwap_j49 a1 a2 s0 g = some (r, g1)) : WW M G 4 (RQ M G (some (.int r)) g1 0 0) 0 0 g 49 [(1, .int a1), (2, .int a2)] [.int s0] := by
  unfold x3_faultOfSwap_j49 at E
  refine r_istore_n X 3 (L1 := [(3, .int s0), (1, .int a1), (2, .int a2)]) dX3_faultOfSwap_49 rfl (by decide) rfl ?_
  refine r_iload_n X 1 dX3_faultOfSwap_50 rfl rfl ?_
  refine r_iload_n X 2 dX3_faultOfSwap_51 rfl rfl ?_
  refine r_icmp_eq X 59 dX3_faultOfSwap_52 (by decide) (fun c1 => ?_) (fun c1 => ?_)
  · rw [if_pos c1] at E
    exact r_pick (by rfl : lpick [(3, .int s0), (1, .int a1), (2, .int a2)] [] = _) (t_x3_faultOfSwap_j59 X hl0 hr hnm E)
  · rw [if_neg c1] at E
    refine r_iload_n X 3 dX3_faultOfSwap_55 rfl rfl ?_
    refine r_if_eq X 63 dX3_faultOfSwap_56 (by decide) (fun c2 => ?_) (fun c2 => ?_)
    · rw [if_pos c2] at E
      refine r_iconst X (v := 0) dX3_faultOfSwap_63 (by decide) ?_
      cases E
      exact r_iret X hr dX3_faultOfSwap_64 (by decide) (by decide)
    · rw [if_neg c2] at E
      exact r_pick (by rfl : lpick [(3, .int s0), (1, .int a1), (2, .int a2)] [] = _) (t_x3_faultOfSwap_j59 X hl0 hr hnm E)
set_option maxHeartbeats 4000000 in
set_option maxRecDepth 100000 in
theorem t_x3_faultOfSwap_j48 {l : Launch} {G : GG} {M : MC} (X : CX M G cX3_faultOfSwap 4 RX3 ⟨2, 0, 0, 81⟩) (hl0 : M.2.1 = l) (hr : (mM M).sig.returnType = (some .int)) (hnm : (mM M).name = yX3_faultOfSwap.name) {a1 : Int32} {a2 : Int32} {g : AH} {r : Int32} {g1 : AH} (E : x3_faultOfSwap_j48 a1 a2 g = some (r, g1)) : WW M G 4 (RQ M G (some (.int r)) g1 0 0) 0 0 g 48 [(1, .int a1), (2, .int a2)] [] := by
  unfold x3_faultOfSwap_j48 at E
  refine r_iconst X (v := 0) dX3_faultOfSwap_48 (by decide) ?_
  exact r_pick (by rfl : lpick [(1, .int a1), (2, .int a2)] [0, 1] = _) (t_x3_faultOfSwap_j49 X hl0 hr hnm E)
set_option maxHeartbeats 4000000 in
set_option maxRecDepth 100000 in
theorem t_x3_faultOfSwap_b {l : Launch} {G : GG} {M : MC} (X : CX M G cX3_faultOfSwap 4 RX3 ⟨2, 0, 0, 81⟩) (hl0 : M.2.1 = l) (hr : (mM M).sig.returnType = (some .int)) (hnm : (mM M).name = yX3_faultOfSwap.name) {p : Nat} {b0 : Int32} {b1 : Int32} {g : AH} {r : Int32} {g1 : AH} (E : x3_faultOfSwap p b0 b1 g = some (r, g1)) : WW M G 4 (RQ M G (some (.int r)) g1 0 0) 0 0 g 0 [(0, .ref p), (1, .int b0), (2, .int b1)] [] := by
  unfold x3_faultOfSwap at E
  refine r_aload_n X 0 dX3_faultOfSwap_0 rfl rfl ?_
  refine r_iload_n X 1 dX3_faultOfSwap_1 rfl rfl ?_
  obtain ⟨u4, e5, E⟩ := gb_some E
  obtain ⟨r1, g2, e3, E⟩ := cb_some E
  refine r_callV0 X hl0 (ci := 3) dX3_faultOfSwap_2 y_X3_hasHiker m_X3_248 rfl rfl e5 (t_x3_hasHiker (l := l) (G := G) e3) rfl rfl (Nat.le_of_ble_eq_true rfl) (by decide) ?_
  refine r_if_eq X 16 dX3_faultOfSwap_5 (by decide) (fun c6 => ?_) (fun c6 => ?_)
  · rw [if_pos c6] at E
    refine r_iconst X (v := 1) dX3_faultOfSwap_16 (by decide) ?_
    cases E
    exact r_iret X hr dX3_faultOfSwap_17 (by decide) (by decide)
  · rw [if_neg c6] at E
    refine r_aload_n X 0 dX3_faultOfSwap_8 rfl rfl ?_
    refine r_iload_n X 2 dX3_faultOfSwap_9 rfl rfl ?_
    obtain ⟨u10, e11, E⟩ := gb_some E
    obtain ⟨r7, g8, e9, E⟩ := cb_some E
    refine r_callV0 X hl0 (ci := 3) dX3_faultOfSwap_10 y_X3_hasHiker m_X3_248 rfl rfl e11 (t_x3_hasHiker (l := l) (G := G) e9) rfl rfl (Nat.le_of_ble_eq_true rfl) (by decide) ?_
    refine r_if_ne X 18 dX3_faultOfSwap_13 (by decide) (fun c12 => ?_) (fun c12 => ?_)
    · rw [if_neg c12] at E
      refine r_aload_n X 0 dX3_faultOfSwap_18 rfl rfl ?_
      obtain ⟨x13, e14, E⟩ := gb_some E
      refine r_getR X dX3_faultOfSwap_19 f_X3_29 e14 ?_
      refine r_iload_n X 1 dX3_faultOfSwap_22 rfl rfl ?_
      obtain ⟨x15, e16, E⟩ := gb_some E
      refine r_aald X 4 (by decide) rfl dX3_faultOfSwap_23 e16 ?_
      obtain ⟨x17, e18, E⟩ := gb_some E
      refine r_getI X dX3_faultOfSwap_24 f_X3_94 e18 ?_
      refine r_iconst X (v := (-1)) dX3_faultOfSwap_27 (by decide) ?_
      refine r_icmp_ne X 48 dX3_faultOfSwap_28 (by decide) (fun c19 => ?_) (fun c19 => ?_)
      · rw [if_neg c19] at E
        exact r_pick (by rfl : lpick [(0, .ref p), (1, .int b0), (2, .int b1)] [1, 2] = _) (t_x3_faultOfSwap_j48 X hl0 hr hnm E)
      · rw [if_pos c19] at E
        refine r_aload_n X 0 dX3_faultOfSwap_31 rfl rfl ?_
        obtain ⟨x20, e21, E⟩ := gb_some E
        refine r_getR X dX3_faultOfSwap_32 f_X3_29 e21 ?_
        refine r_iload_n X 2 dX3_faultOfSwap_35 rfl rfl ?_
        obtain ⟨x22, e23, E⟩ := gb_some E
        refine r_aald X 4 (by decide) rfl dX3_faultOfSwap_36 e23 ?_
        obtain ⟨x24, e25, E⟩ := gb_some E
        refine r_getI X dX3_faultOfSwap_37 f_X3_94 e25 ?_
        refine r_iconst X (v := (-1)) dX3_faultOfSwap_40 (by decide) ?_
        refine r_icmp_ne X 48 dX3_faultOfSwap_41 (by decide) (fun c26 => ?_) (fun c26 => ?_)
        · rw [if_neg c26] at E
          exact r_pick (by rfl : lpick [(0, .ref p), (1, .int b0), (2, .int b1)] [1, 2] = _) (t_x3_faultOfSwap_j48 X hl0 hr hnm E)
        · rw [if_pos c26] at E
          refine r_iconst X (v := 1) dX3_faultOfSwap_44 (by decide) ?_
          refine r_goto X 49 dX3_faultOfSwap_45 (by decide) ?_
          exact r_pick (by rfl : lpick [(0, .ref p), (1, .int b0), (2, .int b1)] [1, 2] = _) (t_x3_faultOfSwap_j49 X hl0 hr hnm E)
    · rw [if_pos c12] at E
      refine r_iconst X (v := 1) dX3_faultOfSwap_16 (by decide) ?_
      cases E
      exact r_iret X hr dX3_faultOfSwap_17 (by decide) (by decide)
theorem t_x3_faultOfSwap {l : Launch} {G : GG} {p : Nat} {b0 : Int32} {b1 : Int32} {g : AH} {r : Int32} {g1 : AH} (E : x3_faultOfSwap p b0 b1 g = some (r, g1)) : Ct l G yX3_faultOfSwap cX3_faultOfSwap 4 (some .int) ⟨2, 0, 0, 81⟩ [.ref p, .int b0, .int b1] g (some (.int r)) g1 :=
  ct_of (L0 := [(0, .ref p), (1, .int b0), (2, .int b1)]) y_X3_faultOfSwap rfl (Nat.le_of_ble_eq_true rfl) fun M hl0 X hr hnm => t_x3_faultOfSwap_b X hl0 hr hnm E
set_option maxHeartbeats 4000000 in
set_option maxRecDepth 100000 in
theorem t_x3_faultOfLie_b {l : Launch} {G : GG} {M : MC} (X : CX M G cX3_faultOfLie 3 RX3 ⟨3, 0, 0, 102⟩) (hl0 : M.2.1 = l) (hr : (mM M).sig.returnType = (some .int)) (hnm : (mM M).name = yX3_faultOfLie.name) {p : Nat} {b0 : Int32} {b1 : Int32} {g : AH} {r : Int32} {g1 : AH} (E : x3_faultOfLie p b0 b1 g = some (r, g1)) : WW M G 3 (RQ M G (some (.int r)) g1 0 0) 0 0 g 0 [(0, .ref p), (1, .int b0), (2, .int b1)] [] := by
  unfold x3_faultOfLie at E
  refine r_aload_n X 0 dX3_faultOfLie_0 rfl rfl ?_
  refine r_iload_n X 1 dX3_faultOfLie_1 rfl rfl ?_
  obtain ⟨u4, e5, E⟩ := gb_some E
  obtain ⟨r1, g2, e3, E⟩ := cb_some E
  refine r_callV0 X hl0 (ci := 3) dX3_faultOfLie_2 y_X3_hasHiker m_X3_248 rfl rfl e5 (t_x3_hasHiker (l := l) (G := G) e3) rfl rfl (Nat.le_of_ble_eq_true rfl) (by decide) ?_
  refine r_if_eq X 16 dX3_faultOfLie_5 (by decide) (fun c6 => ?_) (fun c6 => ?_)
  · rw [if_pos c6] at E
    refine r_iconst X (v := 1) dX3_faultOfLie_16 (by decide) ?_
    cases E
    exact r_iret X hr dX3_faultOfLie_17 (by decide) (by decide)
  · rw [if_neg c6] at E
    refine r_aload_n X 0 dX3_faultOfLie_8 rfl rfl ?_
    refine r_iload_n X 2 dX3_faultOfLie_9 rfl rfl ?_
    obtain ⟨u10, e11, E⟩ := gb_some E
    obtain ⟨r7, g8, e9, E⟩ := cb_some E
    refine r_callV0 X hl0 (ci := 3) dX3_faultOfLie_10 y_X3_hasBunk m_X3_114 rfl rfl e11 (t_x3_hasBunk (l := l) (G := G) e9) rfl rfl (Nat.le_of_ble_eq_true rfl) (by decide) ?_
    refine r_if_ne X 18 dX3_faultOfLie_13 (by decide) (fun c12 => ?_) (fun c12 => ?_)
    · rw [if_neg c12] at E
      refine r_aload_n X 0 dX3_faultOfLie_18 rfl rfl ?_
      refine r_iload_n X 2 dX3_faultOfLie_19 rfl rfl ?_
      obtain ⟨u16, e17, E⟩ := gb_some E
      obtain ⟨r13, g14, e15, E⟩ := cb_some E
      refine r_callV0 X hl0 (ci := 3) dX3_faultOfLie_20 y_X3_sleeperIn m_X3_127 rfl rfl e17 (t_x3_sleeperIn (l := l) (G := G) e15) rfl rfl (Nat.le_of_ble_eq_true rfl) (by decide) ?_
      refine r_iconst X (v := (-1)) dX3_faultOfLie_23 (by decide) ?_
      refine r_icmp_ne X 31 dX3_faultOfLie_24 (by decide) (fun c18 => ?_) (fun c18 => ?_)
      · rw [if_neg c18] at E
        refine r_iconst X (v := 3) dX3_faultOfLie_31 (by decide) ?_
        cases E
        exact r_iret X hr dX3_faultOfLie_32 (by decide) (by decide)
      · rw [if_pos c18] at E
        refine r_iconst X (v := 0) dX3_faultOfLie_27 (by decide) ?_
        refine r_goto X 32 dX3_faultOfLie_28 (by decide) ?_
        cases E
        exact r_iret X hr dX3_faultOfLie_32 (by decide) (by decide)
    · rw [if_pos c12] at E
      refine r_iconst X (v := 1) dX3_faultOfLie_16 (by decide) ?_
      cases E
      exact r_iret X hr dX3_faultOfLie_17 (by decide) (by decide)
theorem t_x3_faultOfLie {l : Launch} {G : GG} {p : Nat} {b0 : Int32} {b1 : Int32} {g : AH} {r : Int32} {g1 : AH} (E : x3_faultOfLie p b0 b1 g = some (r, g1)) : Ct l G yX3_faultOfLie cX3_faultOfLie 3 (some .int) ⟨3, 0, 0, 102⟩ [.ref p, .int b0, .int b1] g (some (.int r)) g1 :=
  ct_of (L0 := [(0, .ref p), (1, .int b0), (2, .int b1)]) y_X3_faultOfLie rfl (Nat.le_of_ble_eq_true rfl) fun M hl0 X hr hnm => t_x3_faultOfLie_b X hl0 hr hnm E
set_option maxHeartbeats 4000000 in
set_option maxRecDepth 100000 in
theorem t_x3_faultOfRise_b {l : Launch} {G : GG} {M : MC} (X : CX M G cX3_faultOfRise 2 RX3 ⟨2, 0, 0, 81⟩) (hl0 : M.2.1 = l) (hr : (mM M).sig.returnType = (some .int)) (hnm : (mM M).name = yX3_faultOfRise.name) {p : Nat} {b0 : Int32} {g : AH} {r : Int32} {g1 : AH} (E : x3_faultOfRise p b0 g = some (r, g1)) : WW M G 2 (RQ M G (some (.int r)) g1 0 0) 0 0 g 0 [(0, .ref p), (1, .int b0)] [] := by
  unfold x3_faultOfRise at E
  refine r_aload_n X 0 dX3_faultOfRise_0 rfl rfl ?_
  refine r_iload_n X 1 dX3_faultOfRise_1 rfl rfl ?_
  obtain ⟨u4, e5, E⟩ := gb_some E
  obtain ⟨r1, g2, e3, E⟩ := cb_some E
  refine r_callV0 X hl0 (ci := 3) dX3_faultOfRise_2 y_X3_hasHiker m_X3_248 rfl rfl e5 (t_x3_hasHiker (l := l) (G := G) e3) rfl rfl (Nat.le_of_ble_eq_true rfl) (by decide) ?_
  refine r_if_ne X 10 dX3_faultOfRise_5 (by decide) (fun c6 => ?_) (fun c6 => ?_)
  · rw [if_neg c6] at E
    refine r_aload_n X 0 dX3_faultOfRise_10 rfl rfl ?_
    obtain ⟨x7, e8, E⟩ := gb_some E
    refine r_getR X dX3_faultOfRise_11 f_X3_29 e8 ?_
    refine r_iload_n X 1 dX3_faultOfRise_14 rfl rfl ?_
    obtain ⟨x9, e10, E⟩ := gb_some E
    refine r_aald X 4 (by decide) rfl dX3_faultOfRise_15 e10 ?_
    obtain ⟨x11, e12, E⟩ := gb_some E
    refine r_getI X dX3_faultOfRise_16 f_X3_104 e12 ?_
    refine r_iconst X (v := (-1)) dX3_faultOfRise_19 (by decide) ?_
    refine r_icmp_ne X 27 dX3_faultOfRise_20 (by decide) (fun c13 => ?_) (fun c13 => ?_)
    · rw [if_neg c13] at E
      refine r_iconst X (v := 0) dX3_faultOfRise_27 (by decide) ?_
      cases E
      exact r_iret X hr dX3_faultOfRise_28 (by decide) (by decide)
    · rw [if_pos c13] at E
      refine r_iconst X (v := 3) dX3_faultOfRise_23 (by decide) ?_
      refine r_goto X 28 dX3_faultOfRise_24 (by decide) ?_
      cases E
      exact r_iret X hr dX3_faultOfRise_28 (by decide) (by decide)
  · rw [if_pos c6] at E
    refine r_iconst X (v := 1) dX3_faultOfRise_8 (by decide) ?_
    cases E
    exact r_iret X hr dX3_faultOfRise_9 (by decide) (by decide)
theorem t_x3_faultOfRise {l : Launch} {G : GG} {p : Nat} {b0 : Int32} {g : AH} {r : Int32} {g1 : AH} (E : x3_faultOfRise p b0 g = some (r, g1)) : Ct l G yX3_faultOfRise cX3_faultOfRise 2 (some .int) ⟨2, 0, 0, 81⟩ [.ref p, .int b0] g (some (.int r)) g1 :=
  ct_of (L0 := [(0, .ref p), (1, .int b0)]) y_X3_faultOfRise rfl (Nat.le_of_ble_eq_true rfl) fun M hl0 X hr hnm => t_x3_faultOfRise_b X hl0 hr hnm E
set_option maxHeartbeats 4000000 in
set_option maxRecDepth 100000 in
theorem t_x3_faultOfFetch_b {l : Launch} {G : GG} {M : MC} (X : CX M G cX3_faultOfFetch 2 RX3 ⟨2, 0, 0, 82⟩) (hl0 : M.2.1 = l) (hr : (mM M).sig.returnType = (some .int)) (hnm : (mM M).name = yX3_faultOfFetch.name) {p : Nat} {b0 : Int32} {g : AH} {r : Int32} {g1 : AH} (E : x3_faultOfFetch p b0 g = some (r, g1)) : WW M G 2 (RQ M G (some (.int r)) g1 0 0) 0 0 g 0 [(0, .ref p), (1, .int b0)] [] := by
  unfold x3_faultOfFetch at E
  refine r_iload_n X 1 dX3_faultOfFetch_0 rfl rfl ?_
  refine r_iconst X (v := 1) dX3_faultOfFetch_1 (by decide) ?_
  refine r_bipush X (v := 50) dX3_faultOfFetch_2 (by decide) ?_
  obtain ⟨r1, g2, e3, E⟩ := cb_some E
  refine r_callSN0 X hl0 dX3_faultOfFetch_4 y_X8_isWithin (List.mem_of_getElem? (i := 9) rfl) (t_x8_isWithin (l := l) (G := G) e3) rfl rfl (Nat.le_of_ble_eq_true rfl) (by decide) ?_
  refine r_if_ne X 12 dX3_faultOfFetch_7 (by decide) (fun c4 => ?_) (fun c4 => ?_)
  · rw [if_neg c4] at E
    refine r_aload_n X 0 dX3_faultOfFetch_12 rfl rfl ?_
    obtain ⟨x5, e6, E⟩ := gb_some E
    refine r_getI X dX3_faultOfFetch_13 f_X3_34 e6 ?_
    refine r_iload_n X 1 dX3_faultOfFetch_16 rfl rfl ?_
    refine r_iadd X dX3_faultOfFetch_17 ?_
    refine r_bipush X (v := 99) dX3_faultOfFetch_18 (by decide) ?_
    refine r_icmp_le X 27 dX3_faultOfFetch_20 (by decide) (fun c7 => ?_) (fun c7 => ?_)
    · rw [if_pos c7] at E
      refine r_iconst X (v := 0) dX3_faultOfFetch_27 (by decide) ?_
      cases E
      exact r_iret X hr dX3_faultOfFetch_28 (by decide) (by decide)
    · rw [if_neg c7] at E
      refine r_iconst X (v := 3) dX3_faultOfFetch_23 (by decide) ?_
      refine r_goto X 28 dX3_faultOfFetch_24 (by decide) ?_
      cases E
      exact r_iret X hr dX3_faultOfFetch_28 (by decide) (by decide)
  · rw [if_pos c4] at E
    refine r_iconst X (v := 2) dX3_faultOfFetch_10 (by decide) ?_
    cases E
    exact r_iret X hr dX3_faultOfFetch_11 (by decide) (by decide)
theorem t_x3_faultOfFetch {l : Launch} {G : GG} {p : Nat} {b0 : Int32} {g : AH} {r : Int32} {g1 : AH} (E : x3_faultOfFetch p b0 g = some (r, g1)) : Ct l G yX3_faultOfFetch cX3_faultOfFetch 2 (some .int) ⟨2, 0, 0, 82⟩ [.ref p, .int b0] g (some (.int r)) g1 :=
  ct_of (L0 := [(0, .ref p), (1, .int b0)]) y_X3_faultOfFetch rfl (Nat.le_of_ble_eq_true rfl) fun M hl0 X hr hnm => t_x3_faultOfFetch_b X hl0 hr hnm E
set_option maxHeartbeats 4000000 in
set_option maxRecDepth 100000 in
theorem t_x3_faultOfPay_j53 {l : Launch} {G : GG} {M : MC} (X : CX M G cX3_faultOfPay 4 RX3 ⟨2, 0, 0, 82⟩) (hl0 : M.2.1 = l) (hr : (mM M).sig.returnType = (some .int)) (hnm : (mM M).name = yX3_faultOfPay.name) {s0 : Int32} {g : AH} {r : Int32} {g1 : AH} (E : x3_faultOfPay_j53 s0 g = some (r, g1)) : WW M G 4 (RQ M G (some (.int r)) g1 0 0) 0 0 g 53 [] [.int s0] := by
  unfold x3_faultOfPay_j53 at E
  refine r_istore_n X 3 (L1 := [(3, .int s0)]) dX3_faultOfPay_53 rfl (by decide) rfl ?_
  refine r_iload_n X 3 dX3_faultOfPay_54 rfl rfl ?_
  refine r_if_eq X 62 dX3_faultOfPay_55 (by decide) (fun c1 => ?_) (fun c1 => ?_)
  · rw [if_pos c1] at E
    refine r_iconst X (v := 0) dX3_faultOfPay_62 (by decide) ?_
    cases E
    exact r_iret X hr dX3_faultOfPay_63 (by decide) (by decide)
  · rw [if_neg c1] at E
    refine r_iconst X (v := 3) dX3_faultOfPay_58 (by decide) ?_
    refine r_goto X 63 dX3_faultOfPay_59 (by decide) ?_
    cases E
    exact r_iret X hr dX3_faultOfPay_63 (by decide) (by decide)
set_option maxHeartbeats 4000000 in
set_option maxRecDepth 100000 in
theorem t_x3_faultOfPay_j48 {l : Launch} {G : GG} {M : MC} (X : CX M G cX3_faultOfPay 4 RX3 ⟨2, 0, 0, 82⟩) (hl0 : M.2.1 = l) (hr : (mM M).sig.returnType = (some .int)) (hnm : (mM M).name = yX3_faultOfPay.name)  {g : AH} {r : Int32} {g1 : AH} (E : x3_faultOfPay_j48  g = some (r, g1)) : WW M G 4 (RQ M G (some (.int r)) g1 0 0) 0 0 g 48 [] [] := by
  unfold x3_faultOfPay_j48 at E
  refine r_iconst X (v := 1) dX3_faultOfPay_48 (by decide) ?_
  refine r_goto X 53 dX3_faultOfPay_49 (by decide) ?_
  exact r_pick (by rfl : lpick [] [] = _) (t_x3_faultOfPay_j53 X hl0 hr hnm E)
set_option maxHeartbeats 4000000 in
set_option maxRecDepth 100000 in
theorem t_x3_faultOfPay_b {l : Launch} {G : GG} {M : MC} (X : CX M G cX3_faultOfPay 4 RX3 ⟨2, 0, 0, 82⟩) (hl0 : M.2.1 = l) (hr : (mM M).sig.returnType = (some .int)) (hnm : (mM M).name = yX3_faultOfPay.name) {p : Nat} {b0 : Int32} {b1 : Int32} {g : AH} {r : Int32} {g1 : AH} (E : x3_faultOfPay p b0 b1 g = some (r, g1)) : WW M G 4 (RQ M G (some (.int r)) g1 0 0) 0 0 g 0 [(0, .ref p), (1, .int b0), (2, .int b1)] [] := by
  unfold x3_faultOfPay at E
  refine r_aload_n X 0 dX3_faultOfPay_0 rfl rfl ?_
  refine r_iload_n X 1 dX3_faultOfPay_1 rfl rfl ?_
  obtain ⟨u4, e5, E⟩ := gb_some E
  obtain ⟨r1, g2, e3, E⟩ := cb_some E
  refine r_callV0 X hl0 (ci := 3) dX3_faultOfPay_2 y_X3_hasHiker m_X3_248 rfl rfl e5 (t_x3_hasHiker (l := l) (G := G) e3) rfl rfl (Nat.le_of_ble_eq_true rfl) (by decide) ?_
  refine r_if_ne X 10 dX3_faultOfPay_5 (by decide) (fun c6 => ?_) (fun c6 => ?_)
  · rw [if_neg c6] at E
    refine r_iload_n X 2 dX3_faultOfPay_10 rfl rfl ?_
    refine r_iconst X (v := 1) dX3_faultOfPay_11 (by decide) ?_
    refine r_bipush X (v := 99) dX3_faultOfPay_12 (by decide) ?_
    obtain ⟨r7, g8, e9, E⟩ := cb_some E
    refine r_callSN0 X hl0 dX3_faultOfPay_14 y_X8_isWithin (List.mem_of_getElem? (i := 9) rfl) (t_x8_isWithin (l := l) (G := G) e9) rfl rfl (Nat.le_of_ble_eq_true rfl) (by decide) ?_
    refine r_if_ne X 22 dX3_faultOfPay_17 (by decide) (fun c10 => ?_) (fun c10 => ?_)
    · rw [if_neg c10] at E
      refine r_aload_n X 0 dX3_faultOfPay_22 rfl rfl ?_
      obtain ⟨x11, e12, E⟩ := gb_some E
      refine r_getR X dX3_faultOfPay_23 f_X3_29 e12 ?_
      refine r_iload_n X 1 dX3_faultOfPay_26 rfl rfl ?_
      obtain ⟨x13, e14, E⟩ := gb_some E
      refine r_aald X 4 (by decide) rfl dX3_faultOfPay_27 e14 ?_
      obtain ⟨x15, e16, E⟩ := gb_some E
      refine r_getI X dX3_faultOfPay_28 f_X3_188 e16 ?_
      refine r_iload_n X 2 dX3_faultOfPay_31 rfl rfl ?_
      refine r_icmp_lt X 48 dX3_faultOfPay_32 (by decide) (fun c17 => ?_) (fun c17 => ?_)
      · rw [if_pos c17] at E
        exact r_pick (by rfl : lpick [(0, .ref p), (1, .int b0), (2, .int b1)] [] = _) (t_x3_faultOfPay_j48 X hl0 hr hnm E)
      · rw [if_neg c17] at E
        refine r_aload_n X 0 dX3_faultOfPay_35 rfl rfl ?_
        obtain ⟨x18, e19, E⟩ := gb_some E
        refine r_getR X dX3_faultOfPay_36 f_X3_29 e19 ?_
        refine r_iload_n X 1 dX3_faultOfPay_39 rfl rfl ?_
        obtain ⟨x20, e21, E⟩ := gb_some E
        refine r_aald X 4 (by decide) rfl dX3_faultOfPay_40 e21 ?_
        obtain ⟨x22, e23, E⟩ := gb_some E
        refine r_getI X dX3_faultOfPay_41 f_X3_191 e23 ?_
        refine r_iload_n X 2 dX3_faultOfPay_44 rfl rfl ?_
        refine r_icmp_ge X 52 dX3_faultOfPay_45 (by decide) (fun c24 => ?_) (fun c24 => ?_)
        · rw [if_pos c24] at E
          refine r_iconst X (v := 0) dX3_faultOfPay_52 (by decide) ?_
          exact r_pick (by rfl : lpick [(0, .ref p), (1, .int b0), (2, .int b1)] [] = _) (t_x3_faultOfPay_j53 X hl0 hr hnm E)
        · rw [if_neg c24] at E
          exact r_pick (by rfl : lpick [(0, .ref p), (1, .int b0), (2, .int b1)] [] = _) (t_x3_faultOfPay_j48 X hl0 hr hnm E)
    · rw [if_pos c10] at E
      refine r_iconst X (v := 2) dX3_faultOfPay_20 (by decide) ?_
      cases E
      exact r_iret X hr dX3_faultOfPay_21 (by decide) (by decide)
  · rw [if_pos c6] at E
    refine r_iconst X (v := 1) dX3_faultOfPay_8 (by decide) ?_
    cases E
    exact r_iret X hr dX3_faultOfPay_9 (by decide) (by decide)
theorem t_x3_faultOfPay {l : Launch} {G : GG} {p : Nat} {b0 : Int32} {b1 : Int32} {g : AH} {r : Int32} {g1 : AH} (E : x3_faultOfPay p b0 b1 g = some (r, g1)) : Ct l G yX3_faultOfPay cX3_faultOfPay 4 (some .int) ⟨2, 0, 0, 82⟩ [.ref p, .int b0, .int b1] g (some (.int r)) g1 :=
  ct_of (L0 := [(0, .ref p), (1, .int b0), (2, .int b1)]) y_X3_faultOfPay rfl (Nat.le_of_ble_eq_true rfl) fun M hl0 X hr hnm => t_x3_faultOfPay_b X hl0 hr hnm E
set_option maxHeartbeats 4000000 in
set_option maxRecDepth 100000 in
theorem t_x3_faultOfPass_b {l : Launch} {G : GG} {M : MC} (X : CX M G cX3_faultOfPass 2 RX3 ⟨2, 0, 0, 82⟩) (hl0 : M.2.1 = l) (hr : (mM M).sig.returnType = (some .int)) (hnm : (mM M).name = yX3_faultOfPass.name) {p : Nat} {b0 : Int32} {g : AH} {r : Int32} {g1 : AH} (E : x3_faultOfPass p b0 g = some (r, g1)) : WW M G 2 (RQ M G (some (.int r)) g1 0 0) 0 0 g 0 [(0, .ref p), (1, .int b0)] [] := by
  unfold x3_faultOfPass at E
  refine r_iload_n X 1 dX3_faultOfPass_0 rfl rfl ?_
  refine r_iconst X (v := 1) dX3_faultOfPass_1 (by decide) ?_
  refine r_bipush X (v := 48) dX3_faultOfPass_2 (by decide) ?_
  obtain ⟨r1, g2, e3, E⟩ := cb_some E
  refine r_callSN0 X hl0 dX3_faultOfPass_4 y_X8_isWithin (List.mem_of_getElem? (i := 9) rfl) (t_x8_isWithin (l := l) (G := G) e3) rfl rfl (Nat.le_of_ble_eq_true rfl) (by decide) ?_
  refine r_if_ne X 12 dX3_faultOfPass_7 (by decide) (fun c4 => ?_) (fun c4 => ?_)
  · rw [if_neg c4] at E
    refine r_aload_n X 0 dX3_faultOfPass_12 rfl rfl ?_
    obtain ⟨x5, e6, E⟩ := gb_some E
    refine r_getI X dX3_faultOfPass_13 f_X3_51 e6 ?_
    refine r_iload_n X 1 dX3_faultOfPass_16 rfl rfl ?_
    refine r_iadd X dX3_faultOfPass_17 ?_
    refine r_sipush X (v := 9999) dX3_faultOfPass_18 (by decide) ?_
    refine r_icmp_le X 28 dX3_faultOfPass_21 (by decide) (fun c7 => ?_) (fun c7 => ?_)
    · rw [if_pos c7] at E
      refine r_iconst X (v := 0) dX3_faultOfPass_28 (by decide) ?_
      cases E
      exact r_iret X hr dX3_faultOfPass_29 (by decide) (by decide)
    · rw [if_neg c7] at E
      refine r_iconst X (v := 3) dX3_faultOfPass_24 (by decide) ?_
      refine r_goto X 29 dX3_faultOfPass_25 (by decide) ?_
      cases E
      exact r_iret X hr dX3_faultOfPass_29 (by decide) (by decide)
  · rw [if_pos c4] at E
    refine r_iconst X (v := 2) dX3_faultOfPass_10 (by decide) ?_
    cases E
    exact r_iret X hr dX3_faultOfPass_11 (by decide) (by decide)
theorem t_x3_faultOfPass {l : Launch} {G : GG} {p : Nat} {b0 : Int32} {g : AH} {r : Int32} {g1 : AH} (E : x3_faultOfPass p b0 g = some (r, g1)) : Ct l G yX3_faultOfPass cX3_faultOfPass 2 (some .int) ⟨2, 0, 0, 82⟩ [.ref p, .int b0] g (some (.int r)) g1 :=
  ct_of (L0 := [(0, .ref p), (1, .int b0)]) y_X3_faultOfPass rfl (Nat.le_of_ble_eq_true rfl) fun M hl0 X hr hnm => t_x3_faultOfPass_b X hl0 hr hnm E
set_option maxHeartbeats 4000000 in
set_option maxRecDepth 100000 in
theorem t_x3_faultOf_b {l : Launch} {G : GG} {M : MC} (X : CX M G cX3_faultOf 4 RX3 ⟨4, 0, 0, 124⟩) (hl0 : M.2.1 = l) (hr : (mM M).sig.returnType = (some .int)) (hnm : (mM M).name = yX3_faultOf.name) {p : Nat} {b0 : Int32} {b1 : Int32} {b2 : Int32} {g : AH} {r : Int32} {g1 : AH} (E : x3_faultOf p b0 b1 b2 g = some (r, g1)) : WW M G 4 (RQ M G (some (.int r)) g1 0 0) 0 0 g 0 [(0, .ref p), (1, .int b0), (2, .int b1), (3, .int b2)] [] := by
  unfold x3_faultOf at E
  refine r_iload_n X 1 dX3_faultOf_0 rfl rfl ?_
  by_cases c1 : b0 = 0
  · rw [if_pos c1] at E
    refine r_tswI X 0 48 dX3_faultOf_1 c1 (by decide) (by decide) rfl (by decide) ?_
    refine r_aload_n X 0 dX3_faultOf_48 rfl rfl ?_
    refine r_iload_n X 2 dX3_faultOf_49 rfl rfl ?_
    refine r_iload_n X 3 dX3_faultOf_50 rfl rfl ?_
    obtain ⟨u5, e6, E⟩ := gb_some E
    obtain ⟨r2, g3, e4, E⟩ := cb_some E
    refine r_callV0 X hl0 (ci := 3) dX3_faultOf_51 y_X3_faultOfTake m_X3_224 rfl rfl e6 (t_x3_faultOfTake (l := l) (G := G) e4) rfl rfl (Nat.le_of_ble_eq_true rfl) (by decide) ?_
    cases E
    exact r_iret X hr dX3_faultOf_54 (by decide) (by decide)
  rw [if_neg c1] at E
  by_cases c7 : b0 = 1
  · rw [if_pos c7] at E
    refine r_tswI X 1 55 dX3_faultOf_1 c7 (by decide) (by decide) rfl (by decide) ?_
    refine r_aload_n X 0 dX3_faultOf_55 rfl rfl ?_
    refine r_iload_n X 2 dX3_faultOf_56 rfl rfl ?_
    obtain ⟨u11, e12, E⟩ := gb_some E
    obtain ⟨r8, g9, e10, E⟩ := cb_some E
    refine r_callV0 X hl0 (ci := 3) dX3_faultOf_57 y_X3_faultOfReturn m_X3_227 rfl rfl e12 (t_x3_faultOfReturn (l := l) (G := G) e10) rfl rfl (Nat.le_of_ble_eq_true rfl) (by decide) ?_
    cases E
    exact r_iret X hr dX3_faultOf_60 (by decide) (by decide)
  rw [if_neg c7] at E
  by_cases c13 : b0 = 2
  · rw [if_pos c13] at E
    refine r_tswI X 2 61 dX3_faultOf_1 c13 (by decide) (by decide) rfl (by decide) ?_
    refine r_aload_n X 0 dX3_faultOf_61 rfl rfl ?_
    refine r_iload_n X 2 dX3_faultOf_62 rfl rfl ?_
    refine r_iload_n X 3 dX3_faultOf_63 rfl rfl ?_
    obtain ⟨u17, e18, E⟩ := gb_some E
    obtain ⟨r14, g15, e16, E⟩ := cb_some E
    refine r_callV0 X hl0 (ci := 3) dX3_faultOf_64 y_X3_faultOfSwap m_X3_230 rfl rfl e18 (t_x3_faultOfSwap (l := l) (G := G) e16) rfl rfl (Nat.le_of_ble_eq_true rfl) (by decide) ?_
    cases E
    exact r_iret X hr dX3_faultOf_67 (by decide) (by decide)
  rw [if_neg c13] at E
  by_cases c19 : b0 = 3
  · rw [if_pos c19] at E
    refine r_tswI X 3 68 dX3_faultOf_1 c19 (by decide) (by decide) rfl (by decide) ?_
    refine r_aload_n X 0 dX3_faultOf_68 rfl rfl ?_
    refine r_iload_n X 2 dX3_faultOf_69 rfl rfl ?_
    refine r_iload_n X 3 dX3_faultOf_70 rfl rfl ?_
    obtain ⟨u23, e24, E⟩ := gb_some E
    obtain ⟨r20, g21, e22, E⟩ := cb_some E
    refine r_callV0 X hl0 (ci := 3) dX3_faultOf_71 y_X3_faultOfLie m_X3_233 rfl rfl e24 (t_x3_faultOfLie (l := l) (G := G) e22) rfl rfl (Nat.le_of_ble_eq_true rfl) (by decide) ?_
    cases E
    exact r_iret X hr dX3_faultOf_74 (by decide) (by decide)
  rw [if_neg c19] at E
  by_cases c25 : b0 = 4
  · rw [if_pos c25] at E
    refine r_tswI X 4 75 dX3_faultOf_1 c25 (by decide) (by decide) rfl (by decide) ?_
    refine r_aload_n X 0 dX3_faultOf_75 rfl rfl ?_
    refine r_iload_n X 2 dX3_faultOf_76 rfl rfl ?_
    obtain ⟨u29, e30, E⟩ := gb_some E
    obtain ⟨r26, g27, e28, E⟩ := cb_some E
    refine r_callV0 X hl0 (ci := 3) dX3_faultOf_77 y_X3_faultOfRise m_X3_236 rfl rfl e30 (t_x3_faultOfRise (l := l) (G := G) e28) rfl rfl (Nat.le_of_ble_eq_true rfl) (by decide) ?_
    cases E
    exact r_iret X hr dX3_faultOf_80 (by decide) (by decide)
  rw [if_neg c25] at E
  by_cases c31 : b0 = 5
  · rw [if_pos c31] at E
    refine r_tswI X 5 81 dX3_faultOf_1 c31 (by decide) (by decide) rfl (by decide) ?_
    refine r_iload_n X 2 dX3_faultOf_81 rfl rfl ?_
    refine r_iconst X (v := 0) dX3_faultOf_82 (by decide) ?_
    refine r_iconst X (v := 3) dX3_faultOf_83 (by decide) ?_
    obtain ⟨r32, g33, e34, E⟩ := cb_some E
    refine r_callSN0 X hl0 dX3_faultOf_84 y_X8_isWithin (List.mem_of_getElem? (i := 9) rfl) (t_x8_isWithin (l := l) (G := G) e34) rfl rfl (Nat.le_of_ble_eq_true rfl) (by decide) ?_
    refine r_if_eq X 94 dX3_faultOf_87 (by decide) (fun c35 => ?_) (fun c35 => ?_)
    · rw [if_pos c35] at E
      refine r_iconst X (v := 2) dX3_faultOf_94 (by decide) ?_
      cases E
      exact r_iret X hr dX3_faultOf_95 (by decide) (by decide)
    · rw [if_neg c35] at E
      refine r_iconst X (v := 0) dX3_faultOf_90 (by decide) ?_
      refine r_goto X 95 dX3_faultOf_91 (by decide) ?_
      cases E
      exact r_iret X hr dX3_faultOf_95 (by decide) (by decide)
  rw [if_neg c31] at E
  by_cases c36 : b0 = 6
  · rw [if_pos c36] at E
    refine r_tswI X 6 96 dX3_faultOf_1 c36 (by decide) (by decide) rfl (by decide) ?_
    refine r_aload_n X 0 dX3_faultOf_96 rfl rfl ?_
    refine r_iload_n X 2 dX3_faultOf_97 rfl rfl ?_
    obtain ⟨u40, e41, E⟩ := gb_some E
    obtain ⟨r37, g38, e39, E⟩ := cb_some E
    refine r_callV0 X hl0 (ci := 3) dX3_faultOf_98 y_X3_faultOfFetch m_X3_239 rfl rfl e41 (t_x3_faultOfFetch (l := l) (G := G) e39) rfl rfl (Nat.le_of_ble_eq_true rfl) (by decide) ?_
    cases E
    exact r_iret X hr dX3_faultOf_101 (by decide) (by decide)
  rw [if_neg c36] at E
  by_cases c42 : b0 = 7
  · rw [if_pos c42] at E
    refine r_tswI X 7 102 dX3_faultOf_1 c42 (by decide) (by decide) rfl (by decide) ?_
    refine r_aload_n X 0 dX3_faultOf_102 rfl rfl ?_
    refine r_iload_n X 2 dX3_faultOf_103 rfl rfl ?_
    refine r_iload_n X 3 dX3_faultOf_104 rfl rfl ?_
    obtain ⟨u46, e47, E⟩ := gb_some E
    obtain ⟨r43, g44, e45, E⟩ := cb_some E
    refine r_callV0 X hl0 (ci := 3) dX3_faultOf_105 y_X3_faultOfPay m_X3_242 rfl rfl e47 (t_x3_faultOfPay (l := l) (G := G) e45) rfl rfl (Nat.le_of_ble_eq_true rfl) (by decide) ?_
    cases E
    exact r_iret X hr dX3_faultOf_108 (by decide) (by decide)
  rw [if_neg c42] at E
  refine r_tswD X 109 dX3_faultOf_1 (tsw_out (fun k h1 h2 => by
    rcases (by omega : k = 0 ∨ k = 1 ∨ k = 2 ∨ k = 3 ∨ k = 4 ∨ k = 5 ∨ k = 6 ∨ k = 7) with rfl | rfl | rfl | rfl | rfl | rfl | rfl | rfl
    · exact c1
    · exact c7
    · exact c13
    · exact c19
    · exact c25
    · exact c31
    · exact c36
    · exact c42
    )) (by decide) ?_
  refine r_aload_n X 0 dX3_faultOf_109 rfl rfl ?_
  refine r_iload_n X 2 dX3_faultOf_110 rfl rfl ?_
  obtain ⟨u51, e52, E⟩ := gb_some E
  obtain ⟨r48, g49, e50, E⟩ := cb_some E
  refine r_callV0 X hl0 (ci := 3) dX3_faultOf_111 y_X3_faultOfPass m_X3_245 rfl rfl e52 (t_x3_faultOfPass (l := l) (G := G) e50) rfl rfl (Nat.le_of_ble_eq_true rfl) (by decide) ?_
  cases E
  exact r_iret X hr dX3_faultOf_114 (by decide) (by decide)
theorem t_x3_faultOf {l : Launch} {G : GG} {p : Nat} {b0 : Int32} {b1 : Int32} {b2 : Int32} {g : AH} {r : Int32} {g1 : AH} (E : x3_faultOf p b0 b1 b2 g = some (r, g1)) : Ct l G yX3_faultOf cX3_faultOf 4 (some .int) ⟨4, 0, 0, 124⟩ [.ref p, .int b0, .int b1, .int b2] g (some (.int r)) g1 :=
  ct_of (L0 := [(0, .ref p), (1, .int b0), (2, .int b1), (3, .int b2)]) y_X3_faultOf rfl (Nat.le_of_ble_eq_true rfl) fun M hl0 X hr hnm => t_x3_faultOf_b X hl0 hr hnm E
