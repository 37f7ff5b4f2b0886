/-! functions and contracts, by program: activity, hoursOf, coinsOf, debtOf, isAhead, rankOf, hikerAtRank, awakeWithout, worstSnorer, hikersWithout, coldHikers, missing, coldestHiker, thinnest, give, fewestCold, coldBehind, bestExchange, goodness, warmestBunk, hutCoins, burnedLogs, totalDebt, countTwice, auditDifference, meanWarmth, sleepShare, isAheadOfNow, insideBehind, temperatureAfter, growth, shiversUntilDawn, dueAtDawn, paymentAtDawn, debtBehind, debtAfter, dawnsToDebt, dawnsUntilDebt, hoursToNoLogs, hoursUntilNoLogs, hoursWith, rateNeeded, bestRate, writeByte, writeNumber, writeHiker, writeBunks, writeAccount, writeLedger, outputByte, undo, saveSnapshot, restoreSnapshot -/
def x9_activity (p : Nat) (b0 : Int32) (g : AH) : Option (Int32 × AH) :=
  gb (putV 9 g p 6 (.int 0)) fun g1 => gb (isO 9 g1 p) fun _ => cb (x9_isHiker p b0 g1) fun r3 g4 => if r3 = 0 then
  gb (isO 9 g4 p) fun _ => cb (x9_fail p 1 g4) fun r9 g10 => some (r9, g10)
  else
  gb (isO 9 g4 p) fun _ => cb (x9_deed p b0 g4) fun r14 g15 => some (r14, g15)
def x9_hoursOf_j27 (a0 : Nat) (a1 : Int32) (a2 : Int32) (s0 : Int32) (s1 : Nat) (g : AH) : Option (Int32 × AH) :=
  gb (putV 9 g s1 6 (.int s0)) fun g1 => gb (getI 9 g1 a0 6) fun x3 => if x3 ≤ 0 then
  gb (isO 9 g1 a0) fun _ => cb (x9_get a0 a1 (6 + a2) g1) fun r6 g7 => some (r6, g7)
  else
  some (0, g1)
def x9_hoursOf (p : Nat) (b0 : Int32) (b1 : Int32) (g : AH) : Option (Int32 × AH) :=
  gb (isO 9 g p) fun _ => cb (x9_isHiker p b0 g) fun r1 g2 => if r1 = 0 then
  x9_hoursOf_j27 p b0 b1 1 p g2
  else
  cb (x9_isBetween b1 0 3 g2) fun r7 g8 => if r7 = 0 then
  x9_hoursOf_j27 p b0 b1 2 p g8
  else
  x9_hoursOf_j27 p b0 b1 0 p g8
def x9_coinsOf (p : Nat) (b0 : Int32) (g : AH) : Option (Int32 × AH) :=
  gb (isO 9 g p) fun _ => cb (x9_tellOf p b0 2 g) fun r1 g2 => some (r1, g2)
def x9_debtOf (p : Nat) (b0 : Int32) (g : AH) : Option (Int32 × AH) :=
  gb (isO 9 g p) fun _ => cb (x9_tellOf p b0 3 g) fun r1 g2 => some (r1, g2)
def x9_isAhead_j36 (a1 : Int32) (a2 : Int32) (a3 : Int32) (g : AH) : Option (Int32 × AH) :=
  if a3 = 0 then
  if a2 ≤ a1 then
  some (0, g)
  else
  some (1, g)
  else
  if a3 ≤ 0 then
  some (0, g)
  else
  some (1, g)
def x9_isAhead (p : Nat) (b0 : Int32) (b1 : Int32) (g : AH) : Option (Int32 × AH) :=
  gb (isO 9 g p) fun _ => cb (x9_get p b0 8 g) fun r1 g2 => gb (isO 9 g2 p) fun _ => cb (x9_get p b1 8 g2) fun r6 g7 => if (r1 - r6) = 0 then
  gb (isO 9 g7 p) fun _ => cb (x9_get p b1 6 g7) fun r12 g13 => gb (isO 9 g13 p) fun _ => cb (x9_get p b0 6 g13) fun r17 g18 => x9_isAhead_j36 b0 b1 (r12 - r17) g18
  else
  x9_isAhead_j36 b0 b1 (r1 - r6) g7
def x9_rankOf_j35_4 (a0 : Nat) (a1 : Int32) (a3 : Int32) (s0 : Int32) (s1 : Int32) (g : AH) : Option (((Int32 × Int32) ⊕ (Int32)) × AH) :=
  some (.inl ((s1 + s0), (a3 + 1)), g)
def x9_rankOf_j34_4 (a0 : Nat) (a1 : Int32) (a3 : Int32) (s0 : Int32) (g : AH) : Option (((Int32 × Int32) ⊕ (Int32)) × AH) :=
  x9_rankOf_j35_4 a0 a1 a3 0 s0 g
def x9_rankOf_l4 (a0 : Nat) (a1 : Int32) (s0 : Int32 × Int32) (g : AH) : Option (((Int32 × Int32) ⊕ (Int32)) × AH) :=
  gb (getR 9 g a0 0) fun x1 => gb (aldI 0 g x1 12) fun x3 => if x3 ≤ s0.2 then
  some (.inr s0.1, g)
  else
  if s0.2 = a1 then
  x9_rankOf_j34_4 a0 a1 s0.2 s0.1 g
  else
  gb (isO 9 g a0) fun _ => cb (x9_isAhead a0 s0.2 a1 g) fun r7 g8 => if r7 = 0 then
  x9_rankOf_j34_4 a0 a1 s0.2 s0.1 g8
  else
  x9_rankOf_j35_4 a0 a1 s0.2 1 s0.1 g8
def x9_rankOf (p : Nat) (b0 : Int32) (g : AH) : Option (Int32 × AH) :=
  cb (loopX (x9_rankOf_l4 p b0) 1000 (0, 0) g) fun t1 g2 =>
  some (t1, g2)
def x9_hikerAtRank_l7 (a0 : Nat) (a1 : Int32) (s0 : Int32) (g : AH) : Option (((Int32) ⊕ ((Unit) ⊕ Int32)) × AH) :=
  gb (getR 9 g a0 0) fun x1 => gb (aldI 0 g x1 12) fun x3 => if x3 ≤ s0 then
  some (.inr (.inl ()), g)
  else
  gb (isO 9 g a0) fun _ => cb (x9_rankOf a0 s0 g) fun r6 g7 => if r6 = a1 then
  some (.inr (.inr s0), g7)
  else
  some (.inl (s0 + 1), g7)
def x9_hikerAtRank (p : Nat) (b0 : Int32) (g : AH) : Option (Int32 × AH) :=
  gb (putV 9 g p 6 (.int 0)) fun g1 => cb (loopX (x9_hikerAtRank_l7 p b0) 1000 0 g1) fun t3 g4 => Sum.elim (fun t6 =>
  gb (isO 9 g4 p) fun _ => cb (x9_fail p 1 g4) fun r8 g9 => some (r8, g9)) (fun t7 => some (t7, g4)) t3
def x9_awakeWithout (p : Nat) (b0 : Int32) (g : AH) : Option (Int32 × AH) :=
  gb (isO 9 g p) fun _ => cb (x9_set p b0 1 0 g) fun r1 g2 => gb (isO 9 g2 p) fun _ => cb (x9_countDeed p 1 g2) fun r6 g7 => some (r6, g7)
def x9_worstSnorer_j52_15 (a0 : Nat) (a2 : Int32) (a3 : Int32) (a4 : Int32) (s0 : Int32) (g : AH) : Option (((Int32 × Int32 × Int32) ⊕ (Int32)) × AH) :=
  some (.inl (s0, (if a4 < a2 then a4 else a2), (a3 + 1)), g)
def x9_worstSnorer_l15 (a0 : Nat) (s0 : Int32 × Int32 × Int32) (g : AH) : Option (((Int32 × Int32 × Int32) ⊕ (Int32)) × AH) :=
  gb (getR 9 g a0 0) fun x1 => gb (aldI 0 g x1 12) fun x3 => if x3 ≤ s0.2.2 then
  some (.inr s0.1, g)
  else
  gb (isO 9 g a0) fun _ => cb (x9_goAside a0 g) fun r6 g7 => gb (isO 9 g7 a0) fun _ => cb (x9_awakeWithout a0 s0.2.2 g7) fun r11 g12 => gb (isO 9 g12 a0) fun _ => cb (x9_comeBack a0 r11 g12) fun r16 g17 => if s0.2.1 ≤ r16 then
  x9_worstSnorer_j52_15 a0 s0.2.1 s0.2.2 r16 s0.1 g17
  else
  x9_worstSnorer_j52_15 a0 s0.2.1 s0.2.2 r16 s0.2.2 g17
def x9_worstSnorer (p : Nat) (g : AH) : Option (Int32 × AH) :=
  gb (putV 9 g p 6 (.int 0)) fun g1 => gb (isO 9 g1 p) fun _ => cb (x9_countDeed p 1 g1) fun r3 g4 => cb (loopX (x9_worstSnorer_l15 p) 1000 ((-1), r3, 0) g4) fun t8 g9 =>
  some (t8, g9)
def x9_hikersWithout (p : Nat) (g : AH) : Option (Int32 × AH) :=
  gb (isO 9 g p) fun _ => cb (x9_countWithout p g) fun r1 g2 => gb (isO 9 g2 p) fun _ => cb (x9_tell p r1 g2) fun r6 g7 => some (r6, g7)
def x9_coldHikers (p : Nat) (g : AH) : Option (Int32 × AH) :=
  gb (putV 9 g p 6 (.int 0)) fun g1 => gb (isO 9 g1 p) fun _ => cb (x9_countDeed p 0 g1) fun r3 g4 => some (r3, g4)
def x9_missing (p : Nat) (b0 : Int32) (g : AH) : Option (Int32 × AH) :=
  gb (isO 9 g p) fun _ => cb (x9_get p b0 0 g) fun r1 g2 => gb (isO 9 g2 p) fun _ => cb (x9_warmthNow p b0 g2) fun r6 g7 => some ((r1 - r6), g7)
def x9_coldestHiker_j38_9 (a0 : Nat) (a2 : Int32) (s0 : Int32) (g : AH) : Option (((Int32 × Int32) ⊕ (Int32)) × AH) :=
  some (.inl (s0, (a2 + 1)), g)
def x9_coldestHiker_l9 (a0 : Nat) (s0 : Int32 × Int32) (g : AH) : Option (((Int32 × Int32) ⊕ (Int32)) × AH) :=
  gb (getR 9 g a0 0) fun x1 => gb (aldI 0 g x1 12) fun x3 => if x3 ≤ s0.2 then
  some (.inr s0.1, g)
  else
  gb (isO 9 g a0) fun _ => cb (x9_missing a0 s0.2 g) fun r6 g7 => gb (isO 9 g7 a0) fun _ => cb (x9_missing a0 s0.1 g7) fun r11 g12 => if r6 ≤ r11 then
  x9_coldestHiker_j38_9 a0 s0.2 s0.1 g12
  else
  x9_coldestHiker_j38_9 a0 s0.2 s0.2 g12
def x9_coldestHiker (p : Nat) (g : AH) : Option (Int32 × AH) :=
  gb (putV 9 g p 6 (.int 0)) fun g1 => cb (loopX (x9_coldestHiker_l9 p) 1000 (0, 1) g1) fun t3 g4 =>
  some (t3, g4)
def x9_thinnest_j80_4 (a0 : Nat) (a1 : Int32) (a3 : Int32) (s0 : Int32) (g : AH) : Option (((Int32 × Int32) ⊕ (Int32)) × AH) :=
  some (.inl (s0, (a3 + 1)), g)
def x9_thinnest_j79_4 (a0 : Nat) (a1 : Int32) (a2 : Int32) (a3 : Int32) (g : AH) : Option (((Int32 × Int32) ⊕ (Int32)) × AH) :=
  x9_thinnest_j80_4 a0 a1 a3 a2 g
def x9_thinnest_j75_4 (a0 : Nat) (a1 : Int32) (a3 : Int32) (g : AH) : Option (((Int32 × Int32) ⊕ (Int32)) × AH) :=
  x9_thinnest_j80_4 a0 a1 a3 a3 g
def x9_thinnest_j42_4 (a0 : Nat) (a1 : Int32) (a2 : Int32) (a3 : Int32) (s0 : Int32) (g : AH) : Option (((Int32 × Int32) ⊕ (Int32)) × AH) :=
  if s0 = 0 then
  x9_thinnest_j79_4 a0 a1 a2 a3 g
  else
  if a2 = (-1) then
  x9_thinnest_j75_4 a0 a1 a3 g
  else
  gb (getR 9 g a0 0) fun x3 => gb (aldI 0 g x3 (25 + a3)) fun x5 => gb (getR 9 g a0 0) fun x7 => gb (aldI 0 g x7 (25 + a2)) fun x9 => if x9 ≤ x5 then
  x9_thinnest_j79_4 a0 a1 a2 a3 g
  else
  x9_thinnest_j75_4 a0 a1 a3 g
def x9_thinnest_j41_4 (a0 : Nat) (a1 : Int32) (a2 : Int32) (a3 : Int32) (g : AH) : Option (((Int32 × Int32) ⊕ (Int32)) × AH) :=
  x9_thinnest_j42_4 a0 a1 a2 a3 0 g
def x9_thinnest_l4 (a0 : Nat) (a1 : Int32) (s0 : Int32 × Int32) (g : AH) : Option (((Int32 × Int32) ⊕ (Int32)) × AH) :=
  gb (getR 9 g a0 0) fun x1 => gb (aldI 0 g x1 10) fun x3 => if x3 ≤ s0.2 then
  some (.inr s0.1, g)
  else
  gb (getR 9 g a0 18) fun x6 => gb (aldI 2 g x6 s0.2) fun x8 => if x8 = 0 then
  gb (getR 9 g a0 0) fun x11 => gb (aldI 0 g x11 (25 + s0.2)) fun x13 => if x13 < a1 then
  x9_thinnest_j41_4 a0 a1 s0.1 s0.2 g
  else
  x9_thinnest_j42_4 a0 a1 s0.1 s0.2 1 g
  else
  x9_thinnest_j41_4 a0 a1 s0.1 s0.2 g
def x9_thinnest (p : Nat) (b0 : Int32) (g : AH) : Option (Int32 × AH) :=
  cb (loopX (x9_thinnest_l4 p b0) 1000 ((-1), 0) g) fun t1 g2 =>
  some (t1, g2)
def x9_give_j18 (a2 : Int32) (g : AH) : Option (Int32 × AH) :=
  if a2 = (-1) then
  some (0, g)
  else
  some (1, g)
def x9_give (p : Nat) (b0 : Int32) (g : AH) : Option (Int32 × AH) :=
  gb (isO 9 g p) fun _ => cb (x9_thinnest p b0 g) fun r1 g2 => if r1 = (-1) then
  x9_give_j18 r1 g2
  else
  gb (getR 9 g2 p 18) fun x7 => gb (astI 2 g2 x7 r1 1) fun g9 => x9_give_j18 r1 g9
def x9_fewestCold_l7 (a0 : Nat) (s0 : Int32) (g : AH) : Option (((Int32) ⊕ (Unit)) × AH) :=
  gb (getR 9 g a0 0) fun x1 => gb (aldI 0 g x1 10) fun x3 => if x3 ≤ s0 then
  some (.inr (), g)
  else
  gb (getR 9 g a0 18) fun x6 => gb (astI 2 g x6 s0 0) fun g8 => some (.inl (s0 + 1), g8)
def x9_fewestCold_j86_43 (a0 : Nat) (a1 : Int32) (a2 : Int32) (a3 : Int32) (g : AH) : Option (((Int32 × Int32) ⊕ (Int32)) × AH) :=
  some (.inl (a1, (a3 + 1)), g)
def x9_fewestCold_j84_43 (a0 : Nat) (a2 : Int32) (a3 : Int32) (s0 : Int32) (s1 : Int32) (g : AH) : Option (((Int32 × Int32) ⊕ (Int32)) × AH) :=
  x9_fewestCold_j86_43 a0 (s1 + s0) a2 a3 g
def x9_fewestCold_l43 (a0 : Nat) (a2 : Int32) (s0 : Int32 × Int32) (g : AH) : Option (((Int32 × Int32) ⊕ (Int32)) × AH) :=
  gb (getR 9 g a0 0) fun x1 => gb (aldI 0 g x1 12) fun x3 => if x3 ≤ s0.2 then
  some (.inr s0.1, g)
  else
  gb (isO 9 g a0) fun _ => cb (x9_get a0 s0.2 0 g) fun r6 g7 => gb (isO 9 g7 a0) fun _ => cb (x9_warmthBare a0 s0.2 g7) fun r11 g12 => if (r6 - r11) = a2 then
  gb (isO 9 g12 a0) fun _ => cb (x9_give a0 a2 g12) fun r17 g18 => if r17 = 0 then
  x9_fewestCold_j84_43 a0 a2 s0.2 1 s0.1 g18
  else
  x9_fewestCold_j84_43 a0 a2 s0.2 0 s0.1 g18
  else
  x9_fewestCold_j86_43 a0 s0.1 a2 s0.2 g12
def x9_fewestCold_l35 (a0 : Nat) (s0 : Int32 × Int32) (g : AH) : Option (((Int32 × Int32) ⊕ (Int32)) × AH) :=
  if 30 < s0.2 then
  some (.inr s0.1, g)
  else
  cb (loopX (x9_fewestCold_l43 a0 s0.2) 1000 (s0.1, 0) g) fun t2 g3 =>
  some (.inl (t2, (s0.2 + 1)), g3)
def x9_fewestCold (p : Nat) (g : AH) : Option (Int32 × AH) :=
  gb (putV 9 g p 6 (.int 0)) fun g1 => cb (loopX (x9_fewestCold_l7 p) 1000 0 g1) fun t3 g4 =>
  cb (loopX (x9_fewestCold_l35 p) 1000 (0, 1) g4) fun t6 g7 =>
  some (t6, g7)
def x9_coldBehind (p : Nat) (b0 : Int32) (b1 : Int32) (g : AH) : Option (Int32 × AH) :=
  gb (isO 9 g p) fun _ => cb (x9_exchange p b0 b1 g) fun r1 g2 => gb (isO 9 g2 p) fun _ => cb (x9_countDeed p 0 g2) fun r6 g7 => some (r6, g7)
def x9_bestExchange_j77_31 (a0 : Nat) (a2 : Int32) (a3 : Int32) (a4 : Int32) (a5 : Int32) (s0 : Int32) (g : AH) : Option (((Int32 × Int32 × Int32) ⊕ (Int32 × Int32)) × AH) :=
  some (.inl (s0, (if a5 < a2 then a5 else a2), (a4 + 1)), g)
def x9_bestExchange_l31 (a0 : Nat) (a3 : Int32) (s0 : Int32 × Int32 × Int32) (g : AH) : Option (((Int32 × Int32 × Int32) ⊕ (Int32 × Int32)) × AH) :=
  gb (getR 9 g a0 0) fun x1 => gb (aldI 0 g x1 12) fun x3 => if x3 ≤ s0.2.2 then
  some (.inr (s0.1, s0.2.1), g)
  else
  gb (isO 9 g a0) fun _ => cb (x9_goAside a0 g) fun r6 g7 => gb (isO 9 g7 a0) fun _ => cb (x9_coldBehind a0 a3 s0.2.2 g7) fun r11 g12 => gb (isO 9 g12 a0) fun _ => cb (x9_comeBack a0 r11 g12) fun r16 g17 => if s0.2.1 ≤ r16 then
  x9_bestExchange_j77_31 a0 s0.2.1 a3 s0.2.2 r16 s0.1 g17
  else
  x9_bestExchange_j77_31 a0 s0.2.1 a3 s0.2.2 r16 ((10 * a3) + s0.2.2) g17
def x9_bestExchange_l15 (a0 : Nat) (s0 : Int32 × Int32 × Int32) (g : AH) : Option (((Int32 × Int32 × Int32) ⊕ (Int32)) × AH) :=
  gb (getR 9 g a0 0) fun x1 => gb (aldI 0 g x1 12) fun x3 => if x3 ≤ s0.2.2 then
  some (.inr s0.1, g)
  else
  cb (loopX (x9_bestExchange_l31 a0 s0.2.2) 1000 (s0.1, s0.2.1, (s0.2.2 + 1)) g) fun t6 g7 =>
  some (.inl (t6.1, t6.2, (s0.2.2 + 1)), g7)
def x9_bestExchange (p : Nat) (g : AH) : Option (Int32 × AH) :=
  gb (putV 9 g p 6 (.int 0)) fun g1 => gb (isO 9 g1 p) fun _ => cb (x9_countDeed p 0 g1) fun r3 g4 => cb (loopX (x9_bestExchange_l15 p) 1000 ((-1), r3, 0) g4) fun t8 g9 =>
  some (t8, g9)
def x9_goodness (p : Nat) (b0 : Int32) (b1 : Int32) (g : AH) : Option (Int32 × AH) :=
  gb (isO 9 g p) fun _ => cb (x9_set p b0 4 b1 g) fun r1 g2 => gb (isO 9 g2 p) fun _ => cb (x9_warmthNow p b0 g2) fun r6 g7 => gb (isO 9 g7 p) fun _ => cb (x9_noise p b1 g7) fun r11 g12 => some (((100 * r6) - r11), g12)
def x9_warmestBunk_j82_26 (a0 : Nat) (a1 : Int32) (a2 : Int32) (a3 : Int32) (a4 : Int32) (g : AH) : Option (((Int32 × Int32 × Int32) ⊕ (Int32)) × AH) :=
  some (.inl (a2, a3, (a4 + 1)), g)
def x9_warmestBunk_j76_26 (a0 : Nat) (a1 : Int32) (a4 : Int32) (a5 : Int32) (g : AH) : Option (((Int32 × Int32 × Int32) ⊕ (Int32)) × AH) :=
  x9_warmestBunk_j82_26 a0 a1 a4 a5 a4 g
def x9_warmestBunk_l26 (a0 : Nat) (a1 : Int32) (s0 : Int32 × Int32 × Int32) (g : AH) : Option (((Int32 × Int32 × Int32) ⊕ (Int32)) × AH) :=
  gb (getR 9 g a0 0) fun x1 => gb (aldI 0 g x1 9) fun x3 => if x3 ≤ s0.2.2 then
  some (.inr s0.1, g)
  else
  gb (isO 9 g a0) fun _ => cb (x9_isFreeFor a0 a1 s0.2.2 g) fun r6 g7 => if r6 = 0 then
  x9_warmestBunk_j82_26 a0 a1 s0.1 s0.2.1 s0.2.2 g7
  else
  gb (isO 9 g7 a0) fun _ => cb (x9_goAside a0 g7) fun r12 g13 => gb (isO 9 g13 a0) fun _ => cb (x9_goodness a0 a1 s0.2.2 g13) fun r17 g18 => gb (isO 9 g18 a0) fun _ => cb (x9_comeBack a0 r17 g18) fun r22 g23 => if s0.1 = (-1) then
  x9_warmestBunk_j76_26 a0 a1 s0.2.2 r22 g23
  else
  if r22 ≤ s0.2.1 then
  x9_warmestBunk_j82_26 a0 a1 s0.1 s0.2.1 s0.2.2 g23
  else
  x9_warmestBunk_j76_26 a0 a1 s0.2.2 r22 g23
def x9_warmestBunk (p : Nat) (b0 : Int32) (g : AH) : Option (Int32 × AH) :=
  gb (putV 9 g p 6 (.int 0)) fun g1 => gb (isO 9 g1 p) fun _ => cb (x9_isHiker p b0 g1) fun r3 g4 => if r3 = 0 then
  gb (isO 9 g4 p) fun _ => cb (x9_fail p 1 g4) fun r12 g13 => some (r12, g13)
  else
  cb (loopX (x9_warmestBunk_l26 p b0) 1000 ((-1), 0, 0) g4) fun t9 g10 =>
  some (t9, g10)
def x9_hutCoins (p : Nat) (g : AH) : Option (Int32 × AH) :=
  gb (getR 9 g p 0) fun x1 => gb (aldI 0 g x1 6) fun x3 => gb (isO 9 g p) fun _ => cb (x9_tell p x3 g) fun r5 g6 => some (r5, g6)
def x9_burnedLogs (p : Nat) (g : AH) : Option (Int32 × AH) :=
  gb (getR 9 g p 0) fun x1 => gb (aldI 0 g x1 4) fun x3 => gb (isO 9 g p) fun _ => cb (x9_tell p x3 g) fun r5 g6 => some (r5, g6)
def x9_totalDebt (p : Nat) (g : AH) : Option (Int32 × AH) :=
  gb (isO 9 g p) fun _ => cb (x9_sumOf p 3 g) fun r1 g2 => gb (isO 9 g2 p) fun _ => cb (x9_tell p r1 g2) fun r6 g7 => some (r6, g7)
def x9_countTwice_j48_17 (a0 : Nat) (a1 : Int32) (a2 : Int32) (a3 : Int32) (a4 : Int32) (a6 : Int32) (s0 : Int32) (s1 : Int32) (g : AH) : Option (((Int32 × Int32) ⊕ (Int32)) × AH) :=
  some (.inl ((s1 + s0), (a6 + 1)), g)
def x9_countTwice_l17 (a0 : Nat) (a1 : Int32) (a2 : Int32) (a3 : Int32) (a4 : Int32) (s0 : Int32 × Int32) (g : AH) : Option (((Int32 × Int32) ⊕ (Int32)) × AH) :=
  gb (getR 9 g a0 0) fun x1 => gb (aldI 0 g x1 12) fun x3 => if x3 ≤ s0.2 then
  some (.inr s0.1, g)
  else
  gb (isO 9 g a0) fun _ => cb (x9_get a0 s0.2 a1 g) fun r6 g7 => if r6 = a4 then
  x9_countTwice_j48_17 a0 a1 a2 a3 a4 s0.2 1 s0.1 g7
  else
  x9_countTwice_j48_17 a0 a1 a2 a3 a4 s0.2 0 s0.1 g7
def x9_countTwice_j69_5 (a0 : Nat) (a1 : Int32) (a2 : Int32) (a4 : Int32) (s0 : Int32) (s1 : Int32) (g : AH) : Option (((Int32 × Int32) ⊕ (Int32)) × AH) :=
  some (.inl ((s1 + s0), (a4 + 1)), g)
def x9_countTwice_l5 (a0 : Nat) (a1 : Int32) (a2 : Int32) (s0 : Int32 × Int32) (g : AH) : Option (((Int32 × Int32) ⊕ (Int32)) × AH) :=
  if a2 ≤ s0.2 then
  some (.inr s0.1, g)
  else
  cb (loopX (x9_countTwice_l17 a0 a1 a2 s0.1 s0.2) 1000 (0, 0) g) fun t2 g3 =>
  if t2 ≤ 1 then
  x9_countTwice_j69_5 a0 a1 a2 s0.2 0 s0.1 g3
  else
  x9_countTwice_j69_5 a0 a1 a2 s0.2 1 s0.1 g3
def x9_countTwice (p : Nat) (b0 : Int32) (b1 : Int32) (g : AH) : Option (Int32 × AH) :=
  cb (loopX (x9_countTwice_l5 p b0 b1) 1000 (0, 0) g) fun t1 g2 =>
  some (t1, g2)
def x9_auditDifference (p : Nat) (g : AH) : Option (Int32 × AH) :=
  gb (putV 9 g p 6 (.int 0)) fun g1 => gb (getR 9 g1 p 0) fun x3 => gb (aldI 0 g1 x3 7) fun x5 => gb (getR 9 g1 p 0) fun x7 => gb (aldI 0 g1 x7 6) fun x9 => gb (isO 9 g1 p) fun _ => cb (x9_sumOf p 2 g1) fun r11 g12 => gb (getR 9 g12 p 0) fun x16 => gb (aldI 0 g12 x16 8) fun x18 => gb (getR 9 g12 p 0) fun x20 => gb (aldI 0 g12 x20 0) fun x22 => gb (getR 9 g12 p 0) fun x24 => gb (aldI 0 g12 x24 4) fun x26 => gb (getR 9 g12 p 0) fun x28 => gb (aldI 0 g12 x28 10) fun x30 => gb (isO 9 g12 p) fun _ => cb (x9_countTwice p 5 x30 g12) fun r32 g33 => gb (getR 9 g33 p 0) fun x37 => gb (aldI 0 g33 x37 9) fun x39 => gb (isO 9 g33 p) fun _ => cb (x9_countTwice p 4 x39 g33) fun r41 g42 => some (((((if (0:Int32) ≤ ((x5 - x9) - r11) then ((x5 - x9) - r11) else 0 - ((x5 - x9) - r11)) + (if (0:Int32) ≤ ((x18 - x22) - x26) then ((x18 - x22) - x26) else 0 - ((x18 - x22) - x26))) + r32) + r41), g42)
def x9_meanWarmth_l9 (a0 : Nat) (s0 : Int32 × Int32) (g : AH) : Option (((Int32 × Int32) ⊕ (Int32)) × AH) :=
  gb (getR 9 g a0 0) fun x1 => gb (aldI 0 g x1 12) fun x3 => if x3 ≤ s0.2 then
  some (.inr s0.1, g)
  else
  gb (isO 9 g a0) fun _ => cb (x9_warmthNow a0 s0.2 g) fun r6 g7 => some (.inl ((s0.1 + r6), (s0.2 + 1)), g7)
def x9_meanWarmth (p : Nat) (g : AH) : Option (UInt64 × AH) :=
  gb (putV 9 g p 6 (.int 0)) fun g1 => cb (loopX (x9_meanWarmth_l9 p) 1000 (0, 0) g1) fun t3 g4 =>
  gb (getR 9 g4 p 0) fun x6 => gb (aldI 0 g4 x6 12) fun x8 => if n64 (FP.ddiv (FP.i2d t3) (FP.i2d x8)) then some ((FP.ddiv (FP.i2d t3) (FP.i2d x8)), g4) else none
def x9_sleepShare (p : Nat) (g : AH) : Option (UInt32 × AH) :=
  gb (putV 9 g p 6 (.int 0)) fun g1 => gb (getR 9 g1 p 0) fun x3 => gb (aldI 0 g1 x3 3) fun x5 => gb (getR 9 g1 p 0) fun x7 => gb (aldI 0 g1 x7 12) fun x9 => if (x5 * x9) = 0 then
  some (FP.fconst0, g1)
  else
  gb (isO 9 g1 p) fun _ => cb (x9_sumOf p 8 g1) fun r12 g13 => if n32 (FP.fdiv (FP.i2f r12) (FP.i2f (x5 * x9))) then some ((FP.fdiv (FP.i2f r12) (FP.i2f (x5 * x9))), g13) else none
def x9_isAheadOfNow (b0 : Int32) (g : AH) : Option (Int32 × AH) :=
  cb (x9_isBetween b0 0 96 g) fun r1 g2 => if bz r1 then some (r1, g2) else none
def x9_insideBehind (p : Nat) (b0 : Int32) (g : AH) : Option (Int32 × AH) :=
  gb (isO 9 g p) fun _ => cb (x9_passMany p b0 g) fun r1 g2 => gb (isO 9 g2 p) fun _ => cb (x9_inside p g2) fun r6 g7 => some (r6, g7)
def x9_temperatureAfter (p : Nat) (b0 : Int32) (g : AH) : Option (Int32 × AH) :=
  gb (putV 9 g p 6 (.int 0)) fun g1 => cb (x9_isAheadOfNow b0 g1) fun r3 g4 => if r3 = 0 then
  gb (isO 9 g4 p) fun _ => cb (x9_fail p 1 g4) fun r22 g23 => some (r22, g23)
  else
  gb (isO 9 g4 p) fun _ => cb (x9_goAside p g4) fun r7 g8 => gb (isO 9 g8 p) fun _ => cb (x9_insideBehind p b0 g8) fun r12 g13 => gb (isO 9 g13 p) fun _ => cb (x9_comeBack p r12 g13) fun r17 g18 => some (r17, g18)
def x9_growth (p : Nat) (b0 : Int32) (b1 : Int32) (b2 : Int32) (g : AH) : Option (Int32 × AH) :=
  gb (isO 9 g p) fun _ => cb (x9_get p b0 b1 g) fun r1 g2 => gb (isO 9 g2 p) fun _ => cb (x9_passMany p b2 g2) fun r6 g7 => gb (isO 9 g7 p) fun _ => cb (x9_get p b0 b1 g7) fun r11 g12 => some ((r11 - r1), g12)
def x9_shiversUntilDawn (p : Nat) (b0 : Int32) (g : AH) : Option (Int32 × AH) :=
  gb (putV 9 g p 6 (.int 0)) fun g1 => gb (isO 9 g1 p) fun _ => cb (x9_isHiker p b0 g1) fun r3 g4 => if r3 = 0 then
  gb (isO 9 g4 p) fun _ => cb (x9_fail p 1 g4) fun r29 g30 => some (r29, g30)
  else
  gb (isO 9 g4 p) fun _ => cb (x9_goAside p g4) fun r9 g10 => gb (isO 9 g10 p) fun _ => cb (x9_toDawn p g10) fun r14 g15 => gb (isO 9 g15 p) fun _ => cb (x9_growth p b0 6 r14 g15) fun r19 g20 => gb (isO 9 g20 p) fun _ => cb (x9_comeBack p r19 g20) fun r24 g25 => some (r24, g25)
def x9_dueAtDawn (p : Nat) (b0 : Int32) (g : AH) : Option (Int32 × AH) :=
  gb (isO 9 g p) fun _ => cb (x9_toDawn p g) fun r1 g2 => gb (isO 9 g2 p) fun _ => cb (x9_passMany p r1 g2) fun r6 g7 => gb (getR 9 g7 p 7) fun x11 => gb (aldI 0 g7 x11 b0) fun x13 => some (x13, g7)
def x9_paymentAtDawn (p : Nat) (b0 : Int32) (g : AH) : Option (Int32 × AH) :=
  gb (putV 9 g p 6 (.int 0)) fun g1 => gb (isO 9 g1 p) fun _ => cb (x9_isHiker p b0 g1) fun r3 g4 => if r3 = 0 then
  gb (isO 9 g4 p) fun _ => cb (x9_fail p 1 g4) fun r24 g25 => some (r24, g25)
  else
  gb (isO 9 g4 p) fun _ => cb (x9_goAside p g4) fun r9 g10 => gb (isO 9 g10 p) fun _ => cb (x9_dueAtDawn p b0 g10) fun r14 g15 => gb (isO 9 g15 p) fun _ => cb (x9_comeBack p r14 g15) fun r19 g20 => some (r19, g20)
def x9_debtBehind (p : Nat) (b0 : Int32) (b1 : Int32) (g : AH) : Option (Int32 × AH) :=
  gb (isO 9 g p) fun _ => cb (x9_passMany p b1 g) fun r1 g2 => gb (isO 9 g2 p) fun _ => cb (x9_get p b0 3 g2) fun r6 g7 => some (r6, g7)
def x9_debtAfter_j25 (a0 : Nat) (a1 : Int32) (a2 : Int32) (s0 : Int32) (s1 : Nat) (g : AH) : Option (Int32 × AH) :=
  gb (putV 9 g s1 6 (.int s0)) fun g1 => gb (getI 9 g1 a0 6) fun x3 => if x3 ≤ 0 then
  gb (isO 9 g1 a0) fun _ => cb (x9_goAside a0 g1) fun r6 g7 => gb (isO 9 g7 a0) fun _ => cb (x9_debtBehind a0 a1 a2 g7) fun r11 g12 => gb (isO 9 g12 a0) fun _ => cb (x9_comeBack a0 r11 g12) fun r16 g17 => some (r16, g17)
  else
  some (0, g1)
def x9_debtAfter (p : Nat) (b0 : Int32) (b1 : Int32) (g : AH) : Option (Int32 × AH) :=
  gb (isO 9 g p) fun _ => cb (x9_isHiker p b0 g) fun r1 g2 => if r1 = 0 then
  x9_debtAfter_j25 p b0 b1 1 p g2
  else
  cb (x9_isAheadOfNow b1 g2) fun r7 g8 => if r7 = 0 then
  x9_debtAfter_j25 p b0 b1 2 p g8
  else
  x9_debtAfter_j25 p b0 b1 0 p g8
def x9_dawnsToDebt_l2 (a0 : Nat) (a1 : Int32) (s0 : Int32) (g : AH) : Option (((Int32) ⊕ ((Unit) ⊕ Int32)) × AH) :=
  if 12 < s0 then
  some (.inr (.inl ()), g)
  else
  gb (isO 9 g a0) fun _ => cb (x9_get a0 a1 3 g) fun r2 g3 => if r2 ≤ 0 then
  gb (isO 9 g3 a0) fun _ => cb (x9_toDawn a0 g3) fun r8 g9 => gb (isO 9 g9 a0) fun _ => cb (x9_passMany a0 r8 g9) fun r13 g14 => some (.inl (s0 + 1), g14)
  else
  some (.inr (.inr s0), g3)
def x9_dawnsToDebt (p : Nat) (b0 : Int32) (g : AH) : Option (Int32 × AH) :=
  cb (loopX (x9_dawnsToDebt_l2 p b0) 1000 0 g) fun t1 g2 => Sum.elim (fun t4 =>
  some ((-1), g2)) (fun t5 => some (t5, g2)) t1
def x9_dawnsUntilDebt (p : Nat) (b0 : Int32) (g : AH) : Option (Int32 × AH) :=
  gb (putV 9 g p 6 (.int 0)) fun g1 => gb (isO 9 g1 p) fun _ => cb (x9_isHiker p b0 g1) fun r3 g4 => if r3 = 0 then
  gb (isO 9 g4 p) fun _ => cb (x9_fail p 1 g4) fun r24 g25 => some (r24, g25)
  else
  gb (isO 9 g4 p) fun _ => cb (x9_goAside p g4) fun r9 g10 => gb (isO 9 g10 p) fun _ => cb (x9_dawnsToDebt p b0 g10) fun r14 g15 => gb (isO 9 g15 p) fun _ => cb (x9_comeBack p r14 g15) fun r19 g20 => some (r19, g20)
def x9_hoursToNoLogs_l2 (a0 : Nat) (s0 : Int32) (g : AH) : Option (((Int32) ⊕ ((Unit) ⊕ Int32)) × AH) :=
  if 96 < s0 then
  some (.inr (.inl ()), g)
  else
  gb (getR 9 g a0 0) fun x2 => gb (aldI 0 g x2 0) fun x4 => if x4 = 0 then
  some (.inr (.inr s0), g)
  else
  gb (isO 9 g a0) fun _ => cb (x9_passHour a0 g) fun r7 g8 => some (.inl (s0 + 1), g8)
def x9_hoursToNoLogs (p : Nat) (g : AH) : Option (Int32 × AH) :=
  cb (loopX (x9_hoursToNoLogs_l2 p) 1000 0 g) fun t1 g2 => Sum.elim (fun t4 =>
  some ((-1), g2)) (fun t5 => some (t5, g2)) t1
def x9_hoursUntilNoLogs (p : Nat) (g : AH) : Option (Int32 × AH) :=
  gb (putV 9 g p 6 (.int 0)) fun g1 => gb (isO 9 g1 p) fun _ => cb (x9_goAside p g1) fun r3 g4 => gb (isO 9 g4 p) fun _ => cb (x9_hoursToNoLogs p g4) fun r8 g9 => gb (isO 9 g9 p) fun _ => cb (x9_comeBack p r8 g9) fun r13 g14 => some (r13, g14)
def x9_hoursWith (p : Nat) (b0 : Int32) (b1 : Int32) (g : AH) : Option (Int32 × AH) :=
  gb (getR 9 g p 0) fun x1 => gb (astI 0 g x1 1 b0) fun g3 => gb (isO 9 g3 p) fun _ => cb (x9_sumOf p (6 + b1) g3) fun r5 g6 => gb (isO 9 g6 p) fun _ => cb (x9_toDawn p g6) fun r10 g11 => gb (isO 9 g11 p) fun _ => cb (x9_passMany p r10 g11) fun r15 g16 => gb (isO 9 g16 p) fun _ => cb (x9_sumOf p (6 + b1) g16) fun r20 g21 => some ((r20 - r5), g21)
def x9_rateNeeded_l7 (a0 : Nat) (s0 : Int32) (g : AH) : Option (((Int32) ⊕ ((Unit) ⊕ Int32)) × AH) :=
  if 3 < s0 then
  some (.inr (.inl ()), g)
  else
  gb (isO 9 g a0) fun _ => cb (x9_goAside a0 g) fun r2 g3 => gb (isO 9 g3 a0) fun _ => cb (x9_hoursWith a0 s0 0 g3) fun r7 g8 => gb (isO 9 g8 a0) fun _ => cb (x9_comeBack a0 r7 g8) fun r12 g13 => if r12 = 0 then
  some (.inr (.inr s0), g13)
  else
  some (.inl (s0 + 1), g13)
def x9_rateNeeded (p : Nat) (g : AH) : Option (Int32 × AH) :=
  gb (putV 9 g p 6 (.int 0)) fun g1 => cb (loopX (x9_rateNeeded_l7 p) 1000 0 g1) fun t3 g4 => Sum.elim (fun t6 =>
  some ((-1), g4)) (fun t7 => some (t7, g4)) t3
def x9_bestRate_j43_11 (a0 : Nat) (a2 : Int32) (a3 : Int32) (a4 : Int32) (s0 : Int32) (g : AH) : Option (((Int32 × Int32 × Int32) ⊕ (Int32)) × AH) :=
  some (.inl (s0, (if a2 < a4 then a4 else a2), (a3 + 1)), g)
def x9_bestRate_l11 (a0 : Nat) (s0 : Int32 × Int32 × Int32) (g : AH) : Option (((Int32 × Int32 × Int32) ⊕ (Int32)) × AH) :=
  if 3 < s0.2.2 then
  some (.inr s0.1, g)
  else
  gb (isO 9 g a0) fun _ => cb (x9_goAside a0 g) fun r2 g3 => gb (isO 9 g3 a0) fun _ => cb (x9_hoursWith a0 s0.2.2 2 g3) fun r7 g8 => gb (isO 9 g8 a0) fun _ => cb (x9_comeBack a0 r7 g8) fun r12 g13 => if r12 ≤ s0.2.1 then
  x9_bestRate_j43_11 a0 s0.2.1 s0.2.2 r12 s0.1 g13
  else
  x9_bestRate_j43_11 a0 s0.2.1 s0.2.2 r12 s0.2.2 g13
def x9_bestRate (p : Nat) (g : AH) : Option (Int32 × AH) :=
  gb (putV 9 g p 6 (.int 0)) fun g1 => cb (loopX (x9_bestRate_l11 p) 1000 (0, (-1), 0) g1) fun t3 g4 =>
  some (t3, g4)
def x9_writeByte (p : Nat) (b0 : Int32) (g : AH) : Option (Unit × AH) :=
  gb (getR 9 g p 19) fun x1 => gb (getI 9 g p 20) fun x3 => gb (astI 1 g x1 x3 ((b0.toInt8.toInt32).toInt8.toInt32)) fun g5 => gb (getI 9 g5 p 20) fun x7 => gb (putV 9 g5 p 20 (.int (x7 + 1))) fun g9 => some ((), g9)
def x9_writeNumber_j14 (a0 : Nat) (a1 : Int32) (g : AH) : Option (Unit × AH) :=
  gb (isO 9 g a0) fun _ => cb (x9_writeByte a0 (48 + (a1 - a1 / 10 * 10)) g) fun r2 g3 => some ((), g3)
def x9_writeNumber : Nat → Nat → Int32 → AH → Option (Unit × AH)
  | 0, _, _, _ => none
  | n9 + 1, p, b0, g => if b0 ≤ 9 then
  x9_writeNumber_j14 p b0 g
  else
  gb (isO 9 g p) fun _ => cb (x9_writeNumber n9 p (b0 / 10) g) fun r3 g4 => x9_writeNumber_j14 p b0 g4
def x9_writeHiker_j57 (s0 : Int32) (s1 : Nat) (g : AH) : Option (Unit × AH) :=
  gb (isO 9 g s1) fun _ => cb (x9_writeByte s1 s0 g) fun r1 g2 => some ((), g2)
def x9_writeHiker_j45 (a0 : Nat) (a2 : Int32) (g : AH) : Option (Unit × AH) :=
  if a2 = 0 then
  x9_writeHiker_j57 33 a0 g
  else
  x9_writeHiker_j57 63 a0 g
def x9_writeHiker_j30 (a0 : Nat) (a1 : Int32) (g : AH) : Option (Unit × AH) :=
  gb (isO 9 g a0) fun _ => cb (x9_deed a0 a1 g) fun r1 g2 => if r1 = 0 then
  x9_writeHiker_j45 a0 r1 g2
  else
  if r1 = 1 then
  x9_writeHiker_j45 a0 r1 g2
  else
  some ((), g2)
def x9_writeHiker (p : Nat) (b0 : Int32) (g : AH) : Option (Unit × AH) :=
  gb (isO 9 g p) fun _ => cb (x9_writeByte p (97 + b0) g) fun r1 g2 => gb (isO 9 g2 p) fun _ => cb (x9_get p b0 5 g2) fun r6 g7 => if r6 = (-1) then
  x9_writeHiker_j30 p b0 g7
  else
  gb (isO 9 g7 p) fun _ => cb (x9_thicknessFor p b0 g7) fun r12 g13 => gb (isO 9 g13 p) fun _ => cb (x9_writeByte p (48 + r12) g13) fun r17 g18 => x9_writeHiker_j30 p b0 g18
def x9_writeBunks_j60_12 (a0 : Nat) (a1 : Int32) (g : AH) : Option (((Int32) ⊕ (Unit)) × AH) :=
  some (.inl (a1 + 1), g)
def x9_writeBunks_j33_12 (a0 : Nat) (a1 : Int32) (g : AH) : Option (((Int32) ⊕ (Unit)) × AH) :=
  gb (isO 9 g a0) fun _ => cb (x9_inBunk a0 a1 g) fun r1 g2 => if r1 = (-1) then
  gb (isO 9 g2 a0) fun _ => cb (x9_writeByte a0 45 g2) fun r17 g18 => x9_writeBunks_j60_12 a0 a1 g18
  else
  gb (isO 9 g2 a0) fun _ => cb (x9_inBunk a0 a1 g2) fun r7 g8 => gb (isO 9 g8 a0) fun _ => cb (x9_writeHiker a0 r7 g8) fun r12 g13 => x9_writeBunks_j60_12 a0 a1 g13
def x9_writeBunks_l12 (a0 : Nat) (s0 : Int32) (g : AH) : Option (((Int32) ⊕ (Unit)) × AH) :=
  gb (getR 9 g a0 0) fun x1 => gb (aldI 0 g x1 9) fun x3 => if x3 ≤ s0 then
  some (.inr (), g)
  else
  if s0 ≤ 0 then
  x9_writeBunks_j33_12 a0 s0 g
  else
  gb (isO 9 g a0) fun _ => cb (x9_writeByte a0 32 g) fun r7 g8 => x9_writeBunks_j33_12 a0 s0 g8
def x9_writeBunks (p : Nat) (g : AH) : Option (Int32 × AH) :=
  gb (putV 9 g p 6 (.int 0)) fun g1 => gb (putV 9 g1 p 20 (.int 0)) fun g3 => cb (loopX (x9_writeBunks_l12 p) 1000 0 g3) fun t5 g6 =>
  gb (getI 9 g6 p 20) fun x8 => some (x8, g6)
def x9_writeAccount_j49 (a0 : Nat) (a1 : Int32) (g : AH) : Option (Unit × AH) :=
  gb (isO 9 g a0) fun _ => cb (x9_writeByte a0 47 g) fun r1 g2 => gb (isO 9 g2 a0) fun _ => cb (x9_get a0 a1 8 g2) fun r6 g7 => gb (isO 9 g7 a0) fun _ => cb (x9_writeNumber 12 a0 r6 g7) fun r11 g12 => some ((), g12)
def x9_writeAccount (p : Nat) (b0 : Int32) (g : AH) : Option (Unit × AH) :=
  gb (isO 9 g p) fun _ => cb (x9_writeByte p (97 + b0) g) fun r1 g2 => gb (isO 9 g2 p) fun _ => cb (x9_writeByte p 61 g2) fun r6 g7 => gb (isO 9 g7 p) fun _ => cb (x9_get p b0 2 g7) fun r11 g12 => gb (isO 9 g12 p) fun _ => cb (x9_writeNumber 12 p r11 g12) fun r16 g17 => gb (isO 9 g17 p) fun _ => cb (x9_get p b0 3 g17) fun r21 g22 => if r21 ≤ 0 then
  x9_writeAccount_j49 p b0 g22
  else
  gb (isO 9 g22 p) fun _ => cb (x9_writeByte p 45 g22) fun r27 g28 => gb (isO 9 g28 p) fun _ => cb (x9_get p b0 3 g28) fun r32 g33 => gb (isO 9 g33 p) fun _ => cb (x9_writeNumber 12 p r32 g33) fun r37 g38 => x9_writeAccount_j49 p b0 g38
def x9_writeLedger_j33_12 (a0 : Nat) (a1 : Int32) (g : AH) : Option (((Int32) ⊕ (Unit)) × AH) :=
  gb (isO 9 g a0) fun _ => cb (x9_writeAccount a0 a1 g) fun r1 g2 => some (.inl (a1 + 1), g2)
def x9_writeLedger_l12 (a0 : Nat) (s0 : Int32) (g : AH) : Option (((Int32) ⊕ (Unit)) × AH) :=
  gb (getR 9 g a0 0) fun x1 => gb (aldI 0 g x1 12) fun x3 => if x3 ≤ s0 then
  some (.inr (), g)
  else
  if s0 ≤ 0 then
  x9_writeLedger_j33_12 a0 s0 g
  else
  gb (isO 9 g a0) fun _ => cb (x9_writeByte a0 32 g) fun r7 g8 => x9_writeLedger_j33_12 a0 s0 g8
def x9_writeLedger (p : Nat) (g : AH) : Option (Int32 × AH) :=
  gb (putV 9 g p 6 (.int 0)) fun g1 => gb (putV 9 g1 p 20 (.int 0)) fun g3 => cb (loopX (x9_writeLedger_l12 p) 1000 0 g3) fun t5 g6 =>
  gb (getI 9 g6 p 20) fun x8 => some (x8, g6)
def x9_outputByte (p : Nat) (b0 : Int32) (g : AH) : Option (Int32 × AH) :=
  gb (putV 9 g p 6 (.int 0)) fun g1 => gb (getI 9 g1 p 20) fun x3 => cb (x9_isBetween b0 0 (x3 - 1) g1) fun r5 g6 => if r5 = 0 then
  some ((-1), g6)
  else
  gb (getR 9 g6 p 19) fun x9 => gb (aldI 1 g6 x9 b0) fun x11 => some ((x11 &&& 255), g6)
def x9_undo (p : Nat) (g : AH) : Option (Int32 × AH) :=
  gb (putV 9 g p 6 (.int 0)) fun g1 => gb (getI 9 g1 p 5) fun x3 => if x3 = 0 then
  gb (isO 9 g1 p) fun _ => cb (x9_fail p 1 g1) fun r21 g22 => some (r21, g22)
  else
  gb (getI 9 g1 p 5) fun x6 => gb (putV 9 g1 p 5 (.int (x6 - 1))) fun g8 => gb (getR 9 g8 p 2) fun x10 => gb (getI 9 g8 p 5) fun x12 => gb (getR 9 g8 p 0) fun x14 => cb (x9_copy x10 (149 * x12) x14 0 g8) fun r16 g17 => gb (getI 9 g17 p 5) fun x19 => some (x19, g17)
def x9_saveSnapshot_j15 (a0 : Nat) (a1 : Int32) (s0 : Int32) (s1 : Nat) (g : AH) : Option (Unit × AH) :=
  gb (putV 9 g s1 6 (.int s0)) fun g1 => gb (getI 9 g1 a0 6) fun x3 => if x3 = 0 then
  gb (getR 9 g1 a0 0) fun x6 => gb (getR 9 g1 a0 3) fun x8 => cb (x9_copy x6 0 x8 (149 * a1) g1) fun r10 g11 => gb (getR 9 g11 a0 4) fun x13 => gb (astI 2 g11 x13 a1 1) fun g15 => some ((), g15)
  else
  some ((), g1)
def x9_saveSnapshot (p : Nat) (b0 : Int32) (g : AH) : Option (Unit × AH) :=
  cb (x9_isBetween b0 0 1 g) fun r1 g2 => if r1 = 0 then
  x9_saveSnapshot_j15 p b0 1 p g2
  else
  x9_saveSnapshot_j15 p b0 0 p g2
def x9_restoreSnapshot_j28 (a0 : Nat) (a1 : Int32) (s0 : Int32) (s1 : Nat) (g : AH) : Option (Unit × AH) :=
  gb (putV 9 g s1 6 (.int s0)) fun g1 => gb (getI 9 g1 a0 6) fun x3 => if x3 = 0 then
  gb (getR 9 g1 a0 3) fun x6 => gb (getR 9 g1 a0 0) fun x8 => cb (x9_copy x6 (149 * a1) x8 0 g1) fun r10 g11 => gb (putV 9 g11 a0 5 (.int 0)) fun g13 => some ((), g13)
  else
  some ((), g1)
def x9_restoreSnapshot (p : Nat) (b0 : Int32) (g : AH) : Option (Unit × AH) :=
  cb (x9_isBetween b0 0 1 g) fun r1 g2 => if r1 = 0 then
  x9_restoreSnapshot_j28 p b0 1 p g2
  else
  gb (getR 9 g2 p 4) fun x5 => gb (aldI 2 g2 x5 b0) fun x7 => if x7 = 0 then
  x9_restoreSnapshot_j28 p b0 2 p g2
  else
  x9_restoreSnapshot_j28 p b0 0 p g2
set_option maxHeartbeats 4000000 in
set_option maxRecDepth 100000 in
theorem t_x9_activity_b {l : Launch} {G : GG} {M : MC} (X : CX M G cX9_activity 2 RX9 ⟨10, 0, 0, 255⟩) (hl0 : M.2.1 = l) (hr : (mM M).sig.returnType = (some .int)) (hnm : (mM M).name = yX9_activity.name) {p : Nat} {b0 : Int32} {g : AH} {r : Int32} {g1 : AH} (E : x9_activity p b0 g = some (r, g1)) : WW M G 2 (RQ M G (some (.int r)) g1 0 0) 0 0 g 0 [(0, .ref p), (1, .int b0)] [] := by
  unfold x9_activity at E
  refine r_aload_n X 0 dX9_activity_0 rfl rfl ?_
  refine r_iconst X (v := 0) dX9_activity_1 (by decide) ?_
  obtain ⟨g1, e2, E⟩ := gb_some E
  refine r_put X dX9_activity_2 f_X9_57 rfl rfl e2 ?_
  refine r_aload_n X 0 dX9_activity_5 rfl rfl ?_
  refine r_iload_n X 1 dX9_activity_6 rfl rfl ?_
  obtain ⟨u6, e7, E⟩ := gb_some E
  obtain ⟨r3, g4, e5, E⟩ := cb_some E
  refine r_callV0 X hl0 (ci := 9) dX9_activity_7 y_X9_isHiker m_X9_324 rfl rfl e7 (t_x9_isHiker (l := l) (G := G) e5) rfl rfl (Nat.le_of_ble_eq_true rfl) (by decide) ?_
  refine r_if_eq X 21 dX9_activity_10 (by decide) (fun c8 => ?_) (fun c8 => ?_)
  · rw [if_pos c8] at E
    refine r_aload_n X 0 dX9_activity_21 rfl rfl ?_
    refine r_iconst X (v := 1) dX9_activity_22 (by decide) ?_
    obtain ⟨u12, e13, E⟩ := gb_some E
    obtain ⟨r9, g10, e11, E⟩ := cb_some E
    refine r_callV0 X hl0 (ci := 9) dX9_activity_23 y_X9_fail m_X9_141 rfl rfl e13 (t_x9_fail (l := l) (G := G) e11) rfl rfl (Nat.le_of_ble_eq_true rfl) (by decide) ?_
    cases E
    exact r_iret X hr dX9_activity_26 (by decide) (by decide)
  · rw [if_neg c8] at E
    refine r_aload_n X 0 dX9_activity_13 rfl rfl ?_
    refine r_iload_n X 1 dX9_activity_14 rfl rfl ?_
    obtain ⟨u17, e18, E⟩ := gb_some E
    obtain ⟨r14, g15, e16, E⟩ := cb_some E
    refine r_callV0 X hl0 (ci := 9) dX9_activity_15 y_X9_deed m_X9_105 rfl rfl e18 (t_x9_deed (l := l) (G := G) e16) rfl rfl (Nat.le_of_ble_eq_true rfl) (by decide) ?_
    refine r_goto X 26 dX9_activity_18 (by decide) ?_
    cases E
    exact r_iret X hr dX9_activity_26 (by decide) (by decide)
theorem t_x9_activity {l : Launch} {G : GG} {p : Nat} {b0 : Int32} {g : AH} {r : Int32} {g1 : AH} (E : x9_activity p b0 g = some (r, g1)) : Ct l G yX9_activity cX9_activity 2 (some .int) ⟨10, 0, 0, 255⟩ [.ref p, .int b0] g (some (.int r)) g1 :=
  ct_of (L0 := [(0, .ref p), (1, .int b0)]) y_X9_activity rfl (Nat.le_of_ble_eq_true rfl) fun M hl0 X hr hnm => t_x9_activity_b X hl0 hr hnm E
set_option maxHeartbeats 4000000 in
set_option maxRecDepth 100000 in
theorem t_x9_hoursOf_j27 {l : Launch} {G : GG} {M : MC} (X : CX M G cX9_hoursOf 3 RX9 ⟨3, 0, 0, 103⟩) (hl0 : M.2.1 = l) (hr : (mM M).sig.returnType = (some .int)) (hnm : (mM M).name = yX9_hoursOf.name) {a0 : Nat} {a1 : Int32} {a2 : Int32} {s0 : Int32} {s1 : Nat} {g : AH} {r : Int32} {g1 : AH} (E : x9_hoursOf_j27 a0 a1 a2 s0 s1 g = some (r, g1)) : WW M G 3 (RQ M G (some (.int r)) g1 0 0) 0 0 g 27 [(0, .ref a0), (1, .int a1), (2, .int a2)] [.int s0, .ref s1] := by
  unfold x9_hoursOf_j27 at E
  obtain ⟨g1, e2, E⟩ := gb_some E
  refine r_put X dX9_hoursOf_27 f_X9_57 rfl rfl e2 ?_
  refine r_aload_n X 0 dX9_hoursOf_30 rfl rfl ?_
  obtain ⟨x3, e4, E⟩ := gb_some E
  refine r_getI X dX9_hoursOf_31 f_X9_57 e4 ?_
  refine r_if_le X 41 dX9_hoursOf_34 (by decide) (fun c5 => ?_) (fun c5 => ?_)
  · rw [if_pos c5] at E
    refine r_aload_n X 0 dX9_hoursOf_41 rfl rfl ?_
    refine r_iload_n X 1 dX9_hoursOf_42 rfl rfl ?_
    refine r_bipush X (v := 6) dX9_hoursOf_43 (by decide) ?_
    refine r_iload_n X 2 dX9_hoursOf_45 rfl rfl ?_
    refine r_iadd X dX9_hoursOf_46 ?_
    obtain ⟨u9, e10, E⟩ := gb_some E
    obtain ⟨r6, g7, e8, E⟩ := cb_some E
    refine r_callV0 X hl0 (ci := 9) dX9_hoursOf_47 y_X9_get m_X9_64 rfl rfl e10 (t_x9_get (l := l) (G := G) e8) rfl rfl (Nat.le_of_ble_eq_true rfl) (by decide) ?_
    cases E
    exact r_iret X hr dX9_hoursOf_50 (by decide) (by decide)
  · rw [if_neg c5] at E
    refine r_iconst X (v := 0) dX9_hoursOf_37 (by decide) ?_
    refine r_goto X 50 dX9_hoursOf_38 (by decide) ?_
    cases E
    exact r_iret X hr dX9_hoursOf_50 (by decide) (by decide)
set_option maxHeartbeats 4000000 in
set_option maxRecDepth 100000 in
theorem t_x9_hoursOf_b {l : Launch} {G : GG} {M : MC} (X : CX M G cX9_hoursOf 3 RX9 ⟨3, 0, 0, 103⟩) (hl0 : M.2.1 = l) (hr : (mM M).sig.returnType = (some .int)) (hnm : (mM M).name = yX9_hoursOf.name) {p : Nat} {b0 : Int32} {b1 : Int32} {g : AH} {r : Int32} {g1 : AH} (E : x9_hoursOf p b0 b1 g = some (r, g1)) : WW M G 3 (RQ M G (some (.int r)) g1 0 0) 0 0 g 0 [(0, .ref p), (1, .int b0), (2, .int b1)] [] := by
  unfold x9_hoursOf at E
  refine r_aload_n X 0 dX9_hoursOf_0 rfl rfl ?_
  refine r_aload_n X 0 dX9_hoursOf_1 rfl rfl ?_
  refine r_iload_n X 1 dX9_hoursOf_2 rfl rfl ?_
  obtain ⟨u4, e5, E⟩ := gb_some E
  obtain ⟨r1, g2, e3, E⟩ := cb_some E
  refine r_callV0 X hl0 (ci := 9) dX9_hoursOf_3 y_X9_isHiker m_X9_324 rfl rfl e5 (t_x9_isHiker (l := l) (G := G) e3) rfl rfl (Nat.le_of_ble_eq_true rfl) (by decide) ?_
  refine r_if_ne X 13 dX9_hoursOf_6 (by decide) (fun c6 => ?_) (fun c6 => ?_)
  · rw [if_neg c6] at E
    refine r_iload_n X 2 dX9_hoursOf_13 rfl rfl ?_
    refine r_iconst X (v := 0) dX9_hoursOf_14 (by decide) ?_
    refine r_iconst X (v := 3) dX9_hoursOf_15 (by decide) ?_
    obtain ⟨r7, g8, e9, E⟩ := cb_some E
    refine r_callS0 X hl0 dX9_hoursOf_16 y_X9_isBetween m_X9_68 (t_x9_isBetween (l := l) (G := G) e9) rfl rfl (Nat.le_of_ble_eq_true rfl) (by decide) ?_
    refine r_if_eq X 26 dX9_hoursOf_19 (by decide) (fun c10 => ?_) (fun c10 => ?_)
    · rw [if_pos c10] at E
      refine r_iconst X (v := 2) dX9_hoursOf_26 (by decide) ?_
      exact r_pick (by rfl : lpick [(0, .ref p), (1, .int b0), (2, .int b1)] [0, 1, 2] = _) (t_x9_hoursOf_j27 X hl0 hr hnm E)
    · rw [if_neg c10] at E
      refine r_iconst X (v := 0) dX9_hoursOf_22 (by decide) ?_
      refine r_goto X 27 dX9_hoursOf_23 (by decide) ?_
      exact r_pick (by rfl : lpick [(0, .ref p), (1, .int b0), (2, .int b1)] [0, 1, 2] = _) (t_x9_hoursOf_j27 X hl0 hr hnm E)
  · rw [if_pos c6] at E
    refine r_iconst X (v := 1) dX9_hoursOf_9 (by decide) ?_
    refine r_goto X 27 dX9_hoursOf_10 (by decide) ?_
    exact r_pick (by rfl : lpick [(0, .ref p), (1, .int b0), (2, .int b1)] [0, 1, 2] = _) (t_x9_hoursOf_j27 X hl0 hr hnm E)
theorem t_x9_hoursOf {l : Launch} {G : GG} {p : Nat} {b0 : Int32} {b1 : Int32} {g : AH} {r : Int32} {g1 : AH} (E : x9_hoursOf p b0 b1 g = some (r, g1)) : Ct l G yX9_hoursOf cX9_hoursOf 3 (some .int) ⟨3, 0, 0, 103⟩ [.ref p, .int b0, .int b1] g (some (.int r)) g1 :=
  ct_of (L0 := [(0, .ref p), (1, .int b0), (2, .int b1)]) y_X9_hoursOf rfl (Nat.le_of_ble_eq_true rfl) fun M hl0 X hr hnm => t_x9_hoursOf_b X hl0 hr hnm E
set_option maxHeartbeats 4000000 in
set_option maxRecDepth 100000 in
theorem t_x9_coinsOf_b {l : Launch} {G : GG} {M : MC} (X : CX M G cX9_coinsOf 2 RX9 ⟨4, 0, 0, 125⟩) (hl0 : M.2.1 = l) (hr : (mM M).sig.returnType = (some .int)) (hnm : (mM M).name = yX9_coinsOf.name) {p : Nat} {b0 : Int32} {g : AH} {r : Int32} {g1 : AH} (E : x9_coinsOf p b0 g = some (r, g1)) : WW M G 2 (RQ M G (some (.int r)) g1 0 0) 0 0 g 0 [(0, .ref p), (1, .int b0)] [] := by
  unfold x9_coinsOf at E
  refine r_aload_n X 0 dX9_coinsOf_0 rfl rfl ?_
  refine r_iload_n X 1 dX9_coinsOf_1 rfl rfl ?_
  refine r_iconst X (v := 2) dX9_coinsOf_2 (by decide) ?_
  obtain ⟨u4, e5, E⟩ := gb_some E
  obtain ⟨r1, g2, e3, E⟩ := cb_some E
  refine r_callV0 X hl0 (ci := 9) dX9_coinsOf_3 y_X9_tellOf m_X9_345 rfl rfl e5 (t_x9_tellOf (l := l) (G := G) e3) rfl rfl (Nat.le_of_ble_eq_true rfl) (by decide) ?_
  cases E
  exact r_iret X hr dX9_coinsOf_6 (by decide) (by decide)
theorem t_x9_coinsOf {l : Launch} {G : GG} {p : Nat} {b0 : Int32} {g : AH} {r : Int32} {g1 : AH} (E : x9_coinsOf p b0 g = some (r, g1)) : Ct l G yX9_coinsOf cX9_coinsOf 2 (some .int) ⟨4, 0, 0, 125⟩ [.ref p, .int b0] g (some (.int r)) g1 :=
  ct_of (L0 := [(0, .ref p), (1, .int b0)]) y_X9_coinsOf rfl (Nat.le_of_ble_eq_true rfl) fun M hl0 X hr hnm => t_x9_coinsOf_b X hl0 hr hnm E
set_option maxHeartbeats 4000000 in
set_option maxRecDepth 100000 in
theorem t_x9_debtOf_b {l : Launch} {G : GG} {M : MC} (X : CX M G cX9_debtOf 2 RX9 ⟨4, 0, 0, 125⟩) (hl0 : M.2.1 = l) (hr : (mM M).sig.returnType = (some .int)) (hnm : (mM M).name = yX9_debtOf.name) {p : Nat} {b0 : Int32} {g : AH} {r : Int32} {g1 : AH} (E : x9_debtOf p b0 g = some (r, g1)) : WW M G 2 (RQ M G (some (.int r)) g1 0 0) 0 0 g 0 [(0, .ref p), (1, .int b0)] [] := by
  unfold x9_debtOf at E
  refine r_aload_n X 0 dX9_debtOf_0 rfl rfl ?_
  refine r_iload_n X 1 dX9_debtOf_1 rfl rfl ?_
  refine r_iconst X (v := 3) dX9_debtOf_2 (by decide) ?_
  obtain ⟨u4, e5, E⟩ := gb_some E
  obtain ⟨r1, g2, e3, E⟩ := cb_some E
  refine r_callV0 X hl0 (ci := 9) dX9_debtOf_3 y_X9_tellOf m_X9_345 rfl rfl e5 (t_x9_tellOf (l := l) (G := G) e3) rfl rfl (Nat.le_of_ble_eq_true rfl) (by decide) ?_
  cases E
  exact r_iret X hr dX9_debtOf_6 (by decide) (by decide)
theorem t_x9_debtOf {l : Launch} {G : GG} {p : Nat} {b0 : Int32} {g : AH} {r : Int32} {g1 : AH} (E : x9_debtOf p b0 g = some (r, g1)) : Ct l G yX9_debtOf cX9_debtOf 2 (some .int) ⟨4, 0, 0, 125⟩ [.ref p, .int b0] g (some (.int r)) g1 :=
  ct_of (L0 := [(0, .ref p), (1, .int b0)]) y_X9_debtOf rfl (Nat.le_of_ble_eq_true rfl) fun M hl0 X hr hnm => t_x9_debtOf_b X hl0 hr hnm E
set_option maxHeartbeats 4000000 in
set_option maxRecDepth 100000 in
theorem t_x9_isAhead_j36 {l : Launch} {G : GG} {M : MC} (X : CX M G cX9_isAhead 4 RX9 ⟨2, 0, 0, 82⟩) (hl0 : M.2.1 = l) (hr : (mM M).sig.returnType = (some .boolean)) (hnm : (mM M).name = yX9_isAhead.name) {a1 : Int32} {a2 : Int32} {a3 : Int32} {g : AH} {r : Int32} {g1 : AH} (E : x9_isAhead_j36 a1 a2 a3 g = some (r, g1)) : WW M G 4 (RQ M G (some (.int r)) g1 0 0) 0 0 g 36 [(1, .int a1), (2, .int a2), (3, .int a3)] [] := by
  unfold x9_isAhead_j36 at E
  refine r_iload_n X 3 dX9_isAhead_36 rfl rfl ?_
  refine r_if_eq X 52 dX9_isAhead_37 (by decide) (fun c1 => ?_) (fun c1 => ?_)
  · rw [if_pos c1] at E
    refine r_iload_n X 1 dX9_isAhead_52 rfl rfl ?_
    refine r_iload_n X 2 dX9_isAhead_53 rfl rfl ?_
    refine r_icmp_ge X 61 dX9_isAhead_54 (by decide) (fun c2 => ?_) (fun c2 => ?_)
    · rw [if_pos c2] at E
      refine r_iconst X (v := 0) dX9_isAhead_61 (by decide) ?_
      cases E
      exact r_zret X hr (Or.inl rfl) dX9_isAhead_62 (by decide) (by decide)
    · rw [if_neg c2] at E
      refine r_iconst X (v := 1) dX9_isAhead_57 (by decide) ?_
      refine r_goto X 62 dX9_isAhead_58 (by decide) ?_
      cases E
      exact r_zret X hr (Or.inr rfl) dX9_isAhead_62 (by decide) (by decide)
  · rw [if_neg c1] at E
    refine r_iload_n X 3 dX9_isAhead_40 rfl rfl ?_
    refine r_if_le X 48 dX9_isAhead_41 (by decide) (fun c3 => ?_) (fun c3 => ?_)
    · rw [if_pos c3] at E
      refine r_iconst X (v := 0) dX9_isAhead_48 (by decide) ?_
      refine r_goto X 62 dX9_isAhead_49 (by decide) ?_
      cases E
      exact r_zret X hr (Or.inl rfl) dX9_isAhead_62 (by decide) (by decide)
    · rw [if_neg c3] at E
      refine r_iconst X (v := 1) dX9_isAhead_44 (by decide) ?_
      refine r_goto X 62 dX9_isAhead_45 (by decide) ?_
      cases E
      exact r_zret X hr (Or.inr rfl) dX9_isAhead_62 (by decide) (by decide)
set_option maxHeartbeats 4000000 in
set_option maxRecDepth 100000 in
theorem t_x9_isAhead_b {l : Launch} {G : GG} {M : MC} (X : CX M G cX9_isAhead 4 RX9 ⟨2, 0, 0, 82⟩) (hl0 : M.2.1 = l) (hr : (mM M).sig.returnType = (some .boolean)) (hnm : (mM M).name = yX9_isAhead.name) {p : Nat} {b0 : Int32} {b1 : Int32} {g : AH} {r : Int32} {g1 : AH} (E : x9_isAhead p b0 b1 g = some (r, g1)) : WW M G 4 (RQ M G (some (.int r)) g1 0 0) 0 0 g 0 [(0, .ref p), (1, .int b0), (2, .int b1)] [] := by
  unfold x9_isAhead at E
  refine r_aload_n X 0 dX9_isAhead_0 rfl rfl ?_
  refine r_iload_n X 1 dX9_isAhead_1 rfl rfl ?_
  refine r_bipush X (v := 8) dX9_isAhead_2 (by decide) ?_
  obtain ⟨u4, e5, E⟩ := gb_some E
  obtain ⟨r1, g2, e3, E⟩ := cb_some E
  refine r_callV0 X hl0 (ci := 9) dX9_isAhead_4 y_X9_get m_X9_64 rfl rfl e5 (t_x9_get (l := l) (G := G) e3) rfl rfl (Nat.le_of_ble_eq_true rfl) (by decide) ?_
  refine r_aload_n X 0 dX9_isAhead_7 rfl rfl ?_
  refine r_iload_n X 2 dX9_isAhead_8 rfl rfl ?_
  refine r_bipush X (v := 8) dX9_isAhead_9 (by decide) ?_
  obtain ⟨u9, e10, E⟩ := gb_some E
  obtain ⟨r6, g7, e8, E⟩ := cb_some E
  refine r_callV0 X hl0 (ci := 9) dX9_isAhead_11 y_X9_get m_X9_64 rfl rfl e10 (t_x9_get (l := l) (G := G) e8) rfl rfl (Nat.le_of_ble_eq_true rfl) (by decide) ?_
  refine r_isub X dX9_isAhead_14 ?_
  refine r_istore_n X 3 (L1 := [(3, .int (r1 - r6)), (0, .ref p), (1, .int b0), (2, .int b1)]) dX9_isAhead_15 rfl (by decide) rfl ?_
  refine r_iload_n X 3 dX9_isAhead_16 rfl rfl ?_
  refine r_if_ne X 36 dX9_isAhead_17 (by decide) (fun c11 => ?_) (fun c11 => ?_)
  · rw [if_neg c11] at E
    exact r_pick (by rfl : lpick [(3, .int (r1 - r6)), (0, .ref p), (1, .int b0), (2, .int b1)] [2, 3, 0] = _) (t_x9_isAhead_j36 X hl0 hr hnm E)
  · rw [if_pos c11] at E
    refine r_aload_n X 0 dX9_isAhead_20 rfl rfl ?_
    refine r_iload_n X 2 dX9_isAhead_21 rfl rfl ?_
    refine r_bipush X (v := 6) dX9_isAhead_22 (by decide) ?_
    obtain ⟨u15, e16, E⟩ := gb_some E
    obtain ⟨r12, g13, e14, E⟩ := cb_some E
    refine r_callV0 X hl0 (ci := 9) dX9_isAhead_24 y_X9_get m_X9_64 rfl rfl e16 (t_x9_get (l := l) (G := G) e14) rfl rfl (Nat.le_of_ble_eq_true rfl) (by decide) ?_
    refine r_aload_n X 0 dX9_isAhead_27 rfl rfl ?_
    refine r_iload_n X 1 dX9_isAhead_28 rfl rfl ?_
    refine r_bipush X (v := 6) dX9_isAhead_29 (by decide) ?_
    obtain ⟨u20, e21, E⟩ := gb_some E
    obtain ⟨r17, g18, e19, E⟩ := cb_some E
    refine r_callV0 X hl0 (ci := 9) dX9_isAhead_31 y_X9_get m_X9_64 rfl rfl e21 (t_x9_get (l := l) (G := G) e19) rfl rfl (Nat.le_of_ble_eq_true rfl) (by decide) ?_
    refine r_isub X dX9_isAhead_34 ?_
    refine r_istore_n X 3 (L1 := [(3, .int (r12 - r17)), (0, .ref p), (1, .int b0), (2, .int b1)]) dX9_isAhead_35 rfl (by decide) rfl ?_
    exact r_pick (by rfl : lpick [(3, .int (r12 - r17)), (0, .ref p), (1, .int b0), (2, .int b1)] [2, 3, 0] = _) (t_x9_isAhead_j36 X hl0 hr hnm E)
theorem t_x9_isAhead {l : Launch} {G : GG} {p : Nat} {b0 : Int32} {b1 : Int32} {g : AH} {r : Int32} {g1 : AH} (E : x9_isAhead p b0 b1 g = some (r, g1)) : Ct l G yX9_isAhead cX9_isAhead 4 (some .boolean) ⟨2, 0, 0, 82⟩ [.ref p, .int b0, .int b1] g (some (.int r)) g1 :=
  ct_of (L0 := [(0, .ref p), (1, .int b0), (2, .int b1)]) y_X9_isAhead rfl (Nat.le_of_ble_eq_true rfl) fun M hl0 X hr hnm => t_x9_isAhead_b X hl0 hr hnm E
set_option maxHeartbeats 4000000 in
set_option maxRecDepth 100000 in
theorem t_x9_rankOf_j35_4 {l : Launch} {G : GG} {M : MC} (X : CX M G cX9_rankOf 4 RX9 ⟨3, 0, 0, 105⟩) (hl0 : M.2.1 = l) (hr : (mM M).sig.returnType = (some .int)) (hnm : (mM M).name = yX9_rankOf.name) {Q : State → Prop} {kc ks : Nat} {s9 : ((Int32 × Int32) ⊕ (Int32))} {g1 : AH} {a0 : Nat} {a1 : Int32} {a3 : Int32} {s0 : Int32} {s1 : Int32} (hc : ∀ s1, s9 = .inl s1 → WW M G 4 Q kc ks g1 4 [(0, .ref a0), (1, .int a1), (2, .int s1.1), (3, .int s1.2)] []) (hx : ∀ t, s9 = .inr t → WW M G 4 Q kc ks g1 43 [(2, .int t)] []) {g : AH} (E : x9_rankOf_j35_4 a0 a1 a3 s0 s1 g = some (s9, g1)) : WW M G 4 Q kc ks g 35 [(0, .ref a0), (1, .int a1), (3, .int a3)] [.int s0, .int s1] := by
  unfold x9_rankOf_j35_4 at E
  refine r_iadd X dX9_rankOf_35 ?_
  refine r_istore_n X 2 (L1 := [(2, .int (s1 + s0)), (0, .ref a0), (1, .int a1), (3, .int a3)]) dX9_rankOf_36 rfl (by decide) rfl ?_
  refine r_iinc X (v := (a3 + 1)) (L1 := [(3, .int (a3 + 1)), (2, .int (s1 + s0)), (0, .ref a0), (1, .int a1)]) dX9_rankOf_37 rfl rfl (by decide) rfl ?_
  refine r_goto X 4 dX9_rankOf_40 (by decide) ?_
  cases E
  exact r_pick (by rfl : lpick [(3, .int (a3 + 1)), (2, .int (s1 + s0)), (0, .ref a0), (1, .int a1)] [2, 3, 1, 0] = _) (hc _ rfl)
set_option maxHeartbeats 4000000 in
set_option maxRecDepth 100000 in
theorem t_x9_rankOf_j34_4 {l : Launch} {G : GG} {M : MC} (X : CX M G cX9_rankOf 4 RX9 ⟨3, 0, 0, 105⟩) (hl0 : M.2.1 = l) (hr : (mM M).sig.returnType = (some .int)) (hnm : (mM M).name = yX9_rankOf.name) {Q : State → Prop} {kc ks : Nat} {s9 : ((Int32 × Int32) ⊕ (Int32))} {g1 : AH} {a0 : Nat} {a1 : Int32} {a3 : Int32} {s0 : Int32} (hc : ∀ s1, s9 = .inl s1 → WW M G 4 Q kc ks g1 4 [(0, .ref a0), (1, .int a1), (2, .int s1.1), (3, .int s1.2)] []) (hx : ∀ t, s9 = .inr t → WW M G 4 Q kc ks g1 43 [(2, .int t)] []) {g : AH} (E : x9_rankOf_j34_4 a0 a1 a3 s0 g = some (s9, g1)) : WW M G 4 Q kc ks g 34 [(0, .ref a0), (1, .int a1), (3, .int a3)] [.int s0] := by
  unfold x9_rankOf_j34_4 at E
  refine r_iconst X (v := 0) dX9_rankOf_34 (by decide) ?_
  exact r_pick (by rfl : lpick [(0, .ref a0), (1, .int a1), (3, .int a3)] [0, 1, 2] = _) (t_x9_rankOf_j35_4 X hl0 hr hnm hc hx E)
set_option maxHeartbeats 4000000 in
set_option maxRecDepth 100000 in
theorem t_x9_rankOf_l4 {l : Launch} {G : GG} {M : MC} (X : CX M G cX9_rankOf 4 RX9 ⟨3, 0, 0, 105⟩) (hl0 : M.2.1 = l) (hr : (mM M).sig.returnType = (some .int)) (hnm : (mM M).name = yX9_rankOf.name) {Q : State → Prop} {kc ks : Nat} {s9 : ((Int32 × Int32) ⊕ (Int32))} {g1 : AH} {a0 : Nat} {a1 : Int32} {s0 : Int32 × Int32} (hc : ∀ s1, s9 = .inl s1 → WW M G 4 Q kc ks g1 4 [(0, .ref a0), (1, .int a1), (2, .int s1.1), (3, .int s1.2)] []) (hx : ∀ t, s9 = .inr t → WW M G 4 Q kc ks g1 43 [(2, .int t)] []) {g : AH} (E : x9_rankOf_l4 a0 a1 s0 g = some (s9, g1)) : WW M G 4 Q kc ks g 4 [(0, .ref a0), (1, .int a1), (2, .int s0.1), (3, .int s0.2)] [] := by
  unfold x9_rankOf_l4 at E
  refine r_iload_n X 3 dX9_rankOf_4 rfl rfl ?_
  refine r_aload_n X 0 dX9_rankOf_5 rfl rfl ?_
  obtain ⟨x1, e2, E⟩ := gb_some E
  refine r_getR X dX9_rankOf_6 f_X9_7 e2 ?_
  refine r_bipush X (v := 12) dX9_rankOf_9 (by decide) ?_
  obtain ⟨x3, e4, E⟩ := gb_some E
  refine r_iald X dX9_rankOf_11 e4 ?_
  refine r_icmp_ge X 43 dX9_rankOf_12 (by decide) (fun c5 => ?_) (fun c5 => ?_)
  · rw [if_pos c5] at E
    cases E
    exact r_pick (by rfl : lpick [(0, .ref a0), (1, .int a1), (2, .int s0.1), (3, .int s0.2)] [2] = _) (hx _ rfl)
  · rw [if_neg c5] at E
    refine r_iload_n X 2 dX9_rankOf_15 rfl rfl ?_
    refine r_iload_n X 3 dX9_rankOf_16 rfl rfl ?_
    refine r_iload_n X 1 dX9_rankOf_17 rfl rfl ?_
    refine r_icmp_eq X 34 dX9_rankOf_18 (by decide) (fun c6 => ?_) (fun c6 => ?_)
    · rw [if_pos c6] at E
      exact r_pick (by rfl : lpick [(0, .ref a0), (1, .int a1), (2, .int s0.1), (3, .int s0.2)] [0, 1, 3] = _) (t_x9_rankOf_j34_4 X hl0 hr hnm hc hx E)
    · rw [if_neg c6] at E
      refine r_aload_n X 0 dX9_rankOf_21 rfl rfl ?_
      refine r_iload_n X 3 dX9_rankOf_22 rfl rfl ?_
      refine r_iload_n X 1 dX9_rankOf_23 rfl rfl ?_
      obtain ⟨u10, e11, E⟩ := gb_some E
      obtain ⟨r7, g8, e9, E⟩ := cb_some E
      refine r_callV0 X hl0 (ci := 9) dX9_rankOf_24 y_X9_isAhead m_X9_348 rfl rfl e11 (t_x9_isAhead (l := l) (G := G) e9) rfl rfl (Nat.le_of_ble_eq_true rfl) (by decide) ?_
      refine r_if_eq X 34 dX9_rankOf_27 (by decide) (fun c12 => ?_) (fun c12 => ?_)
      · rw [if_pos c12] at E
        exact r_pick (by rfl : lpick [(0, .ref a0), (1, .int a1), (2, .int s0.1), (3, .int s0.2)] [0, 1, 3] = _) (t_x9_rankOf_j34_4 X hl0 hr hnm hc hx E)
      · rw [if_neg c12] at E
        refine r_iconst X (v := 1) dX9_rankOf_30 (by decide) ?_
        refine r_goto X 35 dX9_rankOf_31 (by decide) ?_
        exact r_pick (by rfl : lpick [(0, .ref a0), (1, .int a1), (2, .int s0.1), (3, .int s0.2)] [0, 1, 3] = _) (t_x9_rankOf_j35_4 X hl0 hr hnm hc hx E)
set_option maxHeartbeats 4000000 in
theorem t_x9_rankOf_l4_r {l : Launch} {G : GG} {M : MC} (X : CX M G cX9_rankOf 4 RX9 ⟨3, 0, 0, 105⟩) (hl0 : M.2.1 = l) (hr : (mM M).sig.returnType = (some .int)) (hnm : (mM M).name = yX9_rankOf.name) {Q : State → Prop} {kc ks : Nat} {a0 : Nat} {a1 : Int32} : ∀ (n : Nat) (s0 : Int32 × Int32) (g : AH) (t : (Int32)) (g1 : AH), loopX (x9_rankOf_l4 a0 a1) n s0 g = some (t, g1) → WW M G 4 Q kc ks g1 43 [(2, .int t)] [] → WW M G 4 Q kc ks g 4 [(0, .ref a0), (1, .int a1), (2, .int s0.1), (3, .int s0.2)] [] :=
  loop_cps (K := fun t g1 => WW M G 4 Q kc ks g1 43 [(2, .int t)] []) (fun _ s0 g => WW M G 4 Q kc ks g 4 [(0, .ref a0), (1, .int a1), (2, .int s0.1), (3, .int s0.2)] []) (fun n s0 g st g1 E hc hx => t_x9_rankOf_l4 X hl0 hr hnm hc hx E)
set_option maxHeartbeats 4000000 in
set_option maxRecDepth 100000 in
theorem t_x9_rankOf_b {l : Launch} {G : GG} {M : MC} (X : CX M G cX9_rankOf 4 RX9 ⟨3, 0, 0, 105⟩) (hl0 : M.2.1 = l) (hr : (mM M).sig.returnType = (some .int)) (hnm : (mM M).name = yX9_rankOf.name) {p : Nat} {b0 : Int32} {g : AH} {r : Int32} {g1 : AH} (E : x9_rankOf p b0 g = some (r, g1)) : WW M G 4 (RQ M G (some (.int r)) g1 0 0) 0 0 g 0 [(0, .ref p), (1, .int b0)] [] := by
  unfold x9_rankOf at E
  refine r_iconst X (v := 0) dX9_rankOf_0 (by decide) ?_
  refine r_istore_n X 2 (L1 := [(2, .int 0), (0, .ref p), (1, .int b0)]) dX9_rankOf_1 rfl (by decide) rfl ?_
  refine r_iconst X (v := 0) dX9_rankOf_2 (by decide) ?_
  refine r_istore_n X 3 (L1 := [(3, .int 0), (2, .int 0), (0, .ref p), (1, .int b0)]) dX9_rankOf_3 rfl (by decide) rfl ?_
  obtain ⟨t1, g2, e3, E⟩ := cb_some E
  refine r_pick (by rfl : lpick [(3, .int 0), (2, .int 0), (0, .ref p), (1, .int b0)] [2, 3, 1, 0] = _) (t_x9_rankOf_l4_r X hl0 hr hnm _ _ _ _ _ e3 ?_)
  refine r_iload_n X 2 dX9_rankOf_43 rfl rfl ?_
  cases E
  exact r_iret X hr dX9_rankOf_44 (by decide) (by decide)
theorem t_x9_rankOf {l : Launch} {G : GG} {p : Nat} {b0 : Int32} {g : AH} {r : Int32} {g1 : AH} (E : x9_rankOf p b0 g = some (r, g1)) : Ct l G yX9_rankOf cX9_rankOf 4 (some .int) ⟨3, 0, 0, 105⟩ [.ref p, .int b0] g (some (.int r)) g1 :=
  ct_of (L0 := [(0, .ref p), (1, .int b0)]) y_X9_rankOf rfl (Nat.le_of_ble_eq_true rfl) fun M hl0 X hr hnm => t_x9_rankOf_b X hl0 hr hnm E
set_option maxHeartbeats 4000000 in
set_option maxRecDepth 100000 in
theorem t_x9_hikerAtRank_l7 {l : Launch} {G : GG} {M : MC} (X : CX M G cX9_hikerAtRank 3 RX9 ⟨4, 0, 0, 128⟩) (hl0 : M.2.1 = l) (hr : (mM M).sig.returnType = (some .int)) (hnm : (mM M).name = yX9_hikerAtRank.name) {Q : State → Prop} {kc ks : Nat} {s9 : ((Int32) ⊕ ((Unit) ⊕ Int32))} {g1 : AH} {a0 : Nat} {a1 : Int32} {s0 : Int32} (hc : ∀ s1, s9 = .inl s1 → WW M G 3 Q kc ks g1 7 [(0, .ref a0), (1, .int a1), (2, .int s1)] []) (hx : ∀ t, s9 = .inr t → Sum.elim (fun t1 => WW M G 3 Q kc ks g1 35 [(0, .ref a0)] []) (fun t2 => ∃ mc ms : Nat, kc ≤ mc ∧ ks ≤ ms ∧ Q = RQ M G (some (.int t2)) g1 mc ms) t) {g : AH} (E : x9_hikerAtRank_l7 a0 a1 s0 g = some (s9, g1)) : WW M G 3 Q kc ks g 7 [(0, .ref a0), (1, .int a1), (2, .int s0)] [] := by
  unfold x9_hikerAtRank_l7 at E
  refine r_iload_n X 2 dX9_hikerAtRank_7 rfl rfl ?_
  refine r_aload_n X 0 dX9_hikerAtRank_8 rfl rfl ?_
  obtain ⟨x1, e2, E⟩ := gb_some E
  refine r_getR X dX9_hikerAtRank_9 f_X9_7 e2 ?_
  refine r_bipush X (v := 12) dX9_hikerAtRank_12 (by decide) ?_
  obtain ⟨x3, e4, E⟩ := gb_some E
  refine r_iald X dX9_hikerAtRank_14 e4 ?_
  refine r_icmp_ge X 35 dX9_hikerAtRank_15 (by decide) (fun c5 => ?_) (fun c5 => ?_)
  · rw [if_pos c5] at E
    cases E
    exact r_pick (by rfl : lpick [(0, .ref a0), (1, .int a1), (2, .int s0)] [0] = _) (hx _ rfl)
  · rw [if_neg c5] at E
    refine r_aload_n X 0 dX9_hikerAtRank_18 rfl rfl ?_
    refine r_iload_n X 2 dX9_hikerAtRank_19 rfl rfl ?_
    obtain ⟨u9, e10, E⟩ := gb_some E
    obtain ⟨r6, g7, e8, E⟩ := cb_some E
    refine r_callV0 X hl0 (ci := 9) dX9_hikerAtRank_20 y_X9_rankOf m_X9_351 rfl rfl e10 (t_x9_rankOf (l := l) (G := G) e8) rfl rfl (Nat.le_of_ble_eq_true rfl) (by decide) ?_
    refine r_iload_n X 1 dX9_hikerAtRank_23 rfl rfl ?_
    refine r_icmp_ne X 29 dX9_hikerAtRank_24 (by decide) (fun c11 => ?_) (fun c11 => ?_)
    · rw [if_neg c11] at E
      refine r_iinc X (v := (s0 + 1)) (L1 := [(2, .int (s0 + 1)), (0, .ref a0), (1, .int a1)]) dX9_hikerAtRank_29 rfl rfl (by decide) rfl ?_
      refine r_goto X 7 dX9_hikerAtRank_32 (by decide) ?_
      cases E
      exact r_pick (by rfl : lpick [(2, .int (s0 + 1)), (0, .ref a0), (1, .int a1)] [1, 2, 0] = _) (hc _ rfl)
    · rw [if_pos c11] at E
      refine r_iload_n X 2 dX9_hikerAtRank_27 rfl rfl ?_
      cases E
      obtain ⟨mc9, ms9, h91, h92, rfl⟩ := hx _ rfl
      exact r_iret X hr dX9_hikerAtRank_28 h91 h92
set_option maxHeartbeats 4000000 in
theorem t_x9_hikerAtRank_l7_r {l : Launch} {G : GG} {M : MC} (X : CX M G cX9_hikerAtRank 3 RX9 ⟨4, 0, 0, 128⟩) (hl0 : M.2.1 = l) (hr : (mM M).sig.returnType = (some .int)) (hnm : (mM M).name = yX9_hikerAtRank.name) {Q : State → Prop} {kc ks : Nat} {a0 : Nat} {a1 : Int32} : ∀ (n : Nat) (s0 : Int32) (g : AH) (t : ((Unit) ⊕ Int32)) (g1 : AH), loopX (x9_hikerAtRank_l7 a0 a1) n s0 g = some (t, g1) → Sum.elim (fun t1 => WW M G 3 Q kc ks g1 35 [(0, .ref a0)] []) (fun t2 => ∃ mc ms : Nat, kc ≤ mc ∧ ks ≤ ms ∧ Q = RQ M G (some (.int t2)) g1 mc ms) t → WW M G 3 Q kc ks g 7 [(0, .ref a0), (1, .int a1), (2, .int s0)] [] :=
  loop_cps (K := fun t g1 => Sum.elim (fun t1 => WW M G 3 Q kc ks g1 35 [(0, .ref a0)] []) (fun t2 => ∃ mc ms : Nat, kc ≤ mc ∧ ks ≤ ms ∧ Q = RQ M G (some (.int t2)) g1 mc ms) t) (fun _ s0 g => WW M G 3 Q kc ks g 7 [(0, .ref a0), (1, .int a1), (2, .int s0)] []) (fun n s0 g st g1 E hc hx => t_x9_hikerAtRank_l7 X hl0 hr hnm hc hx E)
set_option maxHeartbeats 4000000 in
set_option maxRecDepth 100000 in
theorem t_x9_hikerAtRank_b {l : Launch} {G : GG} {M : MC} (X : CX M G cX9_hikerAtRank 3 RX9 ⟨4, 0, 0, 128⟩) (hl0 : M.2.1 = l) (hr : (mM M).sig.returnType = (some .int)) (hnm : (mM M).name = yX9_hikerAtRank.name) {p : Nat} {b0 : Int32} {g : AH} {r : Int32} {g1 : AH} (E : x9_hikerAtRank p b0 g = some (r, g1)) : WW M G 3 (RQ M G (some (.int r)) g1 0 0) 0 0 g 0 [(0, .ref p), (1, .int b0)] [] := by
  unfold x9_hikerAtRank at E
  refine r_aload_n X 0 dX9_hikerAtRank_0 rfl rfl ?_
  refine r_iconst X (v := 0) dX9_hikerAtRank_1 (by decide) ?_
  obtain ⟨g1, e2, E⟩ := gb_some E
  refine r_put X dX9_hikerAtRank_2 f_X9_57 rfl rfl e2 ?_
  refine r_iconst X (v := 0) dX9_hikerAtRank_5 (by decide) ?_
  refine r_istore_n X 2 (L1 := [(2, .int 0), (0, .ref p), (1, .int b0)]) dX9_hikerAtRank_6 rfl (by decide) rfl ?_
  obtain ⟨t3, g4, e5, E⟩ := cb_some E
  rcases t3 with t6 | t7
  · rw [Sum.elim_inl] at E
    refine r_pick (by rfl : lpick [(2, .int 0), (0, .ref p), (1, .int b0)] [1, 2, 0] = _) (t_x9_hikerAtRank_l7_r X hl0 hr hnm _ _ _ _ _ e5 ?_)
    refine r_aload_n X 0 dX9_hikerAtRank_35 rfl rfl ?_
    refine r_iconst X (v := 1) dX9_hikerAtRank_36 (by decide) ?_
    obtain ⟨u11, e12, E⟩ := gb_some E
    obtain ⟨r8, g9, e10, E⟩ := cb_some E
    refine r_callV0 X hl0 (ci := 9) dX9_hikerAtRank_37 y_X9_fail m_X9_141 rfl rfl e12 (t_x9_fail (l := l) (G := G) e10) rfl rfl (Nat.le_of_ble_eq_true rfl) (by decide) ?_
    cases E
    exact r_iret X hr dX9_hikerAtRank_40 (by decide) (by decide)
  · rw [Sum.elim_inr] at E
    cases E
    exact r_pick (by rfl : lpick [(2, .int 0), (0, .ref p), (1, .int b0)] [1, 2, 0] = _) (t_x9_hikerAtRank_l7_r X hl0 hr hnm _ _ _ _ _ e5 ⟨_, _, by decide, by decide, rfl⟩)
theorem t_x9_hikerAtRank {l : Launch} {G : GG} {p : Nat} {b0 : Int32} {g : AH} {r : Int32} {g1 : AH} (E : x9_hikerAtRank p b0 g = some (r, g1)) : Ct l G yX9_hikerAtRank cX9_hikerAtRank 3 (some .int) ⟨4, 0, 0, 128⟩ [.ref p, .int b0] g (some (.int r)) g1 :=
  ct_of (L0 := [(0, .ref p), (1, .int b0)]) y_X9_hikerAtRank rfl (Nat.le_of_ble_eq_true rfl) fun M hl0 X hr hnm => t_x9_hikerAtRank_b X hl0 hr hnm E
set_option maxHeartbeats 4000000 in
set_option maxRecDepth 100000 in
theorem t_x9_awakeWithout_b {l : Launch} {G : GG} {M : MC} (X : CX M G cX9_awakeWithout 2 RX9 ⟨11, 0, 0, 278⟩) (hl0 : M.2.1 = l) (hr : (mM M).sig.returnType = (some .int)) (hnm : (mM M).name = yX9_awakeWithout.name) {p : Nat} {b0 : Int32} {g : AH} {r : Int32} {g1 : AH} (E : x9_awakeWithout p b0 g = some (r, g1)) : WW M G 2 (RQ M G (some (.int r)) g1 0 0) 0 0 g 0 [(0, .ref p), (1, .int b0)] [] := by
  unfold x9_awakeWithout at E
  refine r_aload_n X 0 dX9_awakeWithout_0 rfl rfl ?_
  refine r_iload_n X 1 dX9_awakeWithout_1 rfl rfl ?_
  refine r_iconst X (v := 1) dX9_awakeWithout_2 (by decide) ?_
  refine r_iconst X (v := 0) dX9_awakeWithout_3 (by decide) ?_
  obtain ⟨u4, e5, E⟩ := gb_some E
  obtain ⟨r1, g2, e3, E⟩ := cb_some E
  refine r_callV0 X hl0 (ci := 9) dX9_awakeWithout_4 y_X9_set m_X9_54 rfl rfl e5 (t_x9_set (l := l) (G := G) e3) rfl rfl (Nat.le_of_ble_eq_true rfl) (by decide) ?_
  refine r_aload_n X 0 dX9_awakeWithout_7 rfl rfl ?_
  refine r_iconst X (v := 1) dX9_awakeWithout_8 (by decide) ?_
  obtain ⟨u9, e10, E⟩ := gb_some E
  obtain ⟨r6, g7, e8, E⟩ := cb_some E
  refine r_callV0 X hl0 (ci := 9) dX9_awakeWithout_9 y_X9_countDeed m_X9_318 rfl rfl e10 (t_x9_countDeed (l := l) (G := G) e8) rfl rfl (Nat.le_of_ble_eq_true rfl) (by decide) ?_
  cases E
  exact r_iret X hr dX9_awakeWithout_12 (by decide) (by decide)
theorem t_x9_awakeWithout {l : Launch} {G : GG} {p : Nat} {b0 : Int32} {g : AH} {r : Int32} {g1 : AH} (E : x9_awakeWithout p b0 g = some (r, g1)) : Ct l G yX9_awakeWithout cX9_awakeWithout 2 (some .int) ⟨11, 0, 0, 278⟩ [.ref p, .int b0] g (some (.int r)) g1 :=
  ct_of (L0 := [(0, .ref p), (1, .int b0)]) y_X9_awakeWithout rfl (Nat.le_of_ble_eq_true rfl) fun M hl0 X hr hnm => t_x9_awakeWithout_b X hl0 hr hnm E
set_option maxHeartbeats 4000000 in
set_option maxRecDepth 100000 in
theorem t_x9_worstSnorer_j52_15 {l : Launch} {G : GG} {M : MC} (X : CX M G cX9_worstSnorer 5 RX9 ⟨12, 0, 0, 299⟩) (hl0 : M.2.1 = l) (hr : (mM M).sig.returnType = (some .int)) (hnm : (mM M).name = yX9_worstSnorer.name) {Q : State → Prop} {kc ks : Nat} {s9 : ((Int32 × Int32 × Int32) ⊕ (Int32))} {g1 : AH} {a0 : Nat} {a2 : Int32} {a3 : Int32} {a4 : Int32} {s0 : Int32} (hc : ∀ s1, s9 = .inl s1 → WW M G 5 Q kc ks g1 15 [(0, .ref a0), (1, .int s1.1), (2, .int s1.2.1), (3, .int s1.2.2)] []) (hx : ∀ t, s9 = .inr t → WW M G 5 Q kc ks g1 66 [(1, .int t)] []) {g : AH} (E : x9_worstSnorer_j52_15 a0 a2 a3 a4 s0 g = some (s9, g1)) : WW M G 5 Q kc ks g 52 [(0, .ref a0), (2, .int a2), (3, .int a3), (4, .int a4)] [.int s0] := by
  unfold x9_worstSnorer_j52_15 at E
  refine r_istore_n X 1 (L1 := [(1, .int s0), (0, .ref a0), (2, .int a2), (3, .int a3), (4, .int a4)]) dX9_worstSnorer_52 rfl (by decide) rfl ?_
  refine r_iload_n X 2 dX9_worstSnorer_53 rfl rfl ?_
  refine r_iload X dX9_worstSnorer_54 rfl ?_
  refine r_min X dX9_worstSnorer_56 m_X9_108m (by decide) (Nat.le_of_ble_eq_true rfl) ?_
  refine r_istore_n X 2 (L1 := [(2, .int (if a4 < a2 then a4 else a2)), (1, .int s0), (0, .ref a0), (3, .int a3), (4, .int a4)]) dX9_worstSnorer_59 rfl (by decide) rfl ?_
  refine r_iinc X (v := (a3 + 1)) (L1 := [(3, .int (a3 + 1)), (2, .int (if a4 < a2 then a4 else a2)), (1, .int s0), (0, .ref a0), (4, .int a4)]) dX9_worstSnorer_60 rfl rfl (by decide) rfl ?_
  refine r_goto X 15 dX9_worstSnorer_63 (by decide) ?_
  cases E
  exact r_pick (by rfl : lpick [(3, .int (a3 + 1)), (2, .int (if a4 < a2 then a4 else a2)), (1, .int s0), (0, .ref a0), (4, .int a4)] [3, 2, 1, 0] = _) (hc _ rfl)
set_option maxHeartbeats 4000000 in
set_option maxRecDepth 100000 in
theorem t_x9_worstSnorer_l15 {l : Launch} {G : GG} {M : MC} (X : CX M G cX9_worstSnorer 5 RX9 ⟨12, 0, 0, 299⟩) (hl0 : M.2.1 = l) (hr : (mM M).sig.returnType = (some .int)) (hnm : (mM M).name = yX9_worstSnorer.name) {Q : State → Prop} {kc ks : Nat} {s9 : ((Int32 × Int32 × Int32) ⊕ (Int32))} {g1 : AH} {a0 : Nat} {s0 : Int32 × Int32 × Int32} (hc : ∀ s1, s9 = .inl s1 → WW M G 5 Q kc ks g1 15 [(0, .ref a0), (1, .int s1.1), (2, .int s1.2.1), (3, .int s1.2.2)] []) (hx : ∀ t, s9 = .inr t → WW M G 5 Q kc ks g1 66 [(1, .int t)] []) {g : AH} (E : x9_worstSnorer_l15 a0 s0 g = some (s9, g1)) : WW M G 5 Q kc ks g 15 [(0, .ref a0), (1, .int s0.1), (2, .int s0.2.1), (3, .int s0.2.2)] [] := by
  unfold x9_worstSnorer_l15 at E
  refine r_iload_n X 3 dX9_worstSnorer_15 rfl rfl ?_
  refine r_aload_n X 0 dX9_worstSnorer_16 rfl rfl ?_
  obtain ⟨x1, e2, E⟩ := gb_some E
  refine r_getR X dX9_worstSnorer_17 f_X9_7 e2 ?_
  refine r_bipush X (v := 12) dX9_worstSnorer_20 (by decide) ?_
  obtain ⟨x3, e4, E⟩ := gb_some E
  refine r_iald X dX9_worstSnorer_22 e4 ?_
  refine r_icmp_ge X 66 dX9_worstSnorer_23 (by decide) (fun c5 => ?_) (fun c5 => ?_)
  · rw [if_pos c5] at E
    cases E
    exact r_pick (by rfl : lpick [(0, .ref a0), (1, .int s0.1), (2, .int s0.2.1), (3, .int s0.2.2)] [1] = _) (hx _ rfl)
  · rw [if_neg c5] at E
    refine r_aload_n X 0 dX9_worstSnorer_26 rfl rfl ?_
    obtain ⟨u9, e10, E⟩ := gb_some E
    obtain ⟨r6, g7, e8, E⟩ := cb_some E
    refine r_callV0 X hl0 (ci := 9) dX9_worstSnorer_27 y_X9_goAside m_X9_229 rfl rfl e10 (t_x9_goAside (l := l) (G := G) e8) rfl rfl (Nat.le_of_ble_eq_true rfl) (by decide) ?_
    refine r_aload_n X 0 dX9_worstSnorer_30 rfl rfl ?_
    refine r_aload_n X 0 dX9_worstSnorer_31 rfl rfl ?_
    refine r_iload_n X 3 dX9_worstSnorer_32 rfl rfl ?_
    obtain ⟨u14, e15, E⟩ := gb_some E
    obtain ⟨r11, g12, e13, E⟩ := cb_some E
    refine r_callV0 X hl0 (ci := 9) dX9_worstSnorer_33 y_X9_awakeWithout m_X9_354 rfl rfl e15 (t_x9_awakeWithout (l := l) (G := G) e13) rfl rfl (Nat.le_of_ble_eq_true rfl) (by decide) ?_
    obtain ⟨u19, e20, E⟩ := gb_some E
    obtain ⟨r16, g17, e18, E⟩ := cb_some E
    refine r_callV0 X hl0 (ci := 9) dX9_worstSnorer_36 y_X9_comeBack m_X9_238 rfl rfl e20 (t_x9_comeBack (l := l) (G := G) e18) rfl rfl (Nat.le_of_ble_eq_true rfl) (by decide) ?_
    refine r_istore X (L1 := [(4, .int r16), (0, .ref a0), (1, .int s0.1), (2, .int s0.2.1), (3, .int s0.2.2)]) dX9_worstSnorer_39 (by decide) rfl ?_
    refine r_iload X dX9_worstSnorer_41 rfl ?_
    refine r_iload_n X 2 dX9_worstSnorer_43 rfl rfl ?_
    refine r_icmp_ge X 51 dX9_worstSnorer_44 (by decide) (fun c21 => ?_) (fun c21 => ?_)
    · rw [if_pos c21] at E
      refine r_iload_n X 1 dX9_worstSnorer_51 rfl rfl ?_
      exact r_pick (by rfl : lpick [(4, .int r16), (0, .ref a0), (1, .int s0.1), (2, .int s0.2.1), (3, .int s0.2.2)] [1, 3, 4, 0] = _) (t_x9_worstSnorer_j52_15 X hl0 hr hnm hc hx E)
    · rw [if_neg c21] at E
      refine r_iload_n X 3 dX9_worstSnorer_47 rfl rfl ?_
      refine r_goto X 52 dX9_worstSnorer_48 (by decide) ?_
      exact r_pick (by rfl : lpick [(4, .int r16), (0, .ref a0), (1, .int s0.1), (2, .int s0.2.1), (3, .int s0.2.2)] [1, 3, 4, 0] = _) (t_x9_worstSnorer_j52_15 X hl0 hr hnm hc hx E)
set_option maxHeartbeats 4000000 in
theorem t_x9_worstSnorer_l15_r {l : Launch} {G : GG} {M : MC} (X : CX M G cX9_worstSnorer 5 RX9 ⟨12, 0, 0, 299⟩) (hl0 : M.2.1 = l) (hr : (mM M).sig.returnType = (some .int)) (hnm : (mM M).name = yX9_worstSnorer.name) {Q : State → Prop} {kc ks : Nat} {a0 : Nat} : ∀ (n : Nat) (s0 : Int32 × Int32 × Int32) (g : AH) (t : (Int32)) (g1 : AH), loopX (x9_worstSnorer_l15 a0) n s0 g = some (t, g1) → WW M G 5 Q kc ks g1 66 [(1, .int t)] [] → WW M G 5 Q kc ks g 15 [(0, .ref a0), (1, .int s0.1), (2, .int s0.2.1), (3, .int s0.2.2)] [] :=
  loop_cps (K := fun t g1 => WW M G 5 Q kc ks g1 66 [(1, .int t)] []) (fun _ s0 g => WW M G 5 Q kc ks g 15 [(0, .ref a0), (1, .int s0.1), (2, .int s0.2.1), (3, .int s0.2.2)] []) (fun n s0 g st g1 E hc hx => t_x9_worstSnorer_l15 X hl0 hr hnm hc hx E)
set_option maxHeartbeats 4000000 in
set_option maxRecDepth 100000 in
theorem t_x9_worstSnorer_b {l : Launch} {G : GG} {M : MC} (X : CX M G cX9_worstSnorer 5 RX9 ⟨12, 0, 0, 299⟩) (hl0 : M.2.1 = l) (hr : (mM M).sig.returnType = (some .int)) (hnm : (mM M).name = yX9_worstSnorer.name) {p : Nat} {g : AH} {r : Int32} {g1 : AH} (E : x9_worstSnorer p g = some (r, g1)) : WW M G 5 (RQ M G (some (.int r)) g1 0 0) 0 0 g 0 [(0, .ref p)] [] := by
  unfold x9_worstSnorer at E
  refine r_aload_n X 0 dX9_worstSnorer_0 rfl rfl ?_
  refine r_iconst X (v := 0) dX9_worstSnorer_1 (by decide) ?_
  obtain ⟨g1, e2, E⟩ := gb_some E
  refine r_put X dX9_worstSnorer_2 f_X9_57 rfl rfl e2 ?_
  refine r_iconst X (v := (-1)) dX9_worstSnorer_5 (by decide) ?_
  refine r_istore_n X 1 (L1 := [(1, .int (-1)), (0, .ref p)]) dX9_worstSnorer_6 rfl (by decide) rfl ?_
  refine r_aload_n X 0 dX9_worstSnorer_7 rfl rfl ?_
  refine r_iconst X (v := 1) dX9_worstSnorer_8 (by decide) ?_
  obtain ⟨u6, e7, E⟩ := gb_some E
  obtain ⟨r3, g4, e5, E⟩ := cb_some E
  refine r_callV0 X hl0 (ci := 9) dX9_worstSnorer_9 y_X9_countDeed m_X9_318 rfl rfl e7 (t_x9_countDeed (l := l) (G := G) e5) rfl rfl (Nat.le_of_ble_eq_true rfl) (by decide) ?_
  refine r_istore_n X 2 (L1 := [(2, .int r3), (1, .int (-1)), (0, .ref p)]) dX9_worstSnorer_12 rfl (by decide) rfl ?_
  refine r_iconst X (v := 0) dX9_worstSnorer_13 (by decide) ?_
  refine r_istore_n X 3 (L1 := [(3, .int 0), (2, .int r3), (1, .int (-1)), (0, .ref p)]) dX9_worstSnorer_14 rfl (by decide) rfl ?_
  obtain ⟨t8, g9, e10, E⟩ := cb_some E
  refine r_pick (by rfl : lpick [(3, .int 0), (2, .int r3), (1, .int (-1)), (0, .ref p)] [3, 2, 1, 0] = _) (t_x9_worstSnorer_l15_r X hl0 hr hnm _ _ _ _ _ e10 ?_)
  refine r_iload_n X 1 dX9_worstSnorer_66 rfl rfl ?_
  cases E
  exact r_iret X hr dX9_worstSnorer_67 (by decide) (by decide)
theorem t_x9_worstSnorer {l : Launch} {G : GG} {p : Nat} {g : AH} {r : Int32} {g1 : AH} (E : x9_worstSnorer p g = some (r, g1)) : Ct l G yX9_worstSnorer cX9_worstSnorer 5 (some .int) ⟨12, 0, 0, 299⟩ [.ref p] g (some (.int r)) g1 :=
  ct_of (L0 := [(0, .ref p)]) y_X9_worstSnorer rfl (Nat.le_of_ble_eq_true rfl) fun M hl0 X hr hnm => t_x9_worstSnorer_b X hl0 hr hnm E
set_option maxHeartbeats 4000000 in
set_option maxRecDepth 100000 in
theorem t_x9_hikersWithout_b {l : Launch} {G : GG} {M : MC} (X : CX M G cX9_hikersWithout 1 RX9 ⟨3, 0, 0, 104⟩) (hl0 : M.2.1 = l) (hr : (mM M).sig.returnType = (some .int)) (hnm : (mM M).name = yX9_hikersWithout.name) {p : Nat} {g : AH} {r : Int32} {g1 : AH} (E : x9_hikersWithout p g = some (r, g1)) : WW M G 1 (RQ M G (some (.int r)) g1 0 0) 0 0 g 0 [(0, .ref p)] [] := by
  unfold x9_hikersWithout at E
  refine r_aload_n X 0 dX9_hikersWithout_0 rfl rfl ?_
  refine r_aload_n X 0 dX9_hikersWithout_1 rfl rfl ?_
  obtain ⟨u4, e5, E⟩ := gb_some E
  obtain ⟨r1, g2, e3, E⟩ := cb_some E
  refine r_callV0 X hl0 (ci := 9) dX9_hikersWithout_2 y_X9_countWithout m_X9_119 rfl rfl e5 (t_x9_countWithout (l := l) (G := G) e3) rfl rfl (Nat.le_of_ble_eq_true rfl) (by decide) ?_
  obtain ⟨u9, e10, E⟩ := gb_some E
  obtain ⟨r6, g7, e8, E⟩ := cb_some E
  refine r_callV0 X hl0 (ci := 9) dX9_hikersWithout_5 y_X9_tell m_X9_305 rfl rfl e10 (t_x9_tell (l := l) (G := G) e8) rfl rfl (Nat.le_of_ble_eq_true rfl) (by decide) ?_
  cases E
  exact r_iret X hr dX9_hikersWithout_8 (by decide) (by decide)
theorem t_x9_hikersWithout {l : Launch} {G : GG} {p : Nat} {g : AH} {r : Int32} {g1 : AH} (E : x9_hikersWithout p g = some (r, g1)) : Ct l G yX9_hikersWithout cX9_hikersWithout 1 (some .int) ⟨3, 0, 0, 104⟩ [.ref p] g (some (.int r)) g1 :=
  ct_of (L0 := [(0, .ref p)]) y_X9_hikersWithout rfl (Nat.le_of_ble_eq_true rfl) fun M hl0 X hr hnm => t_x9_hikersWithout_b X hl0 hr hnm E
set_option maxHeartbeats 4000000 in
set_option maxRecDepth 100000 in
theorem t_x9_coldHikers_b {l : Launch} {G : GG} {M : MC} (X : CX M G cX9_coldHikers 1 RX9 ⟨11, 0, 0, 278⟩) (hl0 : M.2.1 = l) (hr : (mM M).sig.returnType = (some .int)) (hnm : (mM M).name = yX9_coldHikers.name) {p : Nat} {g : AH} {r : Int32} {g1 : AH} (E : x9_coldHikers p g = some (r, g1)) : WW M G 1 (RQ M G (some (.int r)) g1 0 0) 0 0 g 0 [(0, .ref p)] [] := by
  unfold x9_coldHikers at E
  refine r_aload_n X 0 dX9_coldHikers_0 rfl rfl ?_
  refine r_iconst X (v := 0) dX9_coldHikers_1 (by decide) ?_
  obtain ⟨g1, e2, E⟩ := gb_some E
  refine r_put X dX9_coldHikers_2 f_X9_57 rfl rfl e2 ?_
  refine r_aload_n X 0 dX9_coldHikers_5 rfl rfl ?_
  refine r_iconst X (v := 0) dX9_coldHikers_6 (by decide) ?_
  obtain ⟨u6, e7, E⟩ := gb_some E
  obtain ⟨r3, g4, e5, E⟩ := cb_some E
  refine r_callV0 X hl0 (ci := 9) dX9_coldHikers_7 y_X9_countDeed m_X9_318 rfl rfl e7 (t_x9_countDeed (l := l) (G := G) e5) rfl rfl (Nat.le_of_ble_eq_true rfl) (by decide) ?_
  cases E
  exact r_iret X hr dX9_coldHikers_10 (by decide) (by decide)
theorem t_x9_coldHikers {l : Launch} {G : GG} {p : Nat} {g : AH} {r : Int32} {g1 : AH} (E : x9_coldHikers p g = some (r, g1)) : Ct l G yX9_coldHikers cX9_coldHikers 1 (some .int) ⟨11, 0, 0, 278⟩ [.ref p] g (some (.int r)) g1 :=
  ct_of (L0 := [(0, .ref p)]) y_X9_coldHikers rfl (Nat.le_of_ble_eq_true rfl) fun M hl0 X hr hnm => t_x9_coldHikers_b X hl0 hr hnm E
set_option maxHeartbeats 4000000 in
set_option maxRecDepth 100000 in
theorem t_x9_missing_b {l : Launch} {G : GG} {M : MC} (X : CX M G cX9_missing 2 RX9 ⟨6, 0, 0, 170⟩) (hl0 : M.2.1 = l) (hr : (mM M).sig.returnType = (some .int)) (hnm : (mM M).name = yX9_missing.name) {p : Nat} {b0 : Int32} {g : AH} {r : Int32} {g1 : AH} (E : x9_missing p b0 g = some (r, g1)) : WW M G 2 (RQ M G (some (.int r)) g1 0 0) 0 0 g 0 [(0, .ref p), (1, .int b0)] [] := by
  unfold x9_missing at E
  refine r_aload_n X 0 dX9_missing_0 rfl rfl ?_
  refine r_iload_n X 1 dX9_missing_1 rfl rfl ?_
  refine r_iconst X (v := 0) dX9_missing_2 (by decide) ?_
  obtain ⟨u4, e5, E⟩ := gb_some E
  obtain ⟨r1, g2, e3, E⟩ := cb_some E
  refine r_callV0 X hl0 (ci := 9) dX9_missing_3 y_X9_get m_X9_64 rfl rfl e5 (t_x9_get (l := l) (G := G) e3) rfl rfl (Nat.le_of_ble_eq_true rfl) (by decide) ?_
  refine r_aload_n X 0 dX9_missing_6 rfl rfl ?_
  refine r_iload_n X 1 dX9_missing_7 rfl rfl ?_
  obtain ⟨u9, e10, E⟩ := gb_some E
  obtain ⟨r6, g7, e8, E⟩ := cb_some E
  refine r_callV0 X hl0 (ci := 9) dX9_missing_8 y_X9_warmthNow m_X9_93 rfl rfl e10 (t_x9_warmthNow (l := l) (G := G) e8) rfl rfl (Nat.le_of_ble_eq_true rfl) (by decide) ?_
  refine r_isub X dX9_missing_11 ?_
  cases E
  exact r_iret X hr dX9_missing_12 (by decide) (by decide)
theorem t_x9_missing {l : Launch} {G : GG} {p : Nat} {b0 : Int32} {g : AH} {r : Int32} {g1 : AH} (E : x9_missing p b0 g = some (r, g1)) : Ct l G yX9_missing cX9_missing 2 (some .int) ⟨6, 0, 0, 170⟩ [.ref p, .int b0] g (some (.int r)) g1 :=
  ct_of (L0 := [(0, .ref p), (1, .int b0)]) y_X9_missing rfl (Nat.le_of_ble_eq_true rfl) fun M hl0 X hr hnm => t_x9_missing_b X hl0 hr hnm E
set_option maxHeartbeats 4000000 in
set_option maxRecDepth 100000 in
theorem t_x9_coldestHiker_j38_9 {l : Launch} {G : GG} {M : MC} (X : CX M G cX9_coldestHiker 3 RX9 ⟨7, 0, 0, 191⟩) (hl0 : M.2.1 = l) (hr : (mM M).sig.returnType = (some .int)) (hnm : (mM M).name = yX9_coldestHiker.name) {Q : State → Prop} {kc ks : Nat} {s9 : ((Int32 × Int32) ⊕ (Int32))} {g1 : AH} {a0 : Nat} {a2 : Int32} {s0 : Int32} (hc : ∀ s1, s9 = .inl s1 → WW M G 3 Q kc ks g1 9 [(0, .ref a0), (1, .int s1.1), (2, .int s1.2)] []) (hx : ∀ t, s9 = .inr t → WW M G 3 Q kc ks g1 45 [(1, .int t)] []) {g : AH} (E : x9_coldestHiker_j38_9 a0 a2 s0 g = some (s9, g1)) : WW M G 3 Q kc ks g 38 [(0, .ref a0), (2, .int a2)] [.int s0] := by
  unfold x9_coldestHiker_j38_9 at E
  refine r_istore_n X 1 (L1 := [(1, .int s0), (0, .ref a0), (2, .int a2)]) dX9_coldestHiker_38 rfl (by decide) rfl ?_
  refine r_iinc X (v := (a2 + 1)) (L1 := [(2, .int (a2 + 1)), (1, .int s0), (0, .ref a0)]) dX9_coldestHiker_39 rfl rfl (by decide) rfl ?_
  refine r_goto X 9 dX9_coldestHiker_42 (by decide) ?_
  cases E
  exact r_pick (by rfl : lpick [(2, .int (a2 + 1)), (1, .int s0), (0, .ref a0)] [2, 1, 0] = _) (hc _ rfl)
set_option maxHeartbeats 4000000 in
set_option maxRecDepth 100000 in
theorem t_x9_coldestHiker_l9 {l : Launch} {G : GG} {M : MC} (X : CX M G cX9_coldestHiker 3 RX9 ⟨7, 0, 0, 191⟩) (hl0 : M.2.1 = l) (hr : (mM M).sig.returnType = (some .int)) (hnm : (mM M).name = yX9_coldestHiker.name) {Q : State → Prop} {kc ks : Nat} {s9 : ((Int32 × Int32) ⊕ (Int32))} {g1 : AH} {a0 : Nat} {s0 : Int32 × Int32} (hc : ∀ s1, s9 = .inl s1 → WW M G 3 Q kc ks g1 9 [(0, .ref a0), (1, .int s1.1), (2, .int s1.2)] []) (hx : ∀ t, s9 = .inr t → WW M G 3 Q kc ks g1 45 [(1, .int t)] []) {g : AH} (E : x9_coldestHiker_l9 a0 s0 g = some (s9, g1)) : WW M G 3 Q kc ks g 9 [(0, .ref a0), (1, .int s0.1), (2, .int s0.2)] [] := by
  unfold x9_coldestHiker_l9 at E
  refine r_iload_n X 2 dX9_coldestHiker_9 rfl rfl ?_
  refine r_aload_n X 0 dX9_coldestHiker_10 rfl rfl ?_
  obtain ⟨x1, e2, E⟩ := gb_some E
  refine r_getR X dX9_coldestHiker_11 f_X9_7 e2 ?_
  refine r_bipush X (v := 12) dX9_coldestHiker_14 (by decide) ?_
  obtain ⟨x3, e4, E⟩ := gb_some E
  refine r_iald X dX9_coldestHiker_16 e4 ?_
  refine r_icmp_ge X 45 dX9_coldestHiker_17 (by decide) (fun c5 => ?_) (fun c5 => ?_)
  · rw [if_pos c5] at E
    cases E
    exact r_pick (by rfl : lpick [(0, .ref a0), (1, .int s0.1), (2, .int s0.2)] [1] = _) (hx _ rfl)
  · rw [if_neg c5] at E
    refine r_aload_n X 0 dX9_coldestHiker_20 rfl rfl ?_
    refine r_iload_n X 2 dX9_coldestHiker_21 rfl rfl ?_
    obtain ⟨u9, e10, E⟩ := gb_some E
    obtain ⟨r6, g7, e8, E⟩ := cb_some E
    refine r_callV0 X hl0 (ci := 9) dX9_coldestHiker_22 y_X9_missing m_X9_357 rfl rfl e10 (t_x9_missing (l := l) (G := G) e8) rfl rfl (Nat.le_of_ble_eq_true rfl) (by decide) ?_
    refine r_aload_n X 0 dX9_coldestHiker_25 rfl rfl ?_
    refine r_iload_n X 1 dX9_coldestHiker_26 rfl rfl ?_
    obtain ⟨u14, e15, E⟩ := gb_some E
    obtain ⟨r11, g12, e13, E⟩ := cb_some E
    refine r_callV0 X hl0 (ci := 9) dX9_coldestHiker_27 y_X9_missing m_X9_357 rfl rfl e15 (t_x9_missing (l := l) (G := G) e13) rfl rfl (Nat.le_of_ble_eq_true rfl) (by decide) ?_
    refine r_icmp_le X 37 dX9_coldestHiker_30 (by decide) (fun c16 => ?_) (fun c16 => ?_)
    · rw [if_pos c16] at E
      refine r_iload_n X 1 dX9_coldestHiker_37 rfl rfl ?_
      exact r_pick (by rfl : lpick [(0, .ref a0), (1, .int s0.1), (2, .int s0.2)] [0, 2] = _) (t_x9_coldestHiker_j38_9 X hl0 hr hnm hc hx E)
    · rw [if_neg c16] at E
      refine r_iload_n X 2 dX9_coldestHiker_33 rfl rfl ?_
      refine r_goto X 38 dX9_coldestHiker_34 (by decide) ?_
      exact r_pick (by rfl : lpick [(0, .ref a0), (1, .int s0.1), (2, .int s0.2)] [0, 2] = _) (t_x9_coldestHiker_j38_9 X hl0 hr hnm hc hx E)
set_option maxHeartbeats 4000000 in
theorem t_x9_coldestHiker_l9_r {l : Launch} {G : GG} {M : MC} (X : CX M G cX9_coldestHiker 3 RX9 ⟨7, 0, 0, 191⟩) (hl0 : M.2.1 = l) (hr : (mM M).sig.returnType = (some .int)) (hnm : (mM M).name = yX9_coldestHiker.name) {Q : State → Prop} {kc ks : Nat} {a0 : Nat} : ∀ (n : Nat) (s0 : Int32 × Int32) (g : AH) (t : (Int32)) (g1 : AH), loopX (x9_coldestHiker_l9 a0) n s0 g = some (t, g1) → WW M G 3 Q kc ks g1 45 [(1, .int t)] [] → WW M G 3 Q kc ks g 9 [(0, .ref a0), (1, .int s0.1), (2, .int s0.2)] [] :=
  loop_cps (K := fun t g1 => WW M G 3 Q kc ks g1 45 [(1, .int t)] []) (fun _ s0 g => WW M G 3 Q kc ks g 9 [(0, .ref a0), (1, .int s0.1), (2, .int s0.2)] []) (fun n s0 g st g1 E hc hx => t_x9_coldestHiker_l9 X hl0 hr hnm hc hx E)
set_option maxHeartbeats 4000000 in
set_option maxRecDepth 100000 in
theorem t_x9_coldestHiker_b {l : Launch} {G : GG} {M : MC} (X : CX M G cX9_coldestHiker 3 RX9 ⟨7, 0, 0, 191⟩) (hl0 : M.2.1 = l) (hr : (mM M).sig.returnType = (some .int)) (hnm : (mM M).name = yX9_coldestHiker.name) {p : Nat} {g : AH} {r : Int32} {g1 : AH} (E : x9_coldestHiker p g = some (r, g1)) : WW M G 3 (RQ M G (some (.int r)) g1 0 0) 0 0 g 0 [(0, .ref p)] [] := by
  unfold x9_coldestHiker at E
  refine r_aload_n X 0 dX9_coldestHiker_0 rfl rfl ?_
  refine r_iconst X (v := 0) dX9_coldestHiker_1 (by decide) ?_
  obtain ⟨g1, e2, E⟩ := gb_some E
  refine r_put X dX9_coldestHiker_2 f_X9_57 rfl rfl e2 ?_
  refine r_iconst X (v := 0) dX9_coldestHiker_5 (by decide) ?_
  refine r_istore_n X 1 (L1 := [(1, .int 0), (0, .ref p)]) dX9_coldestHiker_6 rfl (by decide) rfl ?_
  refine r_iconst X (v := 1) dX9_coldestHiker_7 (by decide) ?_
  refine r_istore_n X 2 (L1 := [(2, .int 1), (1, .int 0), (0, .ref p)]) dX9_coldestHiker_8 rfl (by decide) rfl ?_
  obtain ⟨t3, g4, e5, E⟩ := cb_some E
  refine r_pick (by rfl : lpick [(2, .int 1), (1, .int 0), (0, .ref p)] [2, 1, 0] = _) (t_x9_coldestHiker_l9_r X hl0 hr hnm _ _ _ _ _ e5 ?_)
  refine r_iload_n X 1 dX9_coldestHiker_45 rfl rfl ?_
  cases E
  exact r_iret X hr dX9_coldestHiker_46 (by decide) (by decide)
theorem t_x9_coldestHiker {l : Launch} {G : GG} {p : Nat} {g : AH} {r : Int32} {g1 : AH} (E : x9_coldestHiker p g = some (r, g1)) : Ct l G yX9_coldestHiker cX9_coldestHiker 3 (some .int) ⟨7, 0, 0, 191⟩ [.ref p] g (some (.int r)) g1 :=
  ct_of (L0 := [(0, .ref p)]) y_X9_coldestHiker rfl (Nat.le_of_ble_eq_true rfl) fun M hl0 X hr hnm => t_x9_coldestHiker_b X hl0 hr hnm E
set_option maxHeartbeats 4000000 in
set_option maxRecDepth 100000 in
theorem t_x9_thinnest_j80_4 {l : Launch} {G : GG} {M : MC} (X : CX M G cX9_thinnest 5 RX9 ⟨1, 0, 0, 60⟩) (hl0 : M.2.1 = l) (hr : (mM M).sig.returnType = (some .int)) (hnm : (mM M).name = yX9_thinnest.name) {Q : State → Prop} {kc ks : Nat} {s9 : ((Int32 × Int32) ⊕ (Int32))} {g1 : AH} {a0 : Nat} {a1 : Int32} {a3 : Int32} {s0 : Int32} (hc : ∀ s1, s9 = .inl s1 → WW M G 5 Q kc ks g1 4 [(0, .ref a0), (1, .int a1), (2, .int s1.1), (3, .int s1.2)] []) (hx : ∀ t, s9 = .inr t → WW M G 5 Q kc ks g1 87 [(2, .int t)] []) {g : AH} (E : x9_thinnest_j80_4 a0 a1 a3 s0 g = some (s9, g1)) : WW M G 5 Q kc ks g 80 [(0, .ref a0), (1, .int a1), (3, .int a3)] [.int s0] := by
  unfold x9_thinnest_j80_4 at E
  refine r_istore_n X 2 (L1 := [(2, .int s0), (0, .ref a0), (1, .int a1), (3, .int a3)]) dX9_thinnest_80 rfl (by decide) rfl ?_
  refine r_iinc X (v := (a3 + 1)) (L1 := [(3, .int (a3 + 1)), (2, .int s0), (0, .ref a0), (1, .int a1)]) dX9_thinnest_81 rfl rfl (by decide) rfl ?_
  refine r_goto X 4 dX9_thinnest_84 (by decide) ?_
  cases E
  exact r_pick (by rfl : lpick [(3, .int (a3 + 1)), (2, .int s0), (0, .ref a0), (1, .int a1)] [2, 3, 1, 0] = _) (hc _ rfl)
set_option maxHeartbeats 4000000 in
set_option maxRecDepth 100000 in
theorem t_x9_thinnest_j79_4 {l : Launch} {G : GG} {M : MC} (X : CX M G cX9_thinnest 5 RX9 ⟨1, 0, 0, 60⟩) (hl0 : M.2.1 = l) (hr : (mM M).sig.returnType = (some .int)) (hnm : (mM M).name = yX9_thinnest.name) {Q : State → Prop} {kc ks : Nat} {s9 : ((Int32 × Int32) ⊕ (Int32))} {g1 : AH} {a0 : Nat} {a1 : Int32} {a2 : Int32} {a3 : Int32} (hc : ∀ s1, s9 = .inl s1 → WW M G 5 Q kc ks g1 4 [(0, .ref a0), (1, .int a1), (2, .int s1.1), (3, .int s1.2)] []) (hx : ∀ t, s9 = .inr t → WW M G 5 Q kc ks g1 87 [(2, .int t)] []) {g : AH} (E : x9_thinnest_j79_4 a0 a1 a2 a3 g = some (s9, g1)) : WW M G 5 Q kc ks g 79 [(0, .ref a0), (1, .int a1), (2, .int a2), (3, .int a3)] [] := by
  unfold x9_thinnest_j79_4 at E
  refine r_iload_n X 2 dX9_thinnest_79 rfl rfl ?_
  exact r_pick (by rfl : lpick [(0, .ref a0), (1, .int a1), (2, .int a2), (3, .int a3)] [0, 1, 3] = _) (t_x9_thinnest_j80_4 X hl0 hr hnm hc hx E)
set_option maxHeartbeats 4000000 in
set_option maxRecDepth 100000 in
theorem t_x9_thinnest_j75_4 {l : Launch} {G : GG} {M : MC} (X : CX M G cX9_thinnest 5 RX9 ⟨1, 0, 0, 60⟩) (hl0 : M.2.1 = l) (hr : (mM M).sig.returnType = (some .int)) (hnm : (mM M).name = yX9_thinnest.name) {Q : State → Prop} {kc ks : Nat} {s9 : ((Int32 × Int32) ⊕ (Int32))} {g1 : AH} {a0 : Nat} {a1 : Int32} {a3 : Int32} (hc : ∀ s1, s9 = .inl s1 → WW M G 5 Q kc ks g1 4 [(0, .ref a0), (1, .int a1), (2, .int s1.1), (3, .int s1.2)] []) (hx : ∀ t, s9 = .inr t → WW M G 5 Q kc ks g1 87 [(2, .int t)] []) {g : AH} (E : x9_thinnest_j75_4 a0 a1 a3 g = some (s9, g1)) : WW M G 5 Q kc ks g 75 [(0, .ref a0), (1, .int a1), (3, .int a3)] [] := by
  unfold x9_thinnest_j75_4 at E
  refine r_iload_n X 3 dX9_thinnest_75 rfl rfl ?_
  refine r_goto X 80 dX9_thinnest_76 (by decide) ?_
  exact r_pick (by rfl : lpick [(0, .ref a0), (1, .int a1), (3, .int a3)] [0, 1, 2] = _) (t_x9_thinnest_j80_4 X hl0 hr hnm hc hx E)
set_option maxHeartbeats 4000000 in
set_option maxRecDepth 100000 in
theorem t_x9_thinnest_j42_4 {l : Launch} {G : GG} {M : MC} (X : CX M G cX9_thinnest 5 RX9 ⟨1, 0, 0, 60⟩) (hl0 : M.2.1 = l) (hr : (mM M).sig.returnType = (some .int)) (hnm : (mM M).name = yX9_thinnest.name) {Q : State → Prop} {kc ks : Nat} {s9 : ((Int32 × Int32) ⊕ (Int32))} {g1 : AH} {a0 : Nat} {a1 : Int32} {a2 : Int32} {a3 : Int32} {s0 : Int32} (hc : ∀ s1, s9 = .inl s1 → WW M G 5 Q kc ks g1 4 [(0, .ref a0), (1, .int a1), (2, .int s1.1), (3, .int s1.2)] []) (hx : ∀ t, s9 = .inr t → WW M G 5 Q kc ks g1 87 [(2, .int t)] []) {g : AH} (E : x9_thinnest_j42_4 a0 a1 a2 a3 s0 g = some (s9, g1)) : WW M G 5 Q kc ks g 42 [(0, .ref a0), (1, .int a1), (2, .int a2), (3, .int a3)] [.int s0] := by
  unfold x9_thinnest_j42_4 at E
  refine r_istore X (L1 := [(4, .int s0), (0, .ref a0), (1, .int a1), (2, .int a2), (3, .int a3)]) dX9_thinnest_42 (by decide) rfl ?_
  refine r_iload X dX9_thinnest_44 rfl ?_
  refine r_if_eq X 79 dX9_thinnest_46 (by decide) (fun c1 => ?_) (fun c1 => ?_)
  · rw [if_pos c1] at E
    exact r_pick (by rfl : lpick [(4, .int s0), (0, .ref a0), (1, .int a1), (2, .int a2), (3, .int a3)] [1, 2, 3, 4] = _) (t_x9_thinnest_j79_4 X hl0 hr hnm hc hx E)
  · rw [if_neg c1] at E
    refine r_iload_n X 2 dX9_thinnest_49 rfl rfl ?_
    refine r_iconst X (v := (-1)) dX9_thinnest_50 (by decide) ?_
    refine r_icmp_eq X 75 dX9_thinnest_51 (by decide) (fun c2 => ?_) (fun c2 => ?_)
    · rw [if_pos c2] at E
      exact r_pick (by rfl : lpick [(4, .int s0), (0, .ref a0), (1, .int a1), (2, .int a2), (3, .int a3)] [1, 2, 4] = _) (t_x9_thinnest_j75_4 X hl0 hr hnm hc hx E)
    · rw [if_neg c2] at E
      refine r_aload_n X 0 dX9_thinnest_54 rfl rfl ?_
      obtain ⟨x3, e4, E⟩ := gb_some E
      refine r_getR X dX9_thinnest_55 f_X9_7 e4 ?_
      refine r_bipush X (v := 25) dX9_thinnest_58 (by decide) ?_
      refine r_iload_n X 3 dX9_thinnest_60 rfl rfl ?_
      refine r_iadd X dX9_thinnest_61 ?_
      obtain ⟨x5, e6, E⟩ := gb_some E
      refine r_iald X dX9_thinnest_62 e6 ?_
      refine r_aload_n X 0 dX9_thinnest_63 rfl rfl ?_
      obtain ⟨x7, e8, E⟩ := gb_some E
      refine r_getR X dX9_thinnest_64 f_X9_7 e8 ?_
      refine r_bipush X (v := 25) dX9_thinnest_67 (by decide) ?_
      refine r_iload_n X 2 dX9_thinnest_69 rfl rfl ?_
      refine r_iadd X dX9_thinnest_70 ?_
      obtain ⟨x9, e10, E⟩ := gb_some E
      refine r_iald X dX9_thinnest_71 e10 ?_
      refine r_icmp_ge X 79 dX9_thinnest_72 (by decide) (fun c11 => ?_) (fun c11 => ?_)
      · rw [if_pos c11] at E
        exact r_pick (by rfl : lpick [(4, .int s0), (0, .ref a0), (1, .int a1), (2, .int a2), (3, .int a3)] [1, 2, 3, 4] = _) (t_x9_thinnest_j79_4 X hl0 hr hnm hc hx E)
      · rw [if_neg c11] at E
        exact r_pick (by rfl : lpick [(4, .int s0), (0, .ref a0), (1, .int a1), (2, .int a2), (3, .int a3)] [1, 2, 4] = _) (t_x9_thinnest_j75_4 X hl0 hr hnm hc hx E)
set_option maxHeartbeats 4000000 in
set_option maxRecDepth 100000 in
theorem t_x9_thinnest_j41_4 {l : Launch} {G : GG} {M : MC} (X : CX M G cX9_thinnest 5 RX9 ⟨1, 0, 0, 60⟩) (hl0 : M.2.1 = l) (hr : (mM M).sig.returnType = (some .int)) (hnm : (mM M).name = yX9_thinnest.name) {Q : State → Prop} {kc ks : Nat} {s9 : ((Int32 × Int32) ⊕ (Int32))} {g1 : AH} {a0 : Nat} {a1 : Int32} {a2 : Int32} {a3 : Int32} (hc : ∀ s1, s9 = .inl s1 → WW M G 5 Q kc ks g1 4 [(0, .ref a0), (1, .int a1), (2, .int s1.1), (3, .int s1.2)] []) (hx : ∀ t, s9 = .inr t → WW M G 5 Q kc ks g1 87 [(2, .int t)] []) {g : AH} (E : x9_thinnest_j41_4 a0 a1 a2 a3 g = some (s9, g1)) : WW M G 5 Q kc ks g 41 [(0, .ref a0), (1, .int a1), (2, .int a2), (3, .int a3)] [] := by
  unfold x9_thinnest_j41_4 at E
  refine r_iconst X (v := 0) dX9_thinnest_41 (by decide) ?_
  exact r_pick (by rfl : lpick [(0, .ref a0), (1, .int a1), (2, .int a2), (3, .int a3)] [0, 1, 2, 3] = _) (t_x9_thinnest_j42_4 X hl0 hr hnm hc hx E)
set_option maxHeartbeats 4000000 in
set_option maxRecDepth 100000 in
theorem t_x9_thinnest_l4 {l : Launch} {G : GG} {M : MC} (X : CX M G cX9_thinnest 5 RX9 ⟨1, 0, 0, 60⟩) (hl0 : M.2.1 = l) (hr : (mM M).sig.returnType = (some .int)) (hnm : (mM M).name = yX9_thinnest.name) {Q : State → Prop} {kc ks : Nat} {s9 : ((Int32 × Int32) ⊕ (Int32))} {g1 : AH} {a0 : Nat} {a1 : Int32} {s0 : Int32 × Int32} (hc : ∀ s1, s9 = .inl s1 → WW M G 5 Q kc ks g1 4 [(0, .ref a0), (1, .int a1), (2, .int s1.1), (3, .int s1.2)] []) (hx : ∀ t, s9 = .inr t → WW M G 5 Q kc ks g1 87 [(2, .int t)] []) {g : AH} (E : x9_thinnest_l4 a0 a1 s0 g = some (s9, g1)) : WW M G 5 Q kc ks g 4 [(0, .ref a0), (1, .int a1), (2, .int s0.1), (3, .int s0.2)] [] := by
  unfold x9_thinnest_l4 at E
  refine r_iload_n X 3 dX9_thinnest_4 rfl rfl ?_
  refine r_aload_n X 0 dX9_thinnest_5 rfl rfl ?_
  obtain ⟨x1, e2, E⟩ := gb_some E
  refine r_getR X dX9_thinnest_6 f_X9_7 e2 ?_
  refine r_bipush X (v := 10) dX9_thinnest_9 (by decide) ?_
  obtain ⟨x3, e4, E⟩ := gb_some E
  refine r_iald X dX9_thinnest_11 e4 ?_
  refine r_icmp_ge X 87 dX9_thinnest_12 (by decide) (fun c5 => ?_) (fun c5 => ?_)
  · rw [if_pos c5] at E
    cases E
    exact r_pick (by rfl : lpick [(0, .ref a0), (1, .int a1), (2, .int s0.1), (3, .int s0.2)] [2] = _) (hx _ rfl)
  · rw [if_neg c5] at E
    refine r_aload_n X 0 dX9_thinnest_15 rfl rfl ?_
    obtain ⟨x6, e7, E⟩ := gb_some E
    refine r_getR X dX9_thinnest_16 f_X9_40 e7 ?_
    refine r_iload_n X 3 dX9_thinnest_19 rfl rfl ?_
    obtain ⟨x8, e9, E⟩ := gb_some E
    refine r_zald X dX9_thinnest_20 e9 ?_
    refine r_if_ne X 41 dX9_thinnest_21 (by decide) (fun c10 => ?_) (fun c10 => ?_)
    · rw [if_neg c10] at E
      exact r_pick (by rfl : lpick [(0, .ref a0), (1, .int a1), (2, .int s0.1), (3, .int s0.2)] [0, 1, 2, 3] = _) (t_x9_thinnest_j41_4 X hl0 hr hnm hc hx E)
    · rw [if_pos c10] at E
      refine r_aload_n X 0 dX9_thinnest_24 rfl rfl ?_
      obtain ⟨x11, e12, E⟩ := gb_some E
      refine r_getR X dX9_thinnest_25 f_X9_7 e12 ?_
      refine r_bipush X (v := 25) dX9_thinnest_28 (by decide) ?_
      refine r_iload_n X 3 dX9_thinnest_30 rfl rfl ?_
      refine r_iadd X dX9_thinnest_31 ?_
      obtain ⟨x13, e14, E⟩ := gb_some E
      refine r_iald X dX9_thinnest_32 e14 ?_
      refine r_iload_n X 1 dX9_thinnest_33 rfl rfl ?_
      refine r_icmp_lt X 41 dX9_thinnest_34 (by decide) (fun c15 => ?_) (fun c15 => ?_)
      · rw [if_pos c15] at E
        exact r_pick (by rfl : lpick [(0, .ref a0), (1, .int a1), (2, .int s0.1), (3, .int s0.2)] [0, 1, 2, 3] = _) (t_x9_thinnest_j41_4 X hl0 hr hnm hc hx E)
      · rw [if_neg c15] at E
        refine r_iconst X (v := 1) dX9_thinnest_37 (by decide) ?_
        refine r_goto X 42 dX9_thinnest_38 (by decide) ?_
        exact r_pick (by rfl : lpick [(0, .ref a0), (1, .int a1), (2, .int s0.1), (3, .int s0.2)] [0, 1, 2, 3] = _) (t_x9_thinnest_j42_4 X hl0 hr hnm hc hx E)
set_option maxHeartbeats 4000000 in
theorem t_x9_thinnest_l4_r {l : Launch} {G : GG} {M : MC} (X : CX M G cX9_thinnest 5 RX9 ⟨1, 0, 0, 60⟩) (hl0 : M.2.1 = l) (hr : (mM M).sig.returnType = (some .int)) (hnm : (mM M).name = yX9_thinnest.name) {Q : State → Prop} {kc ks : Nat} {a0 : Nat} {a1 : Int32} : ∀ (n : Nat) (s0 : Int32 × Int32) (g : AH) (t : (Int32)) (g1 : AH), loopX (x9_thinnest_l4 a0 a1) n s0 g = some (t, g1) → WW M G 5 Q kc ks g1 87 [(2, .int t)] [] → WW M G 5 Q kc ks g 4 [(0, .ref a0), (1, .int a1), (2, .int s0.1), (3, .int s0.2)] [] :=
  loop_cps (K := fun t g1 => WW M G 5 Q kc ks g1 87 [(2, .int t)] []) (fun _ s0 g => WW M G 5 Q kc ks g 4 [(0, .ref a0), (1, .int a1), (2, .int s0.1), (3, .int s0.2)] []) (fun n s0 g st g1 E hc hx => t_x9_thinnest_l4 X hl0 hr hnm hc hx E)
set_option maxHeartbeats 4000000 in
set_option maxRecDepth 100000 in
theorem t_x9_thinnest_b {l : Launch} {G : GG} {M : MC} (X : CX M G cX9_thinnest 5 RX9 ⟨1, 0, 0, 60⟩) (hl0 : M.2.1 = l) (hr : (mM M).sig.returnType = (some .int)) (hnm : (mM M).name = yX9_thinnest.name) {p : Nat} {b0 : Int32} {g : AH} {r : Int32} {g1 : AH} (E : x9_thinnest p b0 g = some (r, g1)) : WW M G 5 (RQ M G (some (.int r)) g1 0 0) 0 0 g 0 [(0, .ref p), (1, .int b0)] [] := by
  unfold x9_thinnest at E
  refine r_iconst X (v := (-1)) dX9_thinnest_0 (by decide) ?_
  refine r_istore_n X 2 (L1 := [(2, .int (-1)), (0, .ref p), (1, .int b0)]) dX9_thinnest_1 rfl (by decide) rfl ?_
  refine r_iconst X (v := 0) dX9_thinnest_2 (by decide) ?_
  refine r_istore_n X 3 (L1 := [(3, .int 0), (2, .int (-1)), (0, .ref p), (1, .int b0)]) dX9_thinnest_3 rfl (by decide) rfl ?_
  obtain ⟨t1, g2, e3, E⟩ := cb_some E
  refine r_pick (by rfl : lpick [(3, .int 0), (2, .int (-1)), (0, .ref p), (1, .int b0)] [2, 3, 1, 0] = _) (t_x9_thinnest_l4_r X hl0 hr hnm _ _ _ _ _ e3 ?_)
  refine r_iload_n X 2 dX9_thinnest_87 rfl rfl ?_
  cases E
  exact r_iret X hr dX9_thinnest_88 (by decide) (by decide)
theorem t_x9_thinnest {l : Launch} {G : GG} {p : Nat} {b0 : Int32} {g : AH} {r : Int32} {g1 : AH} (E : x9_thinnest p b0 g = some (r, g1)) : Ct l G yX9_thinnest cX9_thinnest 5 (some .int) ⟨1, 0, 0, 60⟩ [.ref p, .int b0] g (some (.int r)) g1 :=
  ct_of (L0 := [(0, .ref p), (1, .int b0)]) y_X9_thinnest rfl (Nat.le_of_ble_eq_true rfl) fun M hl0 X hr hnm => t_x9_thinnest_b X hl0 hr hnm E
set_option maxHeartbeats 4000000 in
set_option maxRecDepth 100000 in
theorem t_x9_give_j18 {l : Launch} {G : GG} {M : MC} (X : CX M G cX9_give 3 RX9 ⟨2, 0, 0, 84⟩) (hl0 : M.2.1 = l) (hr : (mM M).sig.returnType = (some .boolean)) (hnm : (mM M).name = yX9_give.name) {a2 : Int32} {g : AH} {r : Int32} {g1 : AH} (E : x9_give_j18 a2 g = some (r, g1)) : WW M G 3 (RQ M G (some (.int r)) g1 0 0) 0 0 g 18 [(2, .int a2)] [] := by
  unfold x9_give_j18 at E
  refine r_iload_n X 2 dX9_give_18 rfl rfl ?_
  refine r_iconst X (v := (-1)) dX9_give_19 (by decide) ?_
  refine r_icmp_eq X 27 dX9_give_20 (by decide) (fun c1 => ?_) (fun c1 => ?_)
  · rw [if_pos c1] at E
    refine r_iconst X (v := 0) dX9_give_27 (by decide) ?_
    cases E
    exact r_zret X hr (Or.inl rfl) dX9_give_28 (by decide) (by decide)
  · rw [if_neg c1] at E
    refine r_iconst X (v := 1) dX9_give_23 (by decide) ?_
    refine r_goto X 28 dX9_give_24 (by decide) ?_
    cases E
    exact r_zret X hr (Or.inr rfl) dX9_give_28 (by decide) (by decide)
set_option maxHeartbeats 4000000 in
set_option maxRecDepth 100000 in
theorem t_x9_give_b {l : Launch} {G : GG} {M : MC} (X : CX M G cX9_give 3 RX9 ⟨2, 0, 0, 84⟩) (hl0 : M.2.1 = l) (hr : (mM M).sig.returnType = (some .boolean)) (hnm : (mM M).name = yX9_give.name) {p : Nat} {b0 : Int32} {g : AH} {r : Int32} {g1 : AH} (E : x9_give p b0 g = some (r, g1)) : WW M G 3 (RQ M G (some (.int r)) g1 0 0) 0 0 g 0 [(0, .ref p), (1, .int b0)] [] := by
  unfold x9_give at E
  refine r_aload_n X 0 dX9_give_0 rfl rfl ?_
  refine r_iload_n X 1 dX9_give_1 rfl rfl ?_
  obtain ⟨u4, e5, E⟩ := gb_some E
  obtain ⟨r1, g2, e3, E⟩ := cb_some E
  refine r_callV0 X hl0 (ci := 9) dX9_give_2 y_X9_thinnest m_X9_360 rfl rfl e5 (t_x9_thinnest (l := l) (G := G) e3) rfl rfl (Nat.le_of_ble_eq_true rfl) (by decide) ?_
  refine r_istore_n X 2 (L1 := [(2, .int r1), (0, .ref p), (1, .int b0)]) dX9_give_5 rfl (by decide) rfl ?_
  refine r_iload_n X 2 dX9_give_6 rfl rfl ?_
  refine r_iconst X (v := (-1)) dX9_give_7 (by decide) ?_
  refine r_icmp_eq X 18 dX9_give_8 (by decide) (fun c6 => ?_) (fun c6 => ?_)
  · rw [if_pos c6] at E
    exact r_pick (by rfl : lpick [(2, .int r1), (0, .ref p), (1, .int b0)] [0] = _) (t_x9_give_j18 X hl0 hr hnm E)
  · rw [if_neg c6] at E
    refine r_aload_n X 0 dX9_give_11 rfl rfl ?_
    obtain ⟨x7, e8, E⟩ := gb_some E
    refine r_getR X dX9_give_12 f_X9_40 e8 ?_
    refine r_iload_n X 2 dX9_give_15 rfl rfl ?_
    refine r_iconst X (v := 1) dX9_give_16 (by decide) ?_
    obtain ⟨g9, e10, E⟩ := gb_some E
    refine r_zast X dX9_give_17 rfl e10 ?_
    exact r_pick (by rfl : lpick [(2, .int r1), (0, .ref p), (1, .int b0)] [0] = _) (t_x9_give_j18 X hl0 hr hnm E)
theorem t_x9_give {l : Launch} {G : GG} {p : Nat} {b0 : Int32} {g : AH} {r : Int32} {g1 : AH} (E : x9_give p b0 g = some (r, g1)) : Ct l G yX9_give cX9_give 3 (some .boolean) ⟨2, 0, 0, 84⟩ [.ref p, .int b0] g (some (.int r)) g1 :=
  ct_of (L0 := [(0, .ref p), (1, .int b0)]) y_X9_give rfl (Nat.le_of_ble_eq_true rfl) fun M hl0 X hr hnm => t_x9_give_b X hl0 hr hnm E
set_option maxHeartbeats 4000000 in
set_option maxRecDepth 100000 in
theorem t_x9_fewestCold_l7 {l : Launch} {G : GG} {M : MC} (X : CX M G cX9_fewestCold 4 RX9 ⟨5, 0, 0, 149⟩) (hl0 : M.2.1 = l) (hr : (mM M).sig.returnType = (some .int)) (hnm : (mM M).name = yX9_fewestCold.name) {Q : State → Prop} {kc ks : Nat} {s9 : ((Int32) ⊕ (Unit))} {g1 : AH} {a0 : Nat} {s0 : Int32} (hc : ∀ s1, s9 = .inl s1 → WW M G 4 Q kc ks g1 7 [(0, .ref a0), (1, .int s1)] []) (hx : ∀ t, s9 = .inr t → WW M G 4 Q kc ks g1 31 [(0, .ref a0)] []) {g : AH} (E : x9_fewestCold_l7 a0 s0 g = some (s9, g1)) : WW M G 4 Q kc ks g 7 [(0, .ref a0), (1, .int s0)] [] := by
  unfold x9_fewestCold_l7 at E
  refine r_iload_n X 1 dX9_fewestCold_7 rfl rfl ?_
  refine r_aload_n X 0 dX9_fewestCold_8 rfl rfl ?_
  obtain ⟨x1, e2, E⟩ := gb_some E
  refine r_getR X dX9_fewestCold_9 f_X9_7 e2 ?_
  refine r_bipush X (v := 10) dX9_fewestCold_12 (by decide) ?_
  obtain ⟨x3, e4, E⟩ := gb_some E
  refine r_iald X dX9_fewestCold_14 e4 ?_
  refine r_icmp_ge X 31 dX9_fewestCold_15 (by decide) (fun c5 => ?_) (fun c5 => ?_)
  · rw [if_pos c5] at E
    cases E
    exact r_pick (by rfl : lpick [(0, .ref a0), (1, .int s0)] [0] = _) (hx _ rfl)
  · rw [if_neg c5] at E
    refine r_aload_n X 0 dX9_fewestCold_18 rfl rfl ?_
    obtain ⟨x6, e7, E⟩ := gb_some E
    refine r_getR X dX9_fewestCold_19 f_X9_40 e7 ?_
    refine r_iload_n X 1 dX9_fewestCold_22 rfl rfl ?_
    refine r_iconst X (v := 0) dX9_fewestCold_23 (by decide) ?_
    obtain ⟨g8, e9, E⟩ := gb_some E
    refine r_zast X dX9_fewestCold_24 rfl e9 ?_
    refine r_iinc X (v := (s0 + 1)) (L1 := [(1, .int (s0 + 1)), (0, .ref a0)]) dX9_fewestCold_25 rfl rfl (by decide) rfl ?_
    refine r_goto X 7 dX9_fewestCold_28 (by decide) ?_
    cases E
    exact r_pick (by rfl : lpick [(1, .int (s0 + 1)), (0, .ref a0)] [1, 0] = _) (hc _ rfl)
set_option maxHeartbeats 4000000 in
theorem t_x9_fewestCold_l7_r {l : Launch} {G : GG} {M : MC} (X : CX M G cX9_fewestCold 4 RX9 ⟨5, 0, 0, 149⟩) (hl0 : M.2.1 = l) (hr : (mM M).sig.returnType = (some .int)) (hnm : (mM M).name = yX9_fewestCold.name) {Q : State → Prop} {kc ks : Nat} {a0 : Nat} : ∀ (n : Nat) (s0 : Int32) (g : AH) (t : (Unit)) (g1 : AH), loopX (x9_fewestCold_l7 a0) n s0 g = some (t, g1) → WW M G 4 Q kc ks g1 31 [(0, .ref a0)] [] → WW M G 4 Q kc ks g 7 [(0, .ref a0), (1, .int s0)] [] :=
  loop_cps (K := fun t g1 => WW M G 4 Q kc ks g1 31 [(0, .ref a0)] []) (fun _ s0 g => WW M G 4 Q kc ks g 7 [(0, .ref a0), (1, .int s0)] []) (fun n s0 g st g1 E hc hx => t_x9_fewestCold_l7 X hl0 hr hnm hc hx E)
set_option maxHeartbeats 4000000 in
set_option maxRecDepth 100000 in
theorem t_x9_fewestCold_j86_43 {l : Launch} {G : GG} {M : MC} (X : CX M G cX9_fewestCold 4 RX9 ⟨5, 0, 0, 149⟩) (hl0 : M.2.1 = l) (hr : (mM M).sig.returnType = (some .int)) (hnm : (mM M).name = yX9_fewestCold.name) {Q : State → Prop} {kc ks : Nat} {s9 : ((Int32 × Int32) ⊕ (Int32))} {g1 : AH} {a0 : Nat} {a1 : Int32} {a2 : Int32} {a3 : Int32} (hc : ∀ s1, s9 = .inl s1 → WW M G 4 Q kc ks g1 43 [(0, .ref a0), (1, .int s1.1), (2, .int a2), (3, .int s1.2)] []) (hx : ∀ t, s9 = .inr t → WW M G 4 Q kc ks g1 92 [(0, .ref a0), (1, .int t), (2, .int a2)] []) {g : AH} (E : x9_fewestCold_j86_43 a0 a1 a2 a3 g = some (s9, g1)) : WW M G 4 Q kc ks g 86 [(0, .ref a0), (1, .int a1), (2, .int a2), (3, .int a3)] [] := by
  unfold x9_fewestCold_j86_43 at E
  refine r_iinc X (v := (a3 + 1)) (L1 := [(3, .int (a3 + 1)), (0, .ref a0), (1, .int a1), (2, .int a2)]) dX9_fewestCold_86 rfl rfl (by decide) rfl ?_
  refine r_goto X 43 dX9_fewestCold_89 (by decide) ?_
  cases E
  exact r_pick (by rfl : lpick [(3, .int (a3 + 1)), (0, .ref a0), (1, .int a1), (2, .int a2)] [1, 2, 3, 0] = _) (hc _ rfl)
set_option maxHeartbeats 4000000 in
set_option maxRecDepth 100000 in
theorem t_x9_fewestCold_j84_43 {l : Launch} {G : GG} {M : MC} (X : CX M G cX9_fewestCold 4 RX9 ⟨5, 0, 0, 149⟩) (hl0 : M.2.1 = l) (hr : (mM M).sig.returnType = (some .int)) (hnm : (mM M).name = yX9_fewestCold.name) {Q : State → Prop} {kc ks : Nat} {s9 : ((Int32 × Int32) ⊕ (Int32))} {g1 : AH} {a0 : Nat} {a2 : Int32} {a3 : Int32} {s0 : Int32} {s1 : Int32} (hc : ∀ s1, s9 = .inl s1 → WW M G 4 Q kc ks g1 43 [(0, .ref a0), (1, .int s1.1), (2, .int a2), (3, .int s1.2)] []) (hx : ∀ t, s9 = .inr t → WW M G 4 Q kc ks g1 92 [(0, .ref a0), (1, .int t), (2, .int a2)] []) {g : AH} (E : x9_fewestCold_j84_43 a0 a2 a3 s0 s1 g = some (s9, g1)) : WW M G 4 Q kc ks g 84 [(0, .ref a0), (2, .int a2), (3, .int a3)] [.int s0, .int s1] := by
  unfold x9_fewestCold_j84_43 at E
  refine r_iadd X dX9_fewestCold_84 ?_
  refine r_istore_n X 1 (L1 := [(1, .int (s1 + s0)), (0, .ref a0), (2, .int a2), (3, .int a3)]) dX9_fewestCold_85 rfl (by decide) rfl ?_
  exact r_pick (by rfl : lpick [(1, .int (s1 + s0)), (0, .ref a0), (2, .int a2), (3, .int a3)] [1, 0, 2, 3] = _) (t_x9_fewestCold_j86_43 X hl0 hr hnm hc hx E)
set_option maxHeartbeats 4000000 in
set_option maxRecDepth 100000 in
theorem t_x9_fewestCold_l43 {l : Launch} {G : GG} {M : MC} (X : CX M G cX9_fewestCold 4 RX9 ⟨5, 0, 0, 149⟩) (hl0 : M.2.1 = l) (hr : (mM M).sig.returnType = (some .int)) (hnm : (mM M).name = yX9_fewestCold.name) {Q : State → Prop} {kc ks : Nat} {s9 : ((Int32 × Int32) ⊕ (Int32))} {g1 : AH} {a0 : Nat} {a2 : Int32} {s0 : Int32 × Int32} (hc : ∀ s1, s9 = .inl s1 → WW M G 4 Q kc ks g1 43 [(0, .ref a0), (1, .int s1.1), (2, .int a2), (3, .int s1.2)] []) (hx : ∀ t, s9 = .inr t → WW M G 4 Q kc ks g1 92 [(0, .ref a0), (1, .int t), (2, .int a2)] []) {g : AH} (E : x9_fewestCold_l43 a0 a2 s0 g = some (s9, g1)) : WW M G 4 Q kc ks g 43 [(0, .ref a0), (1, .int s0.1), (2, .int a2), (3, .int s0.2)] [] := by
  unfold x9_fewestCold_l43 at E
  refine r_iload_n X 3 dX9_fewestCold_43 rfl rfl ?_
  refine r_aload_n X 0 dX9_fewestCold_44 rfl rfl ?_
  obtain ⟨x1, e2, E⟩ := gb_some E
  refine r_getR X dX9_fewestCold_45 f_X9_7 e2 ?_
  refine r_bipush X (v := 12) dX9_fewestCold_48 (by decide) ?_
  obtain ⟨x3, e4, E⟩ := gb_some E
  refine r_iald X dX9_fewestCold_50 e4 ?_
  refine r_icmp_ge X 92 dX9_fewestCold_51 (by decide) (fun c5 => ?_) (fun c5 => ?_)
  · rw [if_pos c5] at E
    cases E
    exact r_pick (by rfl : lpick [(0, .ref a0), (1, .int s0.1), (2, .int a2), (3, .int s0.2)] [0, 1, 2] = _) (hx _ rfl)
  · rw [if_neg c5] at E
    refine r_aload_n X 0 dX9_fewestCold_54 rfl rfl ?_
    refine r_iload_n X 3 dX9_fewestCold_55 rfl rfl ?_
    refine r_iconst X (v := 0) dX9_fewestCold_56 (by decide) ?_
    obtain ⟨u9, e10, E⟩ := gb_some E
    obtain ⟨r6, g7, e8, E⟩ := cb_some E
    refine r_callV0 X hl0 (ci := 9) dX9_fewestCold_57 y_X9_get m_X9_64 rfl rfl e10 (t_x9_get (l := l) (G := G) e8) rfl rfl (Nat.le_of_ble_eq_true rfl) (by decide) ?_
    refine r_aload_n X 0 dX9_fewestCold_60 rfl rfl ?_
    refine r_iload_n X 3 dX9_fewestCold_61 rfl rfl ?_
    obtain ⟨u14, e15, E⟩ := gb_some E
    obtain ⟨r11, g12, e13, E⟩ := cb_some E
    refine r_callV0 X hl0 (ci := 9) dX9_fewestCold_62 y_X9_warmthBare m_X9_87 rfl rfl e15 (t_x9_warmthBare (l := l) (G := G) e13) rfl rfl (Nat.le_of_ble_eq_true rfl) (by decide) ?_
    refine r_isub X dX9_fewestCold_65 ?_
    refine r_iload_n X 2 dX9_fewestCold_66 rfl rfl ?_
    refine r_icmp_ne X 86 dX9_fewestCold_67 (by decide) (fun c16 => ?_) (fun c16 => ?_)
    · rw [if_neg c16] at E
      exact r_pick (by rfl : lpick [(0, .ref a0), (1, .int s0.1), (2, .int a2), (3, .int s0.2)] [0, 1, 2, 3] = _) (t_x9_fewestCold_j86_43 X hl0 hr hnm hc hx E)
    · rw [if_pos c16] at E
      refine r_iload_n X 1 dX9_fewestCold_70 rfl rfl ?_
      refine r_aload_n X 0 dX9_fewestCold_71 rfl rfl ?_
      refine r_iload_n X 2 dX9_fewestCold_72 rfl rfl ?_
      obtain ⟨u20, e21, E⟩ := gb_some E
      obtain ⟨r17, g18, e19, E⟩ := cb_some E
      refine r_callV0 X hl0 (ci := 9) dX9_fewestCold_73 y_X9_give m_X9_363 rfl rfl e21 (t_x9_give (l := l) (G := G) e19) rfl rfl (Nat.le_of_ble_eq_true rfl) (by decide) ?_
      refine r_if_eq X 83 dX9_fewestCold_76 (by decide) (fun c22 => ?_) (fun c22 => ?_)
      · rw [if_pos c22] at E
        refine r_iconst X (v := 1) dX9_fewestCold_83 (by decide) ?_
        exact r_pick (by rfl : lpick [(0, .ref a0), (1, .int s0.1), (2, .int a2), (3, .int s0.2)] [0, 2, 3] = _) (t_x9_fewestCold_j84_43 X hl0 hr hnm hc hx E)
      · rw [if_neg c22] at E
        refine r_iconst X (v := 0) dX9_fewestCold_79 (by decide) ?_
        refine r_goto X 84 dX9_fewestCold_80 (by decide) ?_
        exact r_pick (by rfl : lpick [(0, .ref a0), (1, .int s0.1), (2, .int a2), (3, .int s0.2)] [0, 2, 3] = _) (t_x9_fewestCold_j84_43 X hl0 hr hnm hc hx E)
set_option maxHeartbeats 4000000 in
theorem t_x9_fewestCold_l43_r {l : Launch} {G : GG} {M : MC} (X : CX M G cX9_fewestCold 4 RX9 ⟨5, 0, 0, 149⟩) (hl0 : M.2.1 = l) (hr : (mM M).sig.returnType = (some .int)) (hnm : (mM M).name = yX9_fewestCold.name) {Q : State → Prop} {kc ks : Nat} {a0 : Nat} {a2 : Int32} : ∀ (n : Nat) (s0 : Int32 × Int32) (g : AH) (t : (Int32)) (g1 : AH), loopX (x9_fewestCold_l43 a0 a2) n s0 g = some (t, g1) → WW M G 4 Q kc ks g1 92 [(0, .ref a0), (1, .int t), (2, .int a2)] [] → WW M G 4 Q kc ks g 43 [(0, .ref a0), (1, .int s0.1), (2, .int a2), (3, .int s0.2)] [] :=
  loop_cps (K := fun t g1 => WW M G 4 Q kc ks g1 92 [(0, .ref a0), (1, .int t), (2, .int a2)] []) (fun _ s0 g => WW M G 4 Q kc ks g 43 [(0, .ref a0), (1, .int s0.1), (2, .int a2), (3, .int s0.2)] []) (fun n s0 g st g1 E hc hx => t_x9_fewestCold_l43 X hl0 hr hnm hc hx E)
set_option maxHeartbeats 4000000 in
set_option maxRecDepth 100000 in
theorem t_x9_fewestCold_l35 {l : Launch} {G : GG} {M : MC} (X : CX M G cX9_fewestCold 4 RX9 ⟨5, 0, 0, 149⟩) (hl0 : M.2.1 = l) (hr : (mM M).sig.returnType = (some .int)) (hnm : (mM M).name = yX9_fewestCold.name) {Q : State → Prop} {kc ks : Nat} {s9 : ((Int32 × Int32) ⊕ (Int32))} {g1 : AH} {a0 : Nat} {s0 : Int32 × Int32} (hc : ∀ s1, s9 = .inl s1 → WW M G 4 Q kc ks g1 35 [(0, .ref a0), (1, .int s1.1), (2, .int s1.2)] []) (hx : ∀ t, s9 = .inr t → WW M G 4 Q kc ks g1 98 [(1, .int t)] []) {g : AH} (E : x9_fewestCold_l35 a0 s0 g = some (s9, g1)) : WW M G 4 Q kc ks g 35 [(0, .ref a0), (1, .int s0.1), (2, .int s0.2)] [] := by
  unfold x9_fewestCold_l35 at E
  refine r_iload_n X 2 dX9_fewestCold_35 rfl rfl ?_
  refine r_bipush X (v := 30) dX9_fewestCold_36 (by decide) ?_
  refine r_icmp_gt X 98 dX9_fewestCold_38 (by decide) (fun c1 => ?_) (fun c1 => ?_)
  · rw [if_pos c1] at E
    cases E
    exact r_pick (by rfl : lpick [(0, .ref a0), (1, .int s0.1), (2, .int s0.2)] [1] = _) (hx _ rfl)
  · rw [if_neg c1] at E
    refine r_iconst X (v := 0) dX9_fewestCold_41 (by decide) ?_
    refine r_istore_n X 3 (L1 := [(3, .int 0), (0, .ref a0), (1, .int s0.1), (2, .int s0.2)]) dX9_fewestCold_42 rfl (by decide) rfl ?_
    obtain ⟨t2, g3, e4, E⟩ := cb_some E
    refine r_pick (by rfl : lpick [(3, .int 0), (0, .ref a0), (1, .int s0.1), (2, .int s0.2)] [1, 2, 3, 0] = _) (t_x9_fewestCold_l43_r X hl0 hr hnm _ _ _ _ _ e4 ?_)
    refine r_iinc X (v := (s0.2 + 1)) (L1 := [(2, .int (s0.2 + 1)), (0, .ref a0), (1, .int t2)]) dX9_fewestCold_92 rfl rfl (by decide) rfl ?_
    refine r_goto X 35 dX9_fewestCold_95 (by decide) ?_
    cases E
    exact r_pick (by rfl : lpick [(2, .int (s0.2 + 1)), (0, .ref a0), (1, .int t2)] [1, 2, 0] = _) (hc _ rfl)
set_option maxHeartbeats 4000000 in
theorem t_x9_fewestCold_l35_r {l : Launch} {G : GG} {M : MC} (X : CX M G cX9_fewestCold 4 RX9 ⟨5, 0, 0, 149⟩) (hl0 : M.2.1 = l) (hr : (mM M).sig.returnType = (some .int)) (hnm : (mM M).name = yX9_fewestCold.name) {Q : State → Prop} {kc ks : Nat} {a0 : Nat} : ∀ (n : Nat) (s0 : Int32 × Int32) (g : AH) (t : (Int32)) (g1 : AH), loopX (x9_fewestCold_l35 a0) n s0 g = some (t, g1) → WW M G 4 Q kc ks g1 98 [(1, .int t)] [] → WW M G 4 Q kc ks g 35 [(0, .ref a0), (1, .int s0.1), (2, .int s0.2)] [] :=
  loop_cps (K := fun t g1 => WW M G 4 Q kc ks g1 98 [(1, .int t)] []) (fun _ s0 g => WW M G 4 Q kc ks g 35 [(0, .ref a0), (1, .int s0.1), (2, .int s0.2)] []) (fun n s0 g st g1 E hc hx => t_x9_fewestCold_l35 X hl0 hr hnm hc hx E)
set_option maxHeartbeats 4000000 in
set_option maxRecDepth 100000 in
theorem t_x9_fewestCold_b {l : Launch} {G : GG} {M : MC} (X : CX M G cX9_fewestCold 4 RX9 ⟨5, 0, 0, 149⟩) (hl0 : M.2.1 = l) (hr : (mM M).sig.returnType = (some .int)) (hnm : (mM M).name = yX9_fewestCold.name) {p : Nat} {g : AH} {r : Int32} {g1 : AH} (E : x9_fewestCold p g = some (r, g1)) : WW M G 4 (RQ M G (some (.int r)) g1 0 0) 0 0 g 0 [(0, .ref p)] [] := by
  unfold x9_fewestCold at E
  refine r_aload_n X 0 dX9_fewestCold_0 rfl rfl ?_
  refine r_iconst X (v := 0) dX9_fewestCold_1 (by decide) ?_
  obtain ⟨g1, e2, E⟩ := gb_some E
  refine r_put X dX9_fewestCold_2 f_X9_57 rfl rfl e2 ?_
  refine r_iconst X (v := 0) dX9_fewestCold_5 (by decide) ?_
  refine r_istore_n X 1 (L1 := [(1, .int 0), (0, .ref p)]) dX9_fewestCold_6 rfl (by decide) rfl ?_
  obtain ⟨t3, g4, e5, E⟩ := cb_some E
  refine r_pick (by rfl : lpick [(1, .int 0), (0, .ref p)] [1, 0] = _) (t_x9_fewestCold_l7_r X hl0 hr hnm _ _ _ _ _ e5 ?_)
  refine r_iconst X (v := 0) dX9_fewestCold_31 (by decide) ?_
  refine r_istore_n X 1 (L1 := [(1, .int 0), (0, .ref p)]) dX9_fewestCold_32 rfl (by decide) rfl ?_
  refine r_iconst X (v := 1) dX9_fewestCold_33 (by decide) ?_
  refine r_istore_n X 2 (L1 := [(2, .int 1), (1, .int 0), (0, .ref p)]) dX9_fewestCold_34 rfl (by decide) rfl ?_
  obtain ⟨t6, g7, e8, E⟩ := cb_some E
  refine r_pick (by rfl : lpick [(2, .int 1), (1, .int 0), (0, .ref p)] [2, 1, 0] = _) (t_x9_fewestCold_l35_r X hl0 hr hnm _ _ _ _ _ e8 ?_)
  refine r_iload_n X 1 dX9_fewestCold_98 rfl rfl ?_
  cases E
  exact r_iret X hr dX9_fewestCold_99 (by decide) (by decide)
theorem t_x9_fewestCold {l : Launch} {G : GG} {p : Nat} {g : AH} {r : Int32} {g1 : AH} (E : x9_fewestCold p g = some (r, g1)) : Ct l G yX9_fewestCold cX9_fewestCold 4 (some .int) ⟨5, 0, 0, 149⟩ [.ref p] g (some (.int r)) g1 :=
  ct_of (L0 := [(0, .ref p)]) y_X9_fewestCold rfl (Nat.le_of_ble_eq_true rfl) fun M hl0 X hr hnm => t_x9_fewestCold_b X hl0 hr hnm E
set_option maxHeartbeats 4000000 in
set_option maxRecDepth 100000 in
theorem t_x9_coldBehind_b {l : Launch} {G : GG} {M : MC} (X : CX M G cX9_coldBehind 3 RX9 ⟨11, 0, 0, 278⟩) (hl0 : M.2.1 = l) (hr : (mM M).sig.returnType = (some .int)) (hnm : (mM M).name = yX9_coldBehind.name) {p : Nat} {b0 : Int32} {b1 : Int32} {g : AH} {r : Int32} {g1 : AH} (E : x9_coldBehind p b0 b1 g = some (r, g1)) : WW M G 3 (RQ M G (some (.int r)) g1 0 0) 0 0 g 0 [(0, .ref p), (1, .int b0), (2, .int b1)] [] := by
  unfold x9_coldBehind at E
  refine r_aload_n X 0 dX9_coldBehind_0 rfl rfl ?_
  refine r_iload_n X 1 dX9_coldBehind_1 rfl rfl ?_
  refine r_iload_n X 2 dX9_coldBehind_2 rfl rfl ?_
  obtain ⟨u4, e5, E⟩ := gb_some E
  obtain ⟨r1, g2, e3, E⟩ := cb_some E
  refine r_callV0 X hl0 (ci := 9) dX9_coldBehind_3 y_X9_exchange m_X9_366 rfl rfl e5 (t_x9_exchange (l := l) (G := G) e3) rfl rfl (Nat.le_of_ble_eq_true rfl) (by decide) ?_
  refine r_aload_n X 0 dX9_coldBehind_6 rfl rfl ?_
  refine r_iconst X (v := 0) dX9_coldBehind_7 (by decide) ?_
  obtain ⟨u9, e10, E⟩ := gb_some E
  obtain ⟨r6, g7, e8, E⟩ := cb_some E
  refine r_callV0 X hl0 (ci := 9) dX9_coldBehind_8 y_X9_countDeed m_X9_318 rfl rfl e10 (t_x9_countDeed (l := l) (G := G) e8) rfl rfl (Nat.le_of_ble_eq_true rfl) (by decide) ?_
  cases E
  exact r_iret X hr dX9_coldBehind_11 (by decide) (by decide)
theorem t_x9_coldBehind {l : Launch} {G : GG} {p : Nat} {b0 : Int32} {b1 : Int32} {g : AH} {r : Int32} {g1 : AH} (E : x9_coldBehind p b0 b1 g = some (r, g1)) : Ct l G yX9_coldBehind cX9_coldBehind 3 (some .int) ⟨11, 0, 0, 278⟩ [.ref p, .int b0, .int b1] g (some (.int r)) g1 :=
  ct_of (L0 := [(0, .ref p), (1, .int b0), (2, .int b1)]) y_X9_coldBehind rfl (Nat.le_of_ble_eq_true rfl) fun M hl0 X hr hnm => t_x9_coldBehind_b X hl0 hr hnm E
set_option maxHeartbeats 4000000 in
set_option maxRecDepth 100000 in
theorem t_x9_bestExchange_j77_31 {l : Launch} {G : GG} {M : MC} (X : CX M G cX9_bestExchange 6 RX9 ⟨12, 0, 0, 300⟩) (hl0 : M.2.1 = l) (hr : (mM M).sig.returnType = (some .int)) (hnm : (mM M).name = yX9_bestExchange.name) {Q : State → Prop} {kc ks : Nat} {s9 : ((Int32 × Int32 × Int32) ⊕ (Int32 × Int32))} {g1 : AH} {a0 : Nat} {a2 : Int32} {a3 : Int32} {a4 : Int32} {a5 : Int32} {s0 : Int32} (hc : ∀ s1, s9 = .inl s1 → WW M G 6 Q kc ks g1 31 [(0, .ref a0), (1, .int s1.1), (2, .int s1.2.1), (3, .int a3), (4, .int s1.2.2)] []) (hx : ∀ t, s9 = .inr t → WW M G 6 Q kc ks g1 91 [(0, .ref a0), (1, .int t.1), (2, .int t.2), (3, .int a3)] []) {g : AH} (E : x9_bestExchange_j77_31 a0 a2 a3 a4 a5 s0 g = some (s9, g1)) : WW M G 6 Q kc ks g 77 [(0, .ref a0), (2, .int a2), (3, .int a3), (4, .int a4), (5, .int a5)] [.int s0] := by
  unfold x9_bestExchange_j77_31 at E
  refine r_istore_n X 1 (L1 := [(1, .int s0), (0, .ref a0), (2, .int a2), (3, .int a3), (4, .int a4), (5, .int a5)]) dX9_bestExchange_77 rfl (by decide) rfl ?_
  refine r_iload_n X 2 dX9_bestExchange_78 rfl rfl ?_
  refine r_iload X dX9_bestExchange_79 rfl ?_
  refine r_min X dX9_bestExchange_81 m_X9_108m (by decide) (Nat.le_of_ble_eq_true rfl) ?_
  refine r_istore_n X 2 (L1 := [(2, .int (if a5 < a2 then a5 else a2)), (1, .int s0), (0, .ref a0), (3, .int a3), (4, .int a4), (5, .int a5)]) dX9_bestExchange_84 rfl (by decide) rfl ?_
  refine r_iinc X (v := (a4 + 1)) (L1 := [(4, .int (a4 + 1)), (2, .int (if a5 < a2 then a5 else a2)), (1, .int s0), (0, .ref a0), (3, .int a3), (5, .int a5)]) dX9_bestExchange_85 rfl rfl (by decide) rfl ?_
  refine r_goto X 31 dX9_bestExchange_88 (by decide) ?_
  cases E
  exact r_pick (by rfl : lpick [(4, .int (a4 + 1)), (2, .int (if a5 < a2 then a5 else a2)), (1, .int s0), (0, .ref a0), (3, .int a3), (5, .int a5)] [3, 2, 1, 4, 0] = _) (hc _ rfl)
set_option maxHeartbeats 4000000 in
set_option maxRecDepth 100000 in
theorem t_x9_bestExchange_l31 {l : Launch} {G : GG} {M : MC} (X : CX M G cX9_bestExchange 6 RX9 ⟨12, 0, 0, 300⟩) (hl0 : M.2.1 = l) (hr : (mM M).sig.returnType = (some .int)) (hnm : (mM M).name = yX9_bestExchange.name) {Q : State → Prop} {kc ks : Nat} {s9 : ((Int32 × Int32 × Int32) ⊕ (Int32 × Int32))} {g1 : AH} {a0 : Nat} {a3 : Int32} {s0 : Int32 × Int32 × Int32} (hc : ∀ s1, s9 = .inl s1 → WW M G 6 Q kc ks g1 31 [(0, .ref a0), (1, .int s1.1), (2, .int s1.2.1), (3, .int a3), (4, .int s1.2.2)] []) (hx : ∀ t, s9 = .inr t → WW M G 6 Q kc ks g1 91 [(0, .ref a0), (1, .int t.1), (2, .int t.2), (3, .int a3)] []) {g : AH} (E : x9_bestExchange_l31 a0 a3 s0 g = some (s9, g1)) : WW M G 6 Q kc ks g 31 [(0, .ref a0), (1, .int s0.1), (2, .int s0.2.1), (3, .int a3), (4, .int s0.2.2)] [] := by
  unfold x9_bestExchange_l31 at E
  refine r_iload X dX9_bestExchange_31 rfl ?_
  refine r_aload_n X 0 dX9_bestExchange_33 rfl rfl ?_
  obtain ⟨x1, e2, E⟩ := gb_some E
  refine r_getR X dX9_bestExchange_34 f_X9_7 e2 ?_
  refine r_bipush X (v := 12) dX9_bestExchange_37 (by decide) ?_
  obtain ⟨x3, e4, E⟩ := gb_some E
  refine r_iald X dX9_bestExchange_39 e4 ?_
  refine r_icmp_ge X 91 dX9_bestExchange_40 (by decide) (fun c5 => ?_) (fun c5 => ?_)
  · rw [if_pos c5] at E
    cases E
    exact r_pick (by rfl : lpick [(0, .ref a0), (1, .int s0.1), (2, .int s0.2.1), (3, .int a3), (4, .int s0.2.2)] [0, 1, 2, 3] = _) (hx _ rfl)
  · rw [if_neg c5] at E
    refine r_aload_n X 0 dX9_bestExchange_43 rfl rfl ?_
    obtain ⟨u9, e10, E⟩ := gb_some E
    obtain ⟨r6, g7, e8, E⟩ := cb_some E
    refine r_callV0 X hl0 (ci := 9) dX9_bestExchange_44 y_X9_goAside m_X9_229 rfl rfl e10 (t_x9_goAside (l := l) (G := G) e8) rfl rfl (Nat.le_of_ble_eq_true rfl) (by decide) ?_
    refine r_aload_n X 0 dX9_bestExchange_47 rfl rfl ?_
    refine r_aload_n X 0 dX9_bestExchange_48 rfl rfl ?_
    refine r_iload_n X 3 dX9_bestExchange_49 rfl rfl ?_
    refine r_iload X dX9_bestExchange_50 rfl ?_
    obtain ⟨u14, e15, E⟩ := gb_some E
    obtain ⟨r11, g12, e13, E⟩ := cb_some E
    refine r_callV0 X hl0 (ci := 9) dX9_bestExchange_52 y_X9_coldBehind m_X9_370 rfl rfl e15 (t_x9_coldBehind (l := l) (G := G) e13) rfl rfl (Nat.le_of_ble_eq_true rfl) (by decide) ?_
    obtain ⟨u19, e20, E⟩ := gb_some E
    obtain ⟨r16, g17, e18, E⟩ := cb_some E
    refine r_callV0 X hl0 (ci := 9) dX9_bestExchange_55 y_X9_comeBack m_X9_238 rfl rfl e20 (t_x9_comeBack (l := l) (G := G) e18) rfl rfl (Nat.le_of_ble_eq_true rfl) (by decide) ?_
    refine r_istore X (L1 := [(5, .int r16), (0, .ref a0), (1, .int s0.1), (2, .int s0.2.1), (3, .int a3), (4, .int s0.2.2)]) dX9_bestExchange_58 (by decide) rfl ?_
    refine r_iload X dX9_bestExchange_60 rfl ?_
    refine r_iload_n X 2 dX9_bestExchange_62 rfl rfl ?_
    refine r_icmp_ge X 76 dX9_bestExchange_63 (by decide) (fun c21 => ?_) (fun c21 => ?_)
    · rw [if_pos c21] at E
      refine r_iload_n X 1 dX9_bestExchange_76 rfl rfl ?_
      exact r_pick (by rfl : lpick [(5, .int r16), (0, .ref a0), (1, .int s0.1), (2, .int s0.2.1), (3, .int a3), (4, .int s0.2.2)] [1, 3, 4, 5, 0] = _) (t_x9_bestExchange_j77_31 X hl0 hr hnm hc hx E)
    · rw [if_neg c21] at E
      refine r_bipush X (v := 10) dX9_bestExchange_66 (by decide) ?_
      refine r_iload_n X 3 dX9_bestExchange_68 rfl rfl ?_
      refine r_imul X dX9_bestExchange_69 ?_
      refine r_iload X dX9_bestExchange_70 rfl ?_
      refine r_iadd X dX9_bestExchange_72 ?_
      refine r_goto X 77 dX9_bestExchange_73 (by decide) ?_
      exact r_pick (by rfl : lpick [(5, .int r16), (0, .ref a0), (1, .int s0.1), (2, .int s0.2.1), (3, .int a3), (4, .int s0.2.2)] [1, 3, 4, 5, 0] = _) (t_x9_bestExchange_j77_31 X hl0 hr hnm hc hx E)
set_option maxHeartbeats 4000000 in
theorem t_x9_bestExchange_l31_r {l : Launch} {G : GG} {M : MC} (X : CX M G cX9_bestExchange 6 RX9 ⟨12, 0, 0, 300⟩) (hl0 : M.2.1 = l) (hr : (mM M).sig.returnType = (some .int)) (hnm : (mM M).name = yX9_bestExchange.name) {Q : State → Prop} {kc ks : Nat} {a0 : Nat} {a3 : Int32} : ∀ (n : Nat) (s0 : Int32 × Int32 × Int32) (g : AH) (t : (Int32 × Int32)) (g1 : AH), loopX (x9_bestExchange_l31 a0 a3) n s0 g = some (t, g1) → WW M G 6 Q kc ks g1 91 [(0, .ref a0), (1, .int t.1), (2, .int t.2), (3, .int a3)] [] → WW M G 6 Q kc ks g 31 [(0, .ref a0), (1, .int s0.1), (2, .int s0.2.1), (3, .int a3), (4, .int s0.2.2)] [] :=
  loop_cps (K := fun t g1 => WW M G 6 Q kc ks g1 91 [(0, .ref a0), (1, .int t.1), (2, .int t.2), (3, .int a3)] []) (fun _ s0 g => WW M G 6 Q kc ks g 31 [(0, .ref a0), (1, .int s0.1), (2, .int s0.2.1), (3, .int a3), (4, .int s0.2.2)] []) (fun n s0 g st g1 E hc hx => t_x9_bestExchange_l31 X hl0 hr hnm hc hx E)
set_option maxHeartbeats 4000000 in
set_option maxRecDepth 100000 in
theorem t_x9_bestExchange_l15 {l : Launch} {G : GG} {M : MC} (X : CX M G cX9_bestExchange 6 RX9 ⟨12, 0, 0, 300⟩) (hl0 : M.2.1 = l) (hr : (mM M).sig.returnType = (some .int)) (hnm : (mM M).name = yX9_bestExchange.name) {Q : State → Prop} {kc ks : Nat} {s9 : ((Int32 × Int32 × Int32) ⊕ (Int32))} {g1 : AH} {a0 : Nat} {s0 : Int32 × Int32 × Int32} (hc : ∀ s1, s9 = .inl s1 → WW M G 6 Q kc ks g1 15 [(0, .ref a0), (1, .int s1.1), (2, .int s1.2.1), (3, .int s1.2.2)] []) (hx : ∀ t, s9 = .inr t → WW M G 6 Q kc ks g1 97 [(1, .int t)] []) {g : AH} (E : x9_bestExchange_l15 a0 s0 g = some (s9, g1)) : WW M G 6 Q kc ks g 15 [(0, .ref a0), (1, .int s0.1), (2, .int s0.2.1), (3, .int s0.2.2)] [] := by
  unfold x9_bestExchange_l15 at E
  refine r_iload_n X 3 dX9_bestExchange_15 rfl rfl ?_
  refine r_aload_n X 0 dX9_bestExchange_16 rfl rfl ?_
  obtain ⟨x1, e2, E⟩ := gb_some E
  refine r_getR X dX9_bestExchange_17 f_X9_7 e2 ?_
  refine r_bipush X (v := 12) dX9_bestExchange_20 (by decide) ?_
  obtain ⟨x3, e4, E⟩ := gb_some E
  refine r_iald X dX9_bestExchange_22 e4 ?_
  refine r_icmp_ge X 97 dX9_bestExchange_23 (by decide) (fun c5 => ?_) (fun c5 => ?_)
  · rw [if_pos c5] at E
    cases E
    exact r_pick (by rfl : lpick [(0, .ref a0), (1, .int s0.1), (2, .int s0.2.1), (3, .int s0.2.2)] [1] = _) (hx _ rfl)
  · rw [if_neg c5] at E
    refine r_iload_n X 3 dX9_bestExchange_26 rfl rfl ?_
    refine r_iconst X (v := 1) dX9_bestExchange_27 (by decide) ?_
    refine r_iadd X dX9_bestExchange_28 ?_
    refine r_istore X (L1 := [(4, .int (s0.2.2 + 1)), (0, .ref a0), (1, .int s0.1), (2, .int s0.2.1), (3, .int s0.2.2)]) dX9_bestExchange_29 (by decide) rfl ?_
    obtain ⟨t6, g7, e8, E⟩ := cb_some E
    refine r_pick (by rfl : lpick [(4, .int (s0.2.2 + 1)), (0, .ref a0), (1, .int s0.1), (2, .int s0.2.1), (3, .int s0.2.2)] [1, 2, 3, 4, 0] = _) (t_x9_bestExchange_l31_r X hl0 hr hnm _ _ _ _ _ e8 ?_)
    refine r_iinc X (v := (s0.2.2 + 1)) (L1 := [(3, .int (s0.2.2 + 1)), (0, .ref a0), (1, .int t6.1), (2, .int t6.2)]) dX9_bestExchange_91 rfl rfl (by decide) rfl ?_
    refine r_goto X 15 dX9_bestExchange_94 (by decide) ?_
    cases E
    exact r_pick (by rfl : lpick [(3, .int (s0.2.2 + 1)), (0, .ref a0), (1, .int t6.1), (2, .int t6.2)] [1, 2, 3, 0] = _) (hc _ rfl)
set_option maxHeartbeats 4000000 in
theorem t_x9_bestExchange_l15_r {l : Launch} {G : GG} {M : MC} (X : CX M G cX9_bestExchange 6 RX9 ⟨12, 0, 0, 300⟩) (hl0 : M.2.1 = l) (hr : (mM M).sig.returnType = (some .int)) (hnm : (mM M).name = yX9_bestExchange.name) {Q : State → Prop} {kc ks : Nat} {a0 : Nat} : ∀ (n : Nat) (s0 : Int32 × Int32 × Int32) (g : AH) (t : (Int32)) (g1 : AH), loopX (x9_bestExchange_l15 a0) n s0 g = some (t, g1) → WW M G 6 Q kc ks g1 97 [(1, .int t)] [] → WW M G 6 Q kc ks g 15 [(0, .ref a0), (1, .int s0.1), (2, .int s0.2.1), (3, .int s0.2.2)] [] :=
  loop_cps (K := fun t g1 => WW M G 6 Q kc ks g1 97 [(1, .int t)] []) (fun _ s0 g => WW M G 6 Q kc ks g 15 [(0, .ref a0), (1, .int s0.1), (2, .int s0.2.1), (3, .int s0.2.2)] []) (fun n s0 g st g1 E hc hx => t_x9_bestExchange_l15 X hl0 hr hnm hc hx E)
set_option maxHeartbeats 4000000 in
set_option maxRecDepth 100000 in
theorem t_x9_bestExchange_b {l : Launch} {G : GG} {M : MC} (X : CX M G cX9_bestExchange 6 RX9 ⟨12, 0, 0, 300⟩) (hl0 : M.2.1 = l) (hr : (mM M).sig.returnType = (some .int)) (hnm : (mM M).name = yX9_bestExchange.name) {p : Nat} {g : AH} {r : Int32} {g1 : AH} (E : x9_bestExchange p g = some (r, g1)) : WW M G 6 (RQ M G (some (.int r)) g1 0 0) 0 0 g 0 [(0, .ref p)] [] := by
  unfold x9_bestExchange at E
  refine r_aload_n X 0 dX9_bestExchange_0 rfl rfl ?_
  refine r_iconst X (v := 0) dX9_bestExchange_1 (by decide) ?_
  obtain ⟨g1, e2, E⟩ := gb_some E
  refine r_put X dX9_bestExchange_2 f_X9_57 rfl rfl e2 ?_
  refine r_iconst X (v := (-1)) dX9_bestExchange_5 (by decide) ?_
  refine r_istore_n X 1 (L1 := [(1, .int (-1)), (0, .ref p)]) dX9_bestExchange_6 rfl (by decide) rfl ?_
  refine r_aload_n X 0 dX9_bestExchange_7 rfl rfl ?_
  refine r_iconst X (v := 0) dX9_bestExchange_8 (by decide) ?_
  obtain ⟨u6, e7, E⟩ := gb_some E
  obtain ⟨r3, g4, e5, E⟩ := cb_some E
  refine r_callV0 X hl0 (ci := 9) dX9_bestExchange_9 y_X9_countDeed m_X9_318 rfl rfl e7 (t_x9_countDeed (l := l) (G := G) e5) rfl rfl (Nat.le_of_ble_eq_true rfl) (by decide) ?_
  refine r_istore_n X 2 (L1 := [(2, .int r3), (1, .int (-1)), (0, .ref p)]) dX9_bestExchange_12 rfl (by decide) rfl ?_
  refine r_iconst X (v := 0) dX9_bestExchange_13 (by decide) ?_
  refine r_istore_n X 3 (L1 := [(3, .int 0), (2, .int r3), (1, .int (-1)), (0, .ref p)]) dX9_bestExchange_14 rfl (by decide) rfl ?_
  obtain ⟨t8, g9, e10, E⟩ := cb_some E
  refine r_pick (by rfl : lpick [(3, .int 0), (2, .int r3), (1, .int (-1)), (0, .ref p)] [3, 2, 1, 0] = _) (t_x9_bestExchange_l15_r X hl0 hr hnm _ _ _ _ _ e10 ?_)
  refine r_iload_n X 1 dX9_bestExchange_97 rfl rfl ?_
  cases E
  exact r_iret X hr dX9_bestExchange_98 (by decide) (by decide)
theorem t_x9_bestExchange {l : Launch} {G : GG} {p : Nat} {g : AH} {r : Int32} {g1 : AH} (E : x9_bestExchange p g = some (r, g1)) : Ct l G yX9_bestExchange cX9_bestExchange 6 (some .int) ⟨12, 0, 0, 300⟩ [.ref p] g (some (.int r)) g1 :=
  ct_of (L0 := [(0, .ref p)]) y_X9_bestExchange rfl (Nat.le_of_ble_eq_true rfl) fun M hl0 X hr hnm => t_x9_bestExchange_b X hl0 hr hnm E
set_option maxHeartbeats 4000000 in
set_option maxRecDepth 100000 in
theorem t_x9_goodness_b {l : Launch} {G : GG} {M : MC} (X : CX M G cX9_goodness 3 RX9 ⟨9, 0, 0, 234⟩) (hl0 : M.2.1 = l) (hr : (mM M).sig.returnType = (some .int)) (hnm : (mM M).name = yX9_goodness.name) {p : Nat} {b0 : Int32} {b1 : Int32} {g : AH} {r : Int32} {g1 : AH} (E : x9_goodness p b0 b1 g = some (r, g1)) : WW M G 3 (RQ M G (some (.int r)) g1 0 0) 0 0 g 0 [(0, .ref p), (1, .int b0), (2, .int b1)] [] := by
  unfold x9_goodness at E
  refine r_aload_n X 0 dX9_goodness_0 rfl rfl ?_
  refine r_iload_n X 1 dX9_goodness_1 rfl rfl ?_
  refine r_iconst X (v := 4) dX9_goodness_2 (by decide) ?_
  refine r_iload_n X 2 dX9_goodness_3 rfl rfl ?_
  obtain ⟨u4, e5, E⟩ := gb_some E
  obtain ⟨r1, g2, e3, E⟩ := cb_some E
  refine r_callV0 X hl0 (ci := 9) dX9_goodness_4 y_X9_set m_X9_54 rfl rfl e5 (t_x9_set (l := l) (G := G) e3) rfl rfl (Nat.le_of_ble_eq_true rfl) (by decide) ?_
  refine r_bipush X (v := 100) dX9_goodness_7 (by decide) ?_
  refine r_aload_n X 0 dX9_goodness_9 rfl rfl ?_
  refine r_iload_n X 1 dX9_goodness_10 rfl rfl ?_
  obtain ⟨u9, e10, E⟩ := gb_some E
  obtain ⟨r6, g7, e8, E⟩ := cb_some E
  refine r_callV0 X hl0 (ci := 9) dX9_goodness_11 y_X9_warmthNow m_X9_93 rfl rfl e10 (t_x9_warmthNow (l := l) (G := G) e8) rfl rfl (Nat.le_of_ble_eq_true rfl) (by decide) ?_
  refine r_imul X dX9_goodness_14 ?_
  refine r_aload_n X 0 dX9_goodness_15 rfl rfl ?_
  refine r_iload_n X 2 dX9_goodness_16 rfl rfl ?_
  obtain ⟨u14, e15, E⟩ := gb_some E
  obtain ⟨r11, g12, e13, E⟩ := cb_some E
  refine r_callV0 X hl0 (ci := 9) dX9_goodness_17 y_X9_noise m_X9_102 rfl rfl e15 (t_x9_noise (l := l) (G := G) e13) rfl rfl (Nat.le_of_ble_eq_true rfl) (by decide) ?_
  refine r_isub X dX9_goodness_20 ?_
  cases E
  exact r_iret X hr dX9_goodness_21 (by decide) (by decide)
theorem t_x9_goodness {l : Launch} {G : GG} {p : Nat} {b0 : Int32} {b1 : Int32} {g : AH} {r : Int32} {g1 : AH} (E : x9_goodness p b0 b1 g = some (r, g1)) : Ct l G yX9_goodness cX9_goodness 3 (some .int) ⟨9, 0, 0, 234⟩ [.ref p, .int b0, .int b1] g (some (.int r)) g1 :=
  ct_of (L0 := [(0, .ref p), (1, .int b0), (2, .int b1)]) y_X9_goodness rfl (Nat.le_of_ble_eq_true rfl) fun M hl0 X hr hnm => t_x9_goodness_b X hl0 hr hnm E
set_option maxHeartbeats 4000000 in
set_option maxRecDepth 100000 in
theorem t_x9_warmestBunk_j82_26 {l : Launch} {G : GG} {M : MC} (X : CX M G cX9_warmestBunk 6 RX9 ⟨10, 0, 0, 256⟩) (hl0 : M.2.1 = l) (hr : (mM M).sig.returnType = (some .int)) (hnm : (mM M).name = yX9_warmestBunk.name) {Q : State → Prop} {kc ks : Nat} {s9 : ((Int32 × Int32 × Int32) ⊕ (Int32))} {g1 : AH} {a0 : Nat} {a1 : Int32} {a2 : Int32} {a3 : Int32} {a4 : Int32} (hc : ∀ s1, s9 = .inl s1 → WW M G 6 Q kc ks g1 26 [(0, .ref a0), (1, .int a1), (2, .int s1.1), (3, .int s1.2.1), (4, .int s1.2.2)] []) (hx : ∀ t, s9 = .inr t → WW M G 6 Q kc ks g1 88 [(2, .int t)] []) {g : AH} (E : x9_warmestBunk_j82_26 a0 a1 a2 a3 a4 g = some (s9, g1)) : WW M G 6 Q kc ks g 82 [(0, .ref a0), (1, .int a1), (2, .int a2), (3, .int a3), (4, .int a4)] [] := by
  unfold x9_warmestBunk_j82_26 at E
  refine r_iinc X (v := (a4 + 1)) (L1 := [(4, .int (a4 + 1)), (0, .ref a0), (1, .int a1), (2, .int a2), (3, .int a3)]) dX9_warmestBunk_82 rfl rfl (by decide) rfl ?_
  refine r_goto X 26 dX9_warmestBunk_85 (by decide) ?_
  cases E
  exact r_pick (by rfl : lpick [(4, .int (a4 + 1)), (0, .ref a0), (1, .int a1), (2, .int a2), (3, .int a3)] [1, 2, 3, 4, 0] = _) (hc _ rfl)
set_option maxHeartbeats 4000000 in
set_option maxRecDepth 100000 in
theorem t_x9_warmestBunk_j76_26 {l : Launch} {G : GG} {M : MC} (X : CX M G cX9_warmestBunk 6 RX9 ⟨10, 0, 0, 256⟩) (hl0 : M.2.1 = l) (hr : (mM M).sig.returnType = (some .int)) (hnm : (mM M).name = yX9_warmestBunk.name) {Q : State → Prop} {kc ks : Nat} {s9 : ((Int32 × Int32 × Int32) ⊕ (Int32))} {g1 : AH} {a0 : Nat} {a1 : Int32} {a4 : Int32} {a5 : Int32} (hc : ∀ s1, s9 = .inl s1 → WW M G 6 Q kc ks g1 26 [(0, .ref a0), (1, .int a1), (2, .int s1.1), (3, .int s1.2.1), (4, .int s1.2.2)] []) (hx : ∀ t, s9 = .inr t → WW M G 6 Q kc ks g1 88 [(2, .int t)] []) {g : AH} (E : x9_warmestBunk_j76_26 a0 a1 a4 a5 g = some (s9, g1)) : WW M G 6 Q kc ks g 76 [(0, .ref a0), (1, .int a1), (4, .int a4), (5, .int a5)] [] := by
  unfold x9_warmestBunk_j76_26 at E
  refine r_iload X dX9_warmestBunk_76 rfl ?_
  refine r_istore_n X 2 (L1 := [(2, .int a4), (0, .ref a0), (1, .int a1), (4, .int a4), (5, .int a5)]) dX9_warmestBunk_78 rfl (by decide) rfl ?_
  refine r_iload X dX9_warmestBunk_79 rfl ?_
  refine r_istore_n X 3 (L1 := [(3, .int a5), (2, .int a4), (0, .ref a0), (1, .int a1), (4, .int a4), (5, .int a5)]) dX9_warmestBunk_81 rfl (by decide) rfl ?_
  exact r_pick (by rfl : lpick [(3, .int a5), (2, .int a4), (0, .ref a0), (1, .int a1), (4, .int a4), (5, .int a5)] [2, 3, 1, 0, 4] = _) (t_x9_warmestBunk_j82_26 X hl0 hr hnm hc hx E)
set_option maxHeartbeats 4000000 in
set_option maxRecDepth 100000 in
theorem t_x9_warmestBunk_l26 {l : Launch} {G : GG} {M : MC} (X : CX M G cX9_warmestBunk 6 RX9 ⟨10, 0, 0, 256⟩) (hl0 : M.2.1 = l) (hr : (mM M).sig.returnType = (some .int)) (hnm : (mM M).name = yX9_warmestBunk.name) {Q : State → Prop} {kc ks : Nat} {s9 : ((Int32 × Int32 × Int32) ⊕ (Int32))} {g1 : AH} {a0 : Nat} {a1 : Int32} {s0 : Int32 × Int32 × Int32} (hc : ∀ s1, s9 = .inl s1 → WW M G 6 Q kc ks g1 26 [(0, .ref a0), (1, .int a1), (2, .int s1.1), (3, .int s1.2.1), (4, .int s1.2.2)] []) (hx : ∀ t, s9 = .inr t → WW M G 6 Q kc ks g1 88 [(2, .int t)] []) {g : AH} (E : x9_warmestBunk_l26 a0 a1 s0 g = some (s9, g1)) : WW M G 6 Q kc ks g 26 [(0, .ref a0), (1, .int a1), (2, .int s0.1), (3, .int s0.2.1), (4, .int s0.2.2)] [] := by
  unfold x9_warmestBunk_l26 at E
  refine r_iload X dX9_warmestBunk_26 rfl ?_
  refine r_aload_n X 0 dX9_warmestBunk_28 rfl rfl ?_
  obtain ⟨x1, e2, E⟩ := gb_some E
  refine r_getR X dX9_warmestBunk_29 f_X9_7 e2 ?_
  refine r_bipush X (v := 9) dX9_warmestBunk_32 (by decide) ?_
  obtain ⟨x3, e4, E⟩ := gb_some E
  refine r_iald X dX9_warmestBunk_34 e4 ?_
  refine r_icmp_ge X 88 dX9_warmestBunk_35 (by decide) (fun c5 => ?_) (fun c5 => ?_)
  · rw [if_pos c5] at E
    cases E
    exact r_pick (by rfl : lpick [(0, .ref a0), (1, .int a1), (2, .int s0.1), (3, .int s0.2.1), (4, .int s0.2.2)] [2] = _) (hx _ rfl)
  · rw [if_neg c5] at E
    refine r_aload_n X 0 dX9_warmestBunk_38 rfl rfl ?_
    refine r_iload_n X 1 dX9_warmestBunk_39 rfl rfl ?_
    refine r_iload X dX9_warmestBunk_40 rfl ?_
    obtain ⟨u9, e10, E⟩ := gb_some E
    obtain ⟨r6, g7, e8, E⟩ := cb_some E
    refine r_callV0 X hl0 (ci := 9) dX9_warmestBunk_42 y_X9_isFreeFor m_X9_330 rfl rfl e10 (t_x9_isFreeFor (l := l) (G := G) e8) rfl rfl (Nat.le_of_ble_eq_true rfl) (by decide) ?_
    refine r_if_eq X 82 dX9_warmestBunk_45 (by decide) (fun c11 => ?_) (fun c11 => ?_)
    · rw [if_pos c11] at E
      exact r_pick (by rfl : lpick [(0, .ref a0), (1, .int a1), (2, .int s0.1), (3, .int s0.2.1), (4, .int s0.2.2)] [0, 1, 2, 3, 4] = _) (t_x9_warmestBunk_j82_26 X hl0 hr hnm hc hx E)
    · rw [if_neg c11] at E
      refine r_aload_n X 0 dX9_warmestBunk_48 rfl rfl ?_
      obtain ⟨u15, e16, E⟩ := gb_some E
      obtain ⟨r12, g13, e14, E⟩ := cb_some E
      refine r_callV0 X hl0 (ci := 9) dX9_warmestBunk_49 y_X9_goAside m_X9_229 rfl rfl e16 (t_x9_goAside (l := l) (G := G) e14) rfl rfl (Nat.le_of_ble_eq_true rfl) (by decide) ?_
      refine r_aload_n X 0 dX9_warmestBunk_52 rfl rfl ?_
      refine r_aload_n X 0 dX9_warmestBunk_53 rfl rfl ?_
      refine r_iload_n X 1 dX9_warmestBunk_54 rfl rfl ?_
      refine r_iload X dX9_warmestBunk_55 rfl ?_
      obtain ⟨u20, e21, E⟩ := gb_some E
      obtain ⟨r17, g18, e19, E⟩ := cb_some E
      refine r_callV0 X hl0 (ci := 9) dX9_warmestBunk_57 y_X9_goodness m_X9_373 rfl rfl e21 (t_x9_goodness (l := l) (G := G) e19) rfl rfl (Nat.le_of_ble_eq_true rfl) (by decide) ?_
      obtain ⟨u25, e26, E⟩ := gb_some E
      obtain ⟨r22, g23, e24, E⟩ := cb_some E
      refine r_callV0 X hl0 (ci := 9) dX9_warmestBunk_60 y_X9_comeBack m_X9_238 rfl rfl e26 (t_x9_comeBack (l := l) (G := G) e24) rfl rfl (Nat.le_of_ble_eq_true rfl) (by decide) ?_
      refine r_istore X (L1 := [(5, .int r22), (0, .ref a0), (1, .int a1), (2, .int s0.1), (3, .int s0.2.1), (4, .int s0.2.2)]) dX9_warmestBunk_63 (by decide) rfl ?_
      refine r_iload_n X 2 dX9_warmestBunk_65 rfl rfl ?_
      refine r_iconst X (v := (-1)) dX9_warmestBunk_66 (by decide) ?_
      refine r_icmp_eq X 76 dX9_warmestBunk_67 (by decide) (fun c27 => ?_) (fun c27 => ?_)
      · rw [if_pos c27] at E
        exact r_pick (by rfl : lpick [(5, .int r22), (0, .ref a0), (1, .int a1), (2, .int s0.1), (3, .int s0.2.1), (4, .int s0.2.2)] [1, 2, 5, 0] = _) (t_x9_warmestBunk_j76_26 X hl0 hr hnm hc hx E)
      · rw [if_neg c27] at E
        refine r_iload X dX9_warmestBunk_70 rfl ?_
        refine r_iload_n X 3 dX9_warmestBunk_72 rfl rfl ?_
        refine r_icmp_le X 82 dX9_warmestBunk_73 (by decide) (fun c28 => ?_) (fun c28 => ?_)
        · rw [if_pos c28] at E
          exact r_pick (by rfl : lpick [(5, .int r22), (0, .ref a0), (1, .int a1), (2, .int s0.1), (3, .int s0.2.1), (4, .int s0.2.2)] [1, 2, 3, 4, 5] = _) (t_x9_warmestBunk_j82_26 X hl0 hr hnm hc hx E)
        · rw [if_neg c28] at E
          exact r_pick (by rfl : lpick [(5, .int r22), (0, .ref a0), (1, .int a1), (2, .int s0.1), (3, .int s0.2.1), (4, .int s0.2.2)] [1, 2, 5, 0] = _) (t_x9_warmestBunk_j76_26 X hl0 hr hnm hc hx E)
set_option maxHeartbeats 4000000 in
theorem t_x9_warmestBunk_l26_r {l : Launch} {G : GG} {M : MC} (X : CX M G cX9_warmestBunk 6 RX9 ⟨10, 0, 0, 256⟩) (hl0 : M.2.1 = l) (hr : (mM M).sig.returnType = (some .int)) (hnm : (mM M).name = yX9_warmestBunk.name) {Q : State → Prop} {kc ks : Nat} {a0 : Nat} {a1 : Int32} : ∀ (n : Nat) (s0 : Int32 × Int32 × Int32) (g : AH) (t : (Int32)) (g1 : AH), loopX (x9_warmestBunk_l26 a0 a1) n s0 g = some (t, g1) → WW M G 6 Q kc ks g1 88 [(2, .int t)] [] → WW M G 6 Q kc ks g 26 [(0, .ref a0), (1, .int a1), (2, .int s0.1), (3, .int s0.2.1), (4, .int s0.2.2)] [] :=
  loop_cps (K := fun t g1 => WW M G 6 Q kc ks g1 88 [(2, .int t)] []) (fun _ s0 g => WW M G 6 Q kc ks g 26 [(0, .ref a0), (1, .int a1), (2, .int s0.1), (3, .int s0.2.1), (4, .int s0.2.2)] []) (fun n s0 g st g1 E hc hx => t_x9_warmestBunk_l26 X hl0 hr hnm hc hx E)
set_option maxHeartbeats 4000000 in
set_option maxRecDepth 100000 in
theorem t_x9_warmestBunk_b {l : Launch} {G : GG} {M : MC} (X : CX M G cX9_warmestBunk 6 RX9 ⟨10, 0, 0, 256⟩) (hl0 : M.2.1 = l) (hr : (mM M).sig.returnType = (some .int)) (hnm : (mM M).name = yX9_warmestBunk.name) {p : Nat} {b0 : Int32} {g : AH} {r : Int32} {g1 : AH} (E : x9_warmestBunk p b0 g = some (r, g1)) : WW M G 6 (RQ M G (some (.int r)) g1 0 0) 0 0 g 0 [(0, .ref p), (1, .int b0)] [] := by
  unfold x9_warmestBunk at E
  refine r_aload_n X 0 dX9_warmestBunk_0 rfl rfl ?_
  refine r_iconst X (v := 0) dX9_warmestBunk_1 (by decide) ?_
  obtain ⟨g1, e2, E⟩ := gb_some E
  refine r_put X dX9_warmestBunk_2 f_X9_57 rfl rfl e2 ?_
  refine r_aload_n X 0 dX9_warmestBunk_5 rfl rfl ?_
  refine r_iload_n X 1 dX9_warmestBunk_6 rfl rfl ?_
  obtain ⟨u6, e7, E⟩ := gb_some E
  obtain ⟨r3, g4, e5, E⟩ := cb_some E
  refine r_callV0 X hl0 (ci := 9) dX9_warmestBunk_7 y_X9_isHiker m_X9_324 rfl rfl e7 (t_x9_isHiker (l := l) (G := G) e5) rfl rfl (Nat.le_of_ble_eq_true rfl) (by decide) ?_
  refine r_if_ne X 19 dX9_warmestBunk_10 (by decide) (fun c8 => ?_) (fun c8 => ?_)
  · rw [if_neg c8] at E
    refine r_iconst X (v := (-1)) dX9_warmestBunk_19 (by decide) ?_
    refine r_istore_n X 2 (L1 := [(2, .int (-1)), (0, .ref p), (1, .int b0)]) dX9_warmestBunk_20 rfl (by decide) rfl ?_
    refine r_iconst X (v := 0) dX9_warmestBunk_21 (by decide) ?_
    refine r_istore_n X 3 (L1 := [(3, .int 0), (2, .int (-1)), (0, .ref p), (1, .int b0)]) dX9_warmestBunk_22 rfl (by decide) rfl ?_
    refine r_iconst X (v := 0) dX9_warmestBunk_23 (by decide) ?_
    refine r_istore X (L1 := [(4, .int 0), (3, .int 0), (2, .int (-1)), (0, .ref p), (1, .int b0)]) dX9_warmestBunk_24 (by decide) rfl ?_
    obtain ⟨t9, g10, e11, E⟩ := cb_some E
    refine r_pick (by rfl : lpick [(4, .int 0), (3, .int 0), (2, .int (-1)), (0, .ref p), (1, .int b0)] [3, 4, 2, 1, 0] = _) (t_x9_warmestBunk_l26_r X hl0 hr hnm _ _ _ _ _ e11 ?_)
    refine r_iload_n X 2 dX9_warmestBunk_88 rfl rfl ?_
    cases E
    exact r_iret X hr dX9_warmestBunk_89 (by decide) (by decide)
  · rw [if_pos c8] at E
    refine r_aload_n X 0 dX9_warmestBunk_13 rfl rfl ?_
    refine r_iconst X (v := 1) dX9_warmestBunk_14 (by decide) ?_
    obtain ⟨u15, e16, E⟩ := gb_some E
    obtain ⟨r12, g13, e14, E⟩ := cb_some E
    refine r_callV0 X hl0 (ci := 9) dX9_warmestBunk_15 y_X9_fail m_X9_141 rfl rfl e16 (t_x9_fail (l := l) (G := G) e14) rfl rfl (Nat.le_of_ble_eq_true rfl) (by decide) ?_
    cases E
    exact r_iret X hr dX9_warmestBunk_18 (by decide) (by decide)
theorem t_x9_warmestBunk {l : Launch} {G : GG} {p : Nat} {b0 : Int32} {g : AH} {r : Int32} {g1 : AH} (E : x9_warmestBunk p b0 g = some (r, g1)) : Ct l G yX9_warmestBunk cX9_warmestBunk 6 (some .int) ⟨10, 0, 0, 256⟩ [.ref p, .int b0] g (some (.int r)) g1 :=
  ct_of (L0 := [(0, .ref p), (1, .int b0)]) y_X9_warmestBunk rfl (Nat.le_of_ble_eq_true rfl) fun M hl0 X hr hnm => t_x9_warmestBunk_b X hl0 hr hnm E
set_option maxHeartbeats 4000000 in
set_option maxRecDepth 100000 in
theorem t_x9_hutCoins_b {l : Launch} {G : GG} {M : MC} (X : CX M G cX9_hutCoins 1 RX9 ⟨2, 0, 0, 81⟩) (hl0 : M.2.1 = l) (hr : (mM M).sig.returnType = (some .int)) (hnm : (mM M).name = yX9_hutCoins.name) {p : Nat} {g : AH} {r : Int32} {g1 : AH} (E : x9_hutCoins p g = some (r, g1)) : WW M G 1 (RQ M G (some (.int r)) g1 0 0) 0 0 g 0 [(0, .ref p)] [] := by
  unfold x9_hutCoins at E
  refine r_aload_n X 0 dX9_hutCoins_0 rfl rfl ?_
  refine r_aload_n X 0 dX9_hutCoins_1 rfl rfl ?_
  obtain ⟨x1, e2, E⟩ := gb_some E
  refine r_getR X dX9_hutCoins_2 f_X9_7 e2 ?_
  refine r_bipush X (v := 6) dX9_hutCoins_5 (by decide) ?_
  obtain ⟨x3, e4, E⟩ := gb_some E
  refine r_iald X dX9_hutCoins_7 e4 ?_
  obtain ⟨u8, e9, E⟩ := gb_some E
  obtain ⟨r5, g6, e7, E⟩ := cb_some E
  refine r_callV0 X hl0 (ci := 9) dX9_hutCoins_8 y_X9_tell m_X9_305 rfl rfl e9 (t_x9_tell (l := l) (G := G) e7) rfl rfl (Nat.le_of_ble_eq_true rfl) (by decide) ?_
  cases E
  exact r_iret X hr dX9_hutCoins_11 (by decide) (by decide)
theorem t_x9_hutCoins {l : Launch} {G : GG} {p : Nat} {g : AH} {r : Int32} {g1 : AH} (E : x9_hutCoins p g = some (r, g1)) : Ct l G yX9_hutCoins cX9_hutCoins 1 (some .int) ⟨2, 0, 0, 81⟩ [.ref p] g (some (.int r)) g1 :=
  ct_of (L0 := [(0, .ref p)]) y_X9_hutCoins rfl (Nat.le_of_ble_eq_true rfl) fun M hl0 X hr hnm => t_x9_hutCoins_b X hl0 hr hnm E
set_option maxHeartbeats 4000000 in
set_option maxRecDepth 100000 in
theorem t_x9_burnedLogs_b {l : Launch} {G : GG} {M : MC} (X : CX M G cX9_burnedLogs 1 RX9 ⟨2, 0, 0, 81⟩) (hl0 : M.2.1 = l) (hr : (mM M).sig.returnType = (some .int)) (hnm : (mM M).name = yX9_burnedLogs.name) {p : Nat} {g : AH} {r : Int32} {g1 : AH} (E : x9_burnedLogs p g = some (r, g1)) : WW M G 1 (RQ M G (some (.int r)) g1 0 0) 0 0 g 0 [(0, .ref p)] [] := by
  unfold x9_burnedLogs at E
  refine r_aload_n X 0 dX9_burnedLogs_0 rfl rfl ?_
  refine r_aload_n X 0 dX9_burnedLogs_1 rfl rfl ?_
  obtain ⟨x1, e2, E⟩ := gb_some E
  refine r_getR X dX9_burnedLogs_2 f_X9_7 e2 ?_
  refine r_iconst X (v := 4) dX9_burnedLogs_5 (by decide) ?_
  obtain ⟨x3, e4, E⟩ := gb_some E
  refine r_iald X dX9_burnedLogs_6 e4 ?_
  obtain ⟨u8, e9, E⟩ := gb_some E
  obtain ⟨r5, g6, e7, E⟩ := cb_some E
  refine r_callV0 X hl0 (ci := 9) dX9_burnedLogs_7 y_X9_tell m_X9_305 rfl rfl e9 (t_x9_tell (l := l) (G := G) e7) rfl rfl (Nat.le_of_ble_eq_true rfl) (by decide) ?_
  cases E
  exact r_iret X hr dX9_burnedLogs_10 (by decide) (by decide)
theorem t_x9_burnedLogs {l : Launch} {G : GG} {p : Nat} {g : AH} {r : Int32} {g1 : AH} (E : x9_burnedLogs p g = some (r, g1)) : Ct l G yX9_burnedLogs cX9_burnedLogs 1 (some .int) ⟨2, 0, 0, 81⟩ [.ref p] g (some (.int r)) g1 :=
  ct_of (L0 := [(0, .ref p)]) y_X9_burnedLogs rfl (Nat.le_of_ble_eq_true rfl) fun M hl0 X hr hnm => t_x9_burnedLogs_b X hl0 hr hnm E
set_option maxHeartbeats 4000000 in
set_option maxRecDepth 100000 in
theorem t_x9_totalDebt_b {l : Launch} {G : GG} {M : MC} (X : CX M G cX9_totalDebt 1 RX9 ⟨3, 0, 0, 105⟩) (hl0 : M.2.1 = l) (hr : (mM M).sig.returnType = (some .int)) (hnm : (mM M).name = yX9_totalDebt.name) {p : Nat} {g : AH} {r : Int32} {g1 : AH} (E : x9_totalDebt p g = some (r, g1)) : WW M G 1 (RQ M G (some (.int r)) g1 0 0) 0 0 g 0 [(0, .ref p)] [] := by
  unfold x9_totalDebt at E
  refine r_aload_n X 0 dX9_totalDebt_0 rfl rfl ?_
  refine r_aload_n X 0 dX9_totalDebt_1 rfl rfl ?_
  refine r_iconst X (v := 3) dX9_totalDebt_2 (by decide) ?_
  obtain ⟨u4, e5, E⟩ := gb_some E
  obtain ⟨r1, g2, e3, E⟩ := cb_some E
  refine r_callV0 X hl0 (ci := 9) dX9_totalDebt_3 y_X9_sumOf m_X9_376 rfl rfl e5 (t_x9_sumOf (l := l) (G := G) e3) rfl rfl (Nat.le_of_ble_eq_true rfl) (by decide) ?_
  obtain ⟨u9, e10, E⟩ := gb_some E
  obtain ⟨r6, g7, e8, E⟩ := cb_some E
  refine r_callV0 X hl0 (ci := 9) dX9_totalDebt_6 y_X9_tell m_X9_305 rfl rfl e10 (t_x9_tell (l := l) (G := G) e8) rfl rfl (Nat.le_of_ble_eq_true rfl) (by decide) ?_
  cases E
  exact r_iret X hr dX9_totalDebt_9 (by decide) (by decide)
theorem t_x9_totalDebt {l : Launch} {G : GG} {p : Nat} {g : AH} {r : Int32} {g1 : AH} (E : x9_totalDebt p g = some (r, g1)) : Ct l G yX9_totalDebt cX9_totalDebt 1 (some .int) ⟨3, 0, 0, 105⟩ [.ref p] g (some (.int r)) g1 :=
  ct_of (L0 := [(0, .ref p)]) y_X9_totalDebt rfl (Nat.le_of_ble_eq_true rfl) fun M hl0 X hr hnm => t_x9_totalDebt_b X hl0 hr hnm E
set_option maxHeartbeats 4000000 in
set_option maxRecDepth 100000 in
theorem t_x9_countTwice_j48_17 {l : Launch} {G : GG} {M : MC} (X : CX M G cX9_countTwice 7 RX9 ⟨2, 0, 0, 82⟩) (hl0 : M.2.1 = l) (hr : (mM M).sig.returnType = (some .int)) (hnm : (mM M).name = yX9_countTwice.name) {Q : State → Prop} {kc ks : Nat} {s9 : ((Int32 × Int32) ⊕ (Int32))} {g1 : AH} {a0 : Nat} {a1 : Int32} {a2 : Int32} {a3 : Int32} {a4 : Int32} {a6 : Int32} {s0 : Int32} {s1 : Int32} (hc : ∀ s1, s9 = .inl s1 → WW M G 7 Q kc ks g1 17 [(0, .ref a0), (1, .int a1), (2, .int a2), (3, .int a3), (4, .int a4), (5, .int s1.1), (6, .int s1.2)] []) (hx : ∀ t, s9 = .inr t → WW M G 7 Q kc ks g1 57 [(0, .ref a0), (1, .int a1), (2, .int a2), (3, .int a3), (4, .int a4), (5, .int t)] []) {g : AH} (E : x9_countTwice_j48_17 a0 a1 a2 a3 a4 a6 s0 s1 g = some (s9, g1)) : WW M G 7 Q kc ks g 48 [(0, .ref a0), (1, .int a1), (2, .int a2), (3, .int a3), (4, .int a4), (6, .int a6)] [.int s0, .int s1] := by
  unfold x9_countTwice_j48_17 at E
  refine r_iadd X dX9_countTwice_48 ?_
  refine r_istore X (L1 := [(5, .int (s1 + s0)), (0, .ref a0), (1, .int a1), (2, .int a2), (3, .int a3), (4, .int a4), (6, .int a6)]) dX9_countTwice_49 (by decide) rfl ?_
  refine r_iinc X (v := (a6 + 1)) (L1 := [(6, .int (a6 + 1)), (5, .int (s1 + s0)), (0, .ref a0), (1, .int a1), (2, .int a2), (3, .int a3), (4, .int a4)]) dX9_countTwice_51 rfl rfl (by decide) rfl ?_
  refine r_goto X 17 dX9_countTwice_54 (by decide) ?_
  cases E
  exact r_pick (by rfl : lpick [(6, .int (a6 + 1)), (5, .int (s1 + s0)), (0, .ref a0), (1, .int a1), (2, .int a2), (3, .int a3), (4, .int a4)] [2, 3, 4, 5, 6, 1, 0] = _) (hc _ rfl)
set_option maxHeartbeats 4000000 in
set_option maxRecDepth 100000 in
theorem t_x9_countTwice_l17 {l : Launch} {G : GG} {M : MC} (X : CX M G cX9_countTwice 7 RX9 ⟨2, 0, 0, 82⟩) (hl0 : M.2.1 = l) (hr : (mM M).sig.returnType = (some .int)) (hnm : (mM M).name = yX9_countTwice.name) {Q : State → Prop} {kc ks : Nat} {s9 : ((Int32 × Int32) ⊕ (Int32))} {g1 : AH} {a0 : Nat} {a1 : Int32} {a2 : Int32} {a3 : Int32} {a4 : Int32} {s0 : Int32 × Int32} (hc : ∀ s1, s9 = .inl s1 → WW M G 7 Q kc ks g1 17 [(0, .ref a0), (1, .int a1), (2, .int a2), (3, .int a3), (4, .int a4), (5, .int s1.1), (6, .int s1.2)] []) (hx : ∀ t, s9 = .inr t → WW M G 7 Q kc ks g1 57 [(0, .ref a0), (1, .int a1), (2, .int a2), (3, .int a3), (4, .int a4), (5, .int t)] []) {g : AH} (E : x9_countTwice_l17 a0 a1 a2 a3 a4 s0 g = some (s9, g1)) : WW M G 7 Q kc ks g 17 [(0, .ref a0), (1, .int a1), (2, .int a2), (3, .int a3), (4, .int a4), (5, .int s0.1), (6, .int s0.2)] [] := by
  unfold x9_countTwice_l17 at E
  refine r_iload X dX9_countTwice_17 rfl ?_
  refine r_aload_n X 0 dX9_countTwice_19 rfl rfl ?_
  obtain ⟨x1, e2, E⟩ := gb_some E
  refine r_getR X dX9_countTwice_20 f_X9_7 e2 ?_
  refine r_bipush X (v := 12) dX9_countTwice_23 (by decide) ?_
  obtain ⟨x3, e4, E⟩ := gb_some E
  refine r_iald X dX9_countTwice_25 e4 ?_
  refine r_icmp_ge X 57 dX9_countTwice_26 (by decide) (fun c5 => ?_) (fun c5 => ?_)
  · rw [if_pos c5] at E
    cases E
    exact r_pick (by rfl : lpick [(0, .ref a0), (1, .int a1), (2, .int a2), (3, .int a3), (4, .int a4), (5, .int s0.1), (6, .int s0.2)] [0, 1, 2, 3, 4, 5] = _) (hx _ rfl)
  · rw [if_neg c5] at E
    refine r_iload X dX9_countTwice_29 rfl ?_
    refine r_aload_n X 0 dX9_countTwice_31 rfl rfl ?_
    refine r_iload X dX9_countTwice_32 rfl ?_
    refine r_iload_n X 1 dX9_countTwice_34 rfl rfl ?_
    obtain ⟨u9, e10, E⟩ := gb_some E
    obtain ⟨r6, g7, e8, E⟩ := cb_some E
    refine r_callV0 X hl0 (ci := 9) dX9_countTwice_35 y_X9_get m_X9_64 rfl rfl e10 (t_x9_get (l := l) (G := G) e8) rfl rfl (Nat.le_of_ble_eq_true rfl) (by decide) ?_
    refine r_iload X dX9_countTwice_38 rfl ?_
    refine r_icmp_ne X 47 dX9_countTwice_40 (by decide) (fun c11 => ?_) (fun c11 => ?_)
    · rw [if_neg c11] at E
      refine r_iconst X (v := 0) dX9_countTwice_47 (by decide) ?_
      exact r_pick (by rfl : lpick [(0, .ref a0), (1, .int a1), (2, .int a2), (3, .int a3), (4, .int a4), (5, .int s0.1), (6, .int s0.2)] [0, 1, 2, 3, 4, 6] = _) (t_x9_countTwice_j48_17 X hl0 hr hnm hc hx E)
    · rw [if_pos c11] at E
      refine r_iconst X (v := 1) dX9_countTwice_43 (by decide) ?_
      refine r_goto X 48 dX9_countTwice_44 (by decide) ?_
      exact r_pick (by rfl : lpick [(0, .ref a0), (1, .int a1), (2, .int a2), (3, .int a3), (4, .int a4), (5, .int s0.1), (6, .int s0.2)] [0, 1, 2, 3, 4, 6] = _) (t_x9_countTwice_j48_17 X hl0 hr hnm hc hx E)
set_option maxHeartbeats 4000000 in
theorem t_x9_countTwice_l17_r {l : Launch} {G : GG} {M : MC} (X : CX M G cX9_countTwice 7 RX9 ⟨2, 0, 0, 82⟩) (hl0 : M.2.1 = l) (hr : (mM M).sig.returnType = (some .int)) (hnm : (mM M).name = yX9_countTwice.name) {Q : State → Prop} {kc ks : Nat} {a0 : Nat} {a1 : Int32} {a2 : Int32} {a3 : Int32} {a4 : Int32} : ∀ (n : Nat) (s0 : Int32 × Int32) (g : AH) (t : (Int32)) (g1 : AH), loopX (x9_countTwice_l17 a0 a1 a2 a3 a4) n s0 g = some (t, g1) → WW M G 7 Q kc ks g1 57 [(0, .ref a0), (1, .int a1), (2, .int a2), (3, .int a3), (4, .int a4), (5, .int t)] [] → WW M G 7 Q kc ks g 17 [(0, .ref a0), (1, .int a1), (2, .int a2), (3, .int a3), (4, .int a4), (5, .int s0.1), (6, .int s0.2)] [] :=
  loop_cps (K := fun t g1 => WW M G 7 Q kc ks g1 57 [(0, .ref a0), (1, .int a1), (2, .int a2), (3, .int a3), (4, .int a4), (5, .int t)] []) (fun _ s0 g => WW M G 7 Q kc ks g 17 [(0, .ref a0), (1, .int a1), (2, .int a2), (3, .int a3), (4, .int a4), (5, .int s0.1), (6, .int s0.2)] []) (fun n s0 g st g1 E hc hx => t_x9_countTwice_l17 X hl0 hr hnm hc hx E)
set_option maxHeartbeats 4000000 in
set_option maxRecDepth 100000 in
theorem t_x9_countTwice_j69_5 {l : Launch} {G : GG} {M : MC} (X : CX M G cX9_countTwice 7 RX9 ⟨2, 0, 0, 82⟩) (hl0 : M.2.1 = l) (hr : (mM M).sig.returnType = (some .int)) (hnm : (mM M).name = yX9_countTwice.name) {Q : State → Prop} {kc ks : Nat} {s9 : ((Int32 × Int32) ⊕ (Int32))} {g1 : AH} {a0 : Nat} {a1 : Int32} {a2 : Int32} {a4 : Int32} {s0 : Int32} {s1 : Int32} (hc : ∀ s1, s9 = .inl s1 → WW M G 7 Q kc ks g1 5 [(0, .ref a0), (1, .int a1), (2, .int a2), (3, .int s1.1), (4, .int s1.2)] []) (hx : ∀ t, s9 = .inr t → WW M G 7 Q kc ks g1 77 [(3, .int t)] []) {g : AH} (E : x9_countTwice_j69_5 a0 a1 a2 a4 s0 s1 g = some (s9, g1)) : WW M G 7 Q kc ks g 69 [(0, .ref a0), (1, .int a1), (2, .int a2), (4, .int a4)] [.int s0, .int s1] := by
  unfold x9_countTwice_j69_5 at E
  refine r_iadd X dX9_countTwice_69 ?_
  refine r_istore_n X 3 (L1 := [(3, .int (s1 + s0)), (0, .ref a0), (1, .int a1), (2, .int a2), (4, .int a4)]) dX9_countTwice_70 rfl (by decide) rfl ?_
  refine r_iinc X (v := (a4 + 1)) (L1 := [(4, .int (a4 + 1)), (3, .int (s1 + s0)), (0, .ref a0), (1, .int a1), (2, .int a2)]) dX9_countTwice_71 rfl rfl (by decide) rfl ?_
  refine r_goto X 5 dX9_countTwice_74 (by decide) ?_
  cases E
  exact r_pick (by rfl : lpick [(4, .int (a4 + 1)), (3, .int (s1 + s0)), (0, .ref a0), (1, .int a1), (2, .int a2)] [2, 3, 4, 1, 0] = _) (hc _ rfl)
set_option maxHeartbeats 4000000 in
set_option maxRecDepth 100000 in
theorem t_x9_countTwice_l5 {l : Launch} {G : GG} {M : MC} (X : CX M G cX9_countTwice 7 RX9 ⟨2, 0, 0, 82⟩) (hl0 : M.2.1 = l) (hr : (mM M).sig.returnType = (some .int)) (hnm : (mM M).name = yX9_countTwice.name) {Q : State → Prop} {kc ks : Nat} {s9 : ((Int32 × Int32) ⊕ (Int32))} {g1 : AH} {a0 : Nat} {a1 : Int32} {a2 : Int32} {s0 : Int32 × Int32} (hc : ∀ s1, s9 = .inl s1 → WW M G 7 Q kc ks g1 5 [(0, .ref a0), (1, .int a1), (2, .int a2), (3, .int s1.1), (4, .int s1.2)] []) (hx : ∀ t, s9 = .inr t → WW M G 7 Q kc ks g1 77 [(3, .int t)] []) {g : AH} (E : x9_countTwice_l5 a0 a1 a2 s0 g = some (s9, g1)) : WW M G 7 Q kc ks g 5 [(0, .ref a0), (1, .int a1), (2, .int a2), (3, .int s0.1), (4, .int s0.2)] [] := by
  unfold x9_countTwice_l5 at E
  refine r_iload X dX9_countTwice_5 rfl ?_
  refine r_iload_n X 2 dX9_countTwice_7 rfl rfl ?_
  refine r_icmp_ge X 77 dX9_countTwice_8 (by decide) (fun c1 => ?_) (fun c1 => ?_)
  · rw [if_pos c1] at E
    cases E
    exact r_pick (by rfl : lpick [(0, .ref a0), (1, .int a1), (2, .int a2), (3, .int s0.1), (4, .int s0.2)] [3] = _) (hx _ rfl)
  · rw [if_neg c1] at E
    refine r_iconst X (v := 0) dX9_countTwice_11 (by decide) ?_
    refine r_istore X (L1 := [(5, .int 0), (0, .ref a0), (1, .int a1), (2, .int a2), (3, .int s0.1), (4, .int s0.2)]) dX9_countTwice_12 (by decide) rfl ?_
    refine r_iconst X (v := 0) dX9_countTwice_14 (by decide) ?_
    refine r_istore X (L1 := [(6, .int 0), (5, .int 0), (0, .ref a0), (1, .int a1), (2, .int a2), (3, .int s0.1), (4, .int s0.2)]) dX9_countTwice_15 (by decide) rfl ?_
    obtain ⟨t2, g3, e4, E⟩ := cb_some E
    refine r_pick (by rfl : lpick [(6, .int 0), (5, .int 0), (0, .ref a0), (1, .int a1), (2, .int a2), (3, .int s0.1), (4, .int s0.2)] [2, 3, 4, 5, 6, 1, 0] = _) (t_x9_countTwice_l17_r X hl0 hr hnm _ _ _ _ _ e4 ?_)
    refine r_iload_n X 3 dX9_countTwice_57 rfl rfl ?_
    refine r_iload X dX9_countTwice_58 rfl ?_
    refine r_iconst X (v := 1) dX9_countTwice_60 (by decide) ?_
    refine r_icmp_le X 68 dX9_countTwice_61 (by decide) (fun c5 => ?_) (fun c5 => ?_)
    · rw [if_pos c5] at E
      refine r_iconst X (v := 0) dX9_countTwice_68 (by decide) ?_
      exact r_pick (by rfl : lpick [(0, .ref a0), (1, .int a1), (2, .int a2), (3, .int s0.1), (4, .int s0.2), (5, .int t2)] [0, 1, 2, 4] = _) (t_x9_countTwice_j69_5 X hl0 hr hnm hc hx E)
    · rw [if_neg c5] at E
      refine r_iconst X (v := 1) dX9_countTwice_64 (by decide) ?_
      refine r_goto X 69 dX9_countTwice_65 (by decide) ?_
      exact r_pick (by rfl : lpick [(0, .ref a0), (1, .int a1), (2, .int a2), (3, .int s0.1), (4, .int s0.2), (5, .int t2)] [0, 1, 2, 4] = _) (t_x9_countTwice_j69_5 X hl0 hr hnm hc hx E)
set_option maxHeartbeats 4000000 in
theorem t_x9_countTwice_l5_r {l : Launch} {G : GG} {M : MC} (X : CX M G cX9_countTwice 7 RX9 ⟨2, 0, 0, 82⟩) (hl0 : M.2.1 = l) (hr : (mM M).sig.returnType = (some .int)) (hnm : (mM M).name = yX9_countTwice.name) {Q : State → Prop} {kc ks : Nat} {a0 : Nat} {a1 : Int32} {a2 : Int32} : ∀ (n : Nat) (s0 : Int32 × Int32) (g : AH) (t : (Int32)) (g1 : AH), loopX (x9_countTwice_l5 a0 a1 a2) n s0 g = some (t, g1) → WW M G 7 Q kc ks g1 77 [(3, .int t)] [] → WW M G 7 Q kc ks g 5 [(0, .ref a0), (1, .int a1), (2, .int a2), (3, .int s0.1), (4, .int s0.2)] [] :=
  loop_cps (K := fun t g1 => WW M G 7 Q kc ks g1 77 [(3, .int t)] []) (fun _ s0 g => WW M G 7 Q kc ks g 5 [(0, .ref a0), (1, .int a1), (2, .int a2), (3, .int s0.1), (4, .int s0.2)] []) (fun n s0 g st g1 E hc hx => t_x9_countTwice_l5 X hl0 hr hnm hc hx E)
set_option maxHeartbeats 4000000 in
set_option maxRecDepth 100000 in
theorem t_x9_countTwice_b {l : Launch} {G : GG} {M : MC} (X : CX M G cX9_countTwice 7 RX9 ⟨2, 0, 0, 82⟩) (hl0 : M.2.1 = l) (hr : (mM M).sig.returnType = (some .int)) (hnm : (mM M).name = yX9_countTwice.name) {p : Nat} {b0 : Int32} {b1 : Int32} {g : AH} {r : Int32} {g1 : AH} (E : x9_countTwice p b0 b1 g = some (r, g1)) : WW M G 7 (RQ M G (some (.int r)) g1 0 0) 0 0 g 0 [(0, .ref p), (1, .int b0), (2, .int b1)] [] := by
  unfold x9_countTwice at E
  refine r_iconst X (v := 0) dX9_countTwice_0 (by decide) ?_
  refine r_istore_n X 3 (L1 := [(3, .int 0), (0, .ref p), (1, .int b0), (2, .int b1)]) dX9_countTwice_1 rfl (by decide) rfl ?_
  refine r_iconst X (v := 0) dX9_countTwice_2 (by decide) ?_
  refine r_istore X (L1 := [(4, .int 0), (3, .int 0), (0, .ref p), (1, .int b0), (2, .int b1)]) dX9_countTwice_3 (by decide) rfl ?_
  obtain ⟨t1, g2, e3, E⟩ := cb_some E
  refine r_pick (by rfl : lpick [(4, .int 0), (3, .int 0), (0, .ref p), (1, .int b0), (2, .int b1)] [2, 3, 4, 1, 0] = _) (t_x9_countTwice_l5_r X hl0 hr hnm _ _ _ _ _ e3 ?_)
  refine r_iload_n X 3 dX9_countTwice_77 rfl rfl ?_
  cases E
  exact r_iret X hr dX9_countTwice_78 (by decide) (by decide)
theorem t_x9_countTwice {l : Launch} {G : GG} {p : Nat} {b0 : Int32} {b1 : Int32} {g : AH} {r : Int32} {g1 : AH} (E : x9_countTwice p b0 b1 g = some (r, g1)) : Ct l G yX9_countTwice cX9_countTwice 7 (some .int) ⟨2, 0, 0, 82⟩ [.ref p, .int b0, .int b1] g (some (.int r)) g1 :=
  ct_of (L0 := [(0, .ref p), (1, .int b0), (2, .int b1)]) y_X9_countTwice rfl (Nat.le_of_ble_eq_true rfl) fun M hl0 X hr hnm => t_x9_countTwice_b X hl0 hr hnm E
set_option maxHeartbeats 4000000 in
set_option maxRecDepth 100000 in
theorem t_x9_auditDifference_b {l : Launch} {G : GG} {M : MC} (X : CX M G cX9_auditDifference 3 RX9 ⟨3, 0, 0, 150⟩) (hl0 : M.2.1 = l) (hr : (mM M).sig.returnType = (some .int)) (hnm : (mM M).name = yX9_auditDifference.name) {p : Nat} {g : AH} {r : Int32} {g1 : AH} (E : x9_auditDifference p g = some (r, g1)) : WW M G 3 (RQ M G (some (.int r)) g1 0 0) 0 0 g 0 [(0, .ref p)] [] := by
  unfold x9_auditDifference at E
  refine r_aload_n X 0 dX9_auditDifference_0 rfl rfl ?_
  refine r_iconst X (v := 0) dX9_auditDifference_1 (by decide) ?_
  obtain ⟨g1, e2, E⟩ := gb_some E
  refine r_put X dX9_auditDifference_2 f_X9_57 rfl rfl e2 ?_
  refine r_aload_n X 0 dX9_auditDifference_5 rfl rfl ?_
  obtain ⟨x3, e4, E⟩ := gb_some E
  refine r_getR X dX9_auditDifference_6 f_X9_7 e4 ?_
  refine r_bipush X (v := 7) dX9_auditDifference_9 (by decide) ?_
  obtain ⟨x5, e6, E⟩ := gb_some E
  refine r_iald X dX9_auditDifference_11 e6 ?_
  refine r_aload_n X 0 dX9_auditDifference_12 rfl rfl ?_
  obtain ⟨x7, e8, E⟩ := gb_some E
  refine r_getR X dX9_auditDifference_13 f_X9_7 e8 ?_
  refine r_bipush X (v := 6) dX9_auditDifference_16 (by decide) ?_
  obtain ⟨x9, e10, E⟩ := gb_some E
  refine r_iald X dX9_auditDifference_18 e10 ?_
  refine r_isub X dX9_auditDifference_19 ?_
  refine r_aload_n X 0 dX9_auditDifference_20 rfl rfl ?_
  refine r_iconst X (v := 2) dX9_auditDifference_21 (by decide) ?_
  obtain ⟨u14, e15, E⟩ := gb_some E
  obtain ⟨r11, g12, e13, E⟩ := cb_some E
  refine r_callV0 X hl0 (ci := 9) dX9_auditDifference_22 y_X9_sumOf m_X9_376 rfl rfl e15 (t_x9_sumOf (l := l) (G := G) e13) rfl rfl (Nat.le_of_ble_eq_true rfl) (by decide) ?_
  refine r_isub X dX9_auditDifference_25 ?_
  refine r_abs X dX9_auditDifference_26 m_X9_379m (by decide) (Nat.le_of_ble_eq_true rfl) ?_
  refine r_istore_n X 1 (L1 := [(1, .int (if (0:Int32) ≤ ((x5 - x9) - r11) then ((x5 - x9) - r11) else 0 - ((x5 - x9) - r11))), (0, .ref p)]) dX9_auditDifference_29 rfl (by decide) rfl ?_
  refine r_aload_n X 0 dX9_auditDifference_30 rfl rfl ?_
  obtain ⟨x16, e17, E⟩ := gb_some E
  refine r_getR X dX9_auditDifference_31 f_X9_7 e17 ?_
  refine r_bipush X (v := 8) dX9_auditDifference_34 (by decide) ?_
  obtain ⟨x18, e19, E⟩ := gb_some E
  refine r_iald X dX9_auditDifference_36 e19 ?_
  refine r_aload_n X 0 dX9_auditDifference_37 rfl rfl ?_
  obtain ⟨x20, e21, E⟩ := gb_some E
  refine r_getR X dX9_auditDifference_38 f_X9_7 e21 ?_
  refine r_iconst X (v := 0) dX9_auditDifference_41 (by decide) ?_
  obtain ⟨x22, e23, E⟩ := gb_some E
  refine r_iald X dX9_auditDifference_42 e23 ?_
  refine r_isub X dX9_auditDifference_43 ?_
  refine r_aload_n X 0 dX9_auditDifference_44 rfl rfl ?_
  obtain ⟨x24, e25, E⟩ := gb_some E
  refine r_getR X dX9_auditDifference_45 f_X9_7 e25 ?_
  refine r_iconst X (v := 4) dX9_auditDifference_48 (by decide) ?_
  obtain ⟨x26, e27, E⟩ := gb_some E
  refine r_iald X dX9_auditDifference_49 e27 ?_
  refine r_isub X dX9_auditDifference_50 ?_
  refine r_abs X dX9_auditDifference_51 m_X9_379m (by decide) (Nat.le_of_ble_eq_true rfl) ?_
  refine r_istore_n X 2 (L1 := [(2, .int (if (0:Int32) ≤ ((x18 - x22) - x26) then ((x18 - x22) - x26) else 0 - ((x18 - x22) - x26))), (1, .int (if (0:Int32) ≤ ((x5 - x9) - r11) then ((x5 - x9) - r11) else 0 - ((x5 - x9) - r11))), (0, .ref p)]) dX9_auditDifference_54 rfl (by decide) rfl ?_
  refine r_iload_n X 1 dX9_auditDifference_55 rfl rfl ?_
  refine r_iload_n X 2 dX9_auditDifference_56 rfl rfl ?_
  refine r_iadd X dX9_auditDifference_57 ?_
  refine r_aload_n X 0 dX9_auditDifference_58 rfl rfl ?_
  refine r_iconst X (v := 5) dX9_auditDifference_59 (by decide) ?_
  refine r_aload_n X 0 dX9_auditDifference_60 rfl rfl ?_
  obtain ⟨x28, e29, E⟩ := gb_some E
  refine r_getR X dX9_auditDifference_61 f_X9_7 e29 ?_
  refine r_bipush X (v := 10) dX9_auditDifference_64 (by decide) ?_
  obtain ⟨x30, e31, E⟩ := gb_some E
  refine r_iald X dX9_auditDifference_66 e31 ?_
  obtain ⟨u35, e36, E⟩ := gb_some E
  obtain ⟨r32, g33, e34, E⟩ := cb_some E
  refine r_callV0 X hl0 (ci := 9) dX9_auditDifference_67 y_X9_countTwice m_X9_382 rfl rfl e36 (t_x9_countTwice (l := l) (G := G) e34) rfl rfl (Nat.le_of_ble_eq_true rfl) (by decide) ?_
  refine r_iadd X dX9_auditDifference_70 ?_
  refine r_aload_n X 0 dX9_auditDifference_71 rfl rfl ?_
  refine r_iconst X (v := 4) dX9_auditDifference_72 (by decide) ?_
  refine r_aload_n X 0 dX9_auditDifference_73 rfl rfl ?_
  obtain ⟨x37, e38, E⟩ := gb_some E
  refine r_getR X dX9_auditDifference_74 f_X9_7 e38 ?_
  refine r_bipush X (v := 9) dX9_auditDifference_77 (by decide) ?_
  obtain ⟨x39, e40, E⟩ := gb_some E
  refine r_iald X dX9_auditDifference_79 e40 ?_
  obtain ⟨u44, e45, E⟩ := gb_some E
  obtain ⟨r41, g42, e43, E⟩ := cb_some E
  refine r_callV0 X hl0 (ci := 9) dX9_auditDifference_80 y_X9_countTwice m_X9_382 rfl rfl e45 (t_x9_countTwice (l := l) (G := G) e43) rfl rfl (Nat.le_of_ble_eq_true rfl) (by decide) ?_
  refine r_iadd X dX9_auditDifference_83 ?_
  cases E
  exact r_iret X hr dX9_auditDifference_84 (by decide) (by decide)
theorem t_x9_auditDifference {l : Launch} {G : GG} {p : Nat} {g : AH} {r : Int32} {g1 : AH} (E : x9_auditDifference p g = some (r, g1)) : Ct l G yX9_auditDifference cX9_auditDifference 3 (some .int) ⟨3, 0, 0, 150⟩ [.ref p] g (some (.int r)) g1 :=
  ct_of (L0 := [(0, .ref p)]) y_X9_auditDifference rfl (Nat.le_of_ble_eq_true rfl) fun M hl0 X hr hnm => t_x9_auditDifference_b X hl0 hr hnm E
set_option maxHeartbeats 4000000 in
set_option maxRecDepth 100000 in
theorem t_x9_meanWarmth_l9 {l : Launch} {G : GG} {M : MC} (X : CX M G cX9_meanWarmth 3 RX9 ⟨6, 0, 0, 170⟩) (hl0 : M.2.1 = l) (hr : (mM M).sig.returnType = (some .double)) (hnm : (mM M).name = yX9_meanWarmth.name) {Q : State → Prop} {kc ks : Nat} {s9 : ((Int32 × Int32) ⊕ (Int32))} {g1 : AH} {a0 : Nat} {s0 : Int32 × Int32} (hc : ∀ s1, s9 = .inl s1 → WW M G 3 Q kc ks g1 9 [(0, .ref a0), (1, .int s1.1), (2, .int s1.2)] []) (hx : ∀ t, s9 = .inr t → WW M G 3 Q kc ks g1 34 [(0, .ref a0), (1, .int t)] []) {g : AH} (E : x9_meanWarmth_l9 a0 s0 g = some (s9, g1)) : WW M G 3 Q kc ks g 9 [(0, .ref a0), (1, .int s0.1), (2, .int s0.2)] [] := by
  unfold x9_meanWarmth_l9 at E
  refine r_iload_n X 2 dX9_meanWarmth_9 rfl rfl ?_
  refine r_aload_n X 0 dX9_meanWarmth_10 rfl rfl ?_
  obtain ⟨x1, e2, E⟩ := gb_some E
  refine r_getR X dX9_meanWarmth_11 f_X9_7 e2 ?_
  refine r_bipush X (v := 12) dX9_meanWarmth_14 (by decide) ?_
  obtain ⟨x3, e4, E⟩ := gb_some E
  refine r_iald X dX9_meanWarmth_16 e4 ?_
  refine r_icmp_ge X 34 dX9_meanWarmth_17 (by decide) (fun c5 => ?_) (fun c5 => ?_)
  · rw [if_pos c5] at E
    cases E
    exact r_pick (by rfl : lpick [(0, .ref a0), (1, .int s0.1), (2, .int s0.2)] [0, 1] = _) (hx _ rfl)
  · rw [if_neg c5] at E
    refine r_iload_n X 1 dX9_meanWarmth_20 rfl rfl ?_
    refine r_aload_n X 0 dX9_meanWarmth_21 rfl rfl ?_
    refine r_iload_n X 2 dX9_meanWarmth_22 rfl rfl ?_
    obtain ⟨u9, e10, E⟩ := gb_some E
    obtain ⟨r6, g7, e8, E⟩ := cb_some E
    refine r_callV0 X hl0 (ci := 9) dX9_meanWarmth_23 y_X9_warmthNow m_X9_93 rfl rfl e10 (t_x9_warmthNow (l := l) (G := G) e8) rfl rfl (Nat.le_of_ble_eq_true rfl) (by decide) ?_
    refine r_iadd X dX9_meanWarmth_26 ?_
    refine r_istore_n X 1 (L1 := [(1, .int (s0.1 + r6)), (0, .ref a0), (2, .int s0.2)]) dX9_meanWarmth_27 rfl (by decide) rfl ?_
    refine r_iinc X (v := (s0.2 + 1)) (L1 := [(2, .int (s0.2 + 1)), (1, .int (s0.1 + r6)), (0, .ref a0)]) dX9_meanWarmth_28 rfl rfl (by decide) rfl ?_
    refine r_goto X 9 dX9_meanWarmth_31 (by decide) ?_
    cases E
    exact r_pick (by rfl : lpick [(2, .int (s0.2 + 1)), (1, .int (s0.1 + r6)), (0, .ref a0)] [2, 1, 0] = _) (hc _ rfl)
set_option maxHeartbeats 4000000 in
theorem t_x9_meanWarmth_l9_r {l : Launch} {G : GG} {M : MC} (X : CX M G cX9_meanWarmth 3 RX9 ⟨6, 0, 0, 170⟩) (hl0 : M.2.1 = l) (hr : (mM M).sig.returnType = (some .double)) (hnm : (mM M).name = yX9_meanWarmth.name) {Q : State → Prop} {kc ks : Nat} {a0 : Nat} : ∀ (n : Nat) (s0 : Int32 × Int32) (g : AH) (t : (Int32)) (g1 : AH), loopX (x9_meanWarmth_l9 a0) n s0 g = some (t, g1) → WW M G 3 Q kc ks g1 34 [(0, .ref a0), (1, .int t)] [] → WW M G 3 Q kc ks g 9 [(0, .ref a0), (1, .int s0.1), (2, .int s0.2)] [] :=
  loop_cps (K := fun t g1 => WW M G 3 Q kc ks g1 34 [(0, .ref a0), (1, .int t)] []) (fun _ s0 g => WW M G 3 Q kc ks g 9 [(0, .ref a0), (1, .int s0.1), (2, .int s0.2)] []) (fun n s0 g st g1 E hc hx => t_x9_meanWarmth_l9 X hl0 hr hnm hc hx E)
set_option maxHeartbeats 4000000 in
set_option maxRecDepth 100000 in
theorem t_x9_meanWarmth_b {l : Launch} {G : GG} {M : MC} (X : CX M G cX9_meanWarmth 3 RX9 ⟨6, 0, 0, 170⟩) (hl0 : M.2.1 = l) (hr : (mM M).sig.returnType = (some .double)) (hnm : (mM M).name = yX9_meanWarmth.name) {p : Nat} {g : AH} {r : UInt64} {g1 : AH} (E : x9_meanWarmth p g = some (r, g1)) : WW M G 3 (RQ M G (some (.double r)) g1 0 0) 0 0 g 0 [(0, .ref p)] [] := by
  unfold x9_meanWarmth at E
  refine r_aload_n X 0 dX9_meanWarmth_0 rfl rfl ?_
  refine r_iconst X (v := 0) dX9_meanWarmth_1 (by decide) ?_
  obtain ⟨g1, e2, E⟩ := gb_some E
  refine r_put X dX9_meanWarmth_2 f_X9_57 rfl rfl e2 ?_
  refine r_iconst X (v := 0) dX9_meanWarmth_5 (by decide) ?_
  refine r_istore_n X 1 (L1 := [(1, .int 0), (0, .ref p)]) dX9_meanWarmth_6 rfl (by decide) rfl ?_
  refine r_iconst X (v := 0) dX9_meanWarmth_7 (by decide) ?_
  refine r_istore_n X 2 (L1 := [(2, .int 0), (1, .int 0), (0, .ref p)]) dX9_meanWarmth_8 rfl (by decide) rfl ?_
  obtain ⟨t3, g4, e5, E⟩ := cb_some E
  refine r_pick (by rfl : lpick [(2, .int 0), (1, .int 0), (0, .ref p)] [2, 1, 0] = _) (t_x9_meanWarmth_l9_r X hl0 hr hnm _ _ _ _ _ e5 ?_)
  refine r_iload_n X 1 dX9_meanWarmth_34 rfl rfl ?_
  refine r_i2d X dX9_meanWarmth_35 ?_
  refine r_aload_n X 0 dX9_meanWarmth_36 rfl rfl ?_
  obtain ⟨x6, e7, E⟩ := gb_some E
  refine r_getR X dX9_meanWarmth_37 f_X9_7 e7 ?_
  refine r_bipush X (v := 12) dX9_meanWarmth_40 (by decide) ?_
  obtain ⟨x8, e9, E⟩ := gb_some E
  refine r_iald X dX9_meanWarmth_42 e9 ?_
  refine r_i2d X dX9_meanWarmth_43 ?_
  by_cases c10 : n64 (FP.ddiv (FP.i2d t3) (FP.i2d x8))
  rotate_left
  · rw [if_neg c10] at E; cases E
  rw [if_pos c10] at E
  refine r_ddiv X dX9_meanWarmth_44 c10 ?_
  cases E
  exact r_dret X hr dX9_meanWarmth_45 (by decide) (by decide)
theorem t_x9_meanWarmth {l : Launch} {G : GG} {p : Nat} {g : AH} {r : UInt64} {g1 : AH} (E : x9_meanWarmth p g = some (r, g1)) : Ct l G yX9_meanWarmth cX9_meanWarmth 3 (some .double) ⟨6, 0, 0, 170⟩ [.ref p] g (some (.double r)) g1 :=
  ct_of (L0 := [(0, .ref p)]) y_X9_meanWarmth rfl (Nat.le_of_ble_eq_true rfl) fun M hl0 X hr hnm => t_x9_meanWarmth_b X hl0 hr hnm E
set_option maxHeartbeats 4000000 in
set_option maxRecDepth 100000 in
theorem t_x9_sleepShare_b {l : Launch} {G : GG} {M : MC} (X : CX M G cX9_sleepShare 2 RX9 ⟨3, 0, 0, 105⟩) (hl0 : M.2.1 = l) (hr : (mM M).sig.returnType = (some .float)) (hnm : (mM M).name = yX9_sleepShare.name) {p : Nat} {g : AH} {r : UInt32} {g1 : AH} (E : x9_sleepShare p g = some (r, g1)) : WW M G 2 (RQ M G (some (.float r)) g1 0 0) 0 0 g 0 [(0, .ref p)] [] := by
  unfold x9_sleepShare at E
  refine r_aload_n X 0 dX9_sleepShare_0 rfl rfl ?_
  refine r_iconst X (v := 0) dX9_sleepShare_1 (by decide) ?_
  obtain ⟨g1, e2, E⟩ := gb_some E
  refine r_put X dX9_sleepShare_2 f_X9_57 rfl rfl e2 ?_
  refine r_aload_n X 0 dX9_sleepShare_5 rfl rfl ?_
  obtain ⟨x3, e4, E⟩ := gb_some E
  refine r_getR X dX9_sleepShare_6 f_X9_7 e4 ?_
  refine r_iconst X (v := 3) dX9_sleepShare_9 (by decide) ?_
  obtain ⟨x5, e6, E⟩ := gb_some E
  refine r_iald X dX9_sleepShare_10 e6 ?_
  refine r_aload_n X 0 dX9_sleepShare_11 rfl rfl ?_
  obtain ⟨x7, e8, E⟩ := gb_some E
  refine r_getR X dX9_sleepShare_12 f_X9_7 e8 ?_
  refine r_bipush X (v := 12) dX9_sleepShare_15 (by decide) ?_
  obtain ⟨x9, e10, E⟩ := gb_some E
  refine r_iald X dX9_sleepShare_17 e10 ?_
  refine r_imul X dX9_sleepShare_18 ?_
  refine r_istore_n X 1 (L1 := [(1, .int (x5 * x9)), (0, .ref p)]) dX9_sleepShare_19 rfl (by decide) rfl ?_
  refine r_iload_n X 1 dX9_sleepShare_20 rfl rfl ?_
  refine r_if_ne X 28 dX9_sleepShare_21 (by decide) (fun c11 => ?_) (fun c11 => ?_)
  · rw [if_neg c11] at E
    refine r_aload_n X 0 dX9_sleepShare_28 rfl rfl ?_
    refine r_bipush X (v := 8) dX9_sleepShare_29 (by decide) ?_
    obtain ⟨u15, e16, E⟩ := gb_some E
    obtain ⟨r12, g13, e14, E⟩ := cb_some E
    refine r_callV0 X hl0 (ci := 9) dX9_sleepShare_31 y_X9_sumOf m_X9_376 rfl rfl e16 (t_x9_sumOf (l := l) (G := G) e14) rfl rfl (Nat.le_of_ble_eq_true rfl) (by decide) ?_
    refine r_i2f X dX9_sleepShare_34 ?_
    refine r_iload_n X 1 dX9_sleepShare_35 rfl rfl ?_
    refine r_i2f X dX9_sleepShare_36 ?_
    by_cases c17 : n32 (FP.fdiv (FP.i2f r12) (FP.i2f (x5 * x9)))
    rotate_left
    · rw [if_neg c17] at E; cases E
    rw [if_pos c17] at E
    refine r_fdiv X dX9_sleepShare_37 c17 ?_
    cases E
    exact r_fret X hr dX9_sleepShare_38 (by decide) (by decide)
  · rw [if_pos c11] at E
    refine r_fconst0 X dX9_sleepShare_24 ?_
    refine r_goto X 38 dX9_sleepShare_25 (by decide) ?_
    cases E
    exact r_fret X hr dX9_sleepShare_38 (by decide) (by decide)
theorem t_x9_sleepShare {l : Launch} {G : GG} {p : Nat} {g : AH} {r : UInt32} {g1 : AH} (E : x9_sleepShare p g = some (r, g1)) : Ct l G yX9_sleepShare cX9_sleepShare 2 (some .float) ⟨3, 0, 0, 105⟩ [.ref p] g (some (.float r)) g1 :=
  ct_of (L0 := [(0, .ref p)]) y_X9_sleepShare rfl (Nat.le_of_ble_eq_true rfl) fun M hl0 X hr hnm => t_x9_sleepShare_b X hl0 hr hnm E
set_option maxHeartbeats 4000000 in
set_option maxRecDepth 100000 in
theorem t_x9_isAheadOfNow_b {l : Launch} {G : GG} {M : MC} (X : CX M G cX9_isAheadOfNow 1 RX9 ⟨2, 0, 0, 82⟩) (hl0 : M.2.1 = l) (hr : (mM M).sig.returnType = (some .boolean)) (hnm : (mM M).name = yX9_isAheadOfNow.name) {b0 : Int32} {g : AH} {r : Int32} {g1 : AH} (E : x9_isAheadOfNow b0 g = some (r, g1)) : WW M G 1 (RQ M G (some (.int r)) g1 0 0) 0 0 g 0 [(0, .int b0)] [] := by
  unfold x9_isAheadOfNow at E
  refine r_iload_n X 0 dX9_isAheadOfNow_0 rfl rfl ?_
  refine r_iconst X (v := 0) dX9_isAheadOfNow_1 (by decide) ?_
  refine r_bipush X (v := 96) dX9_isAheadOfNow_2 (by decide) ?_
  obtain ⟨r1, g2, e3, E⟩ := cb_some E
  refine r_callS0 X hl0 dX9_isAheadOfNow_4 y_X9_isBetween m_X9_68 (t_x9_isBetween (l := l) (G := G) e3) rfl rfl (Nat.le_of_ble_eq_true rfl) (by decide) ?_
  by_cases c4 : bz r1
  · rw [if_pos c4] at E
    cases E
    exact r_zret X hr c4 dX9_isAheadOfNow_7 (by decide) (by decide)
  · rw [if_neg c4] at E; cases E
theorem t_x9_isAheadOfNow {l : Launch} {G : GG} {b0 : Int32} {g : AH} {r : Int32} {g1 : AH} (E : x9_isAheadOfNow b0 g = some (r, g1)) : Ct l G yX9_isAheadOfNow cX9_isAheadOfNow 1 (some .boolean) ⟨2, 0, 0, 82⟩ [.int b0] g (some (.int r)) g1 :=
  ct_of (L0 := [(0, .int b0)]) y_X9_isAheadOfNow rfl (Nat.le_of_ble_eq_true rfl) fun M hl0 X hr hnm => t_x9_isAheadOfNow_b X hl0 hr hnm E
set_option maxHeartbeats 4000000 in
set_option maxRecDepth 100000 in
theorem t_x9_insideBehind_b {l : Launch} {G : GG} {M : MC} (X : CX M G cX9_insideBehind 2 RX9 ⟨12, 0, 0, 298⟩) (hl0 : M.2.1 = l) (hr : (mM M).sig.returnType = (some .int)) (hnm : (mM M).name = yX9_insideBehind.name) {p : Nat} {b0 : Int32} {g : AH} {r : Int32} {g1 : AH} (E : x9_insideBehind p b0 g = some (r, g1)) : WW M G 2 (RQ M G (some (.int r)) g1 0 0) 0 0 g 0 [(0, .ref p), (1, .int b0)] [] := by
  unfold x9_insideBehind at E
  refine r_aload_n X 0 dX9_insideBehind_0 rfl rfl ?_
  refine r_iload_n X 1 dX9_insideBehind_1 rfl rfl ?_
  obtain ⟨u4, e5, E⟩ := gb_some E
  obtain ⟨r1, g2, e3, E⟩ := cb_some E
  refine r_callV0 X hl0 (ci := 9) dX9_insideBehind_2 y_X9_passMany m_X9_385 rfl rfl e5 (t_x9_passMany (l := l) (G := G) e3) rfl rfl (Nat.le_of_ble_eq_true rfl) (by decide) ?_
  refine r_aload_n X 0 dX9_insideBehind_5 rfl rfl ?_
  obtain ⟨u9, e10, E⟩ := gb_some E
  obtain ⟨r6, g7, e8, E⟩ := cb_some E
  refine r_callV0 X hl0 (ci := 9) dX9_insideBehind_6 y_X9_inside m_X9_79 rfl rfl e10 (t_x9_inside (l := l) (G := G) e8) rfl rfl (Nat.le_of_ble_eq_true rfl) (by decide) ?_
  cases E
  exact r_iret X hr dX9_insideBehind_9 (by decide) (by decide)
theorem t_x9_insideBehind {l : Launch} {G : GG} {p : Nat} {b0 : Int32} {g : AH} {r : Int32} {g1 : AH} (E : x9_insideBehind p b0 g = some (r, g1)) : Ct l G yX9_insideBehind cX9_insideBehind 2 (some .int) ⟨12, 0, 0, 298⟩ [.ref p, .int b0] g (some (.int r)) g1 :=
  ct_of (L0 := [(0, .ref p), (1, .int b0)]) y_X9_insideBehind rfl (Nat.le_of_ble_eq_true rfl) fun M hl0 X hr hnm => t_x9_insideBehind_b X hl0 hr hnm E
set_option maxHeartbeats 4000000 in
set_option maxRecDepth 100000 in
theorem t_x9_temperatureAfter_b {l : Launch} {G : GG} {M : MC} (X : CX M G cX9_temperatureAfter 2 RX9 ⟨13, 0, 0, 319⟩) (hl0 : M.2.1 = l) (hr : (mM M).sig.returnType = (some .int)) (hnm : (mM M).name = yX9_temperatureAfter.name) {p : Nat} {b0 : Int32} {g : AH} {r : Int32} {g1 : AH} (E : x9_temperatureAfter p b0 g = some (r, g1)) : WW M G 2 (RQ M G (some (.int r)) g1 0 0) 0 0 g 0 [(0, .ref p), (1, .int b0)] [] := by
  unfold x9_temperatureAfter at E
  refine r_aload_n X 0 dX9_temperatureAfter_0 rfl rfl ?_
  refine r_iconst X (v := 0) dX9_temperatureAfter_1 (by decide) ?_
  obtain ⟨g1, e2, E⟩ := gb_some E
  refine r_put X dX9_temperatureAfter_2 f_X9_57 rfl rfl e2 ?_
  refine r_iload_n X 1 dX9_temperatureAfter_5 rfl rfl ?_
  obtain ⟨r3, g4, e5, E⟩ := cb_some E
  refine r_callS0 X hl0 dX9_temperatureAfter_6 y_X9_isAheadOfNow m_X9_388 (t_x9_isAheadOfNow (l := l) (G := G) e5) rfl rfl (Nat.le_of_ble_eq_true rfl) (by decide) ?_
  refine r_if_ne X 18 dX9_temperatureAfter_9 (by decide) (fun c6 => ?_) (fun c6 => ?_)
  · rw [if_neg c6] at E
    refine r_aload_n X 0 dX9_temperatureAfter_18 rfl rfl ?_
    obtain ⟨u10, e11, E⟩ := gb_some E
    obtain ⟨r7, g8, e9, E⟩ := cb_some E
    refine r_callV0 X hl0 (ci := 9) dX9_temperatureAfter_19 y_X9_goAside m_X9_229 rfl rfl e11 (t_x9_goAside (l := l) (G := G) e9) rfl rfl (Nat.le_of_ble_eq_true rfl) (by decide) ?_
    refine r_aload_n X 0 dX9_temperatureAfter_22 rfl rfl ?_
    refine r_aload_n X 0 dX9_temperatureAfter_23 rfl rfl ?_
    refine r_iload_n X 1 dX9_temperatureAfter_24 rfl rfl ?_
    obtain ⟨u15, e16, E⟩ := gb_some E
    obtain ⟨r12, g13, e14, E⟩ := cb_some E
    refine r_callV0 X hl0 (ci := 9) dX9_temperatureAfter_25 y_X9_insideBehind m_X9_391 rfl rfl e16 (t_x9_insideBehind (l := l) (G := G) e14) rfl rfl (Nat.le_of_ble_eq_true rfl) (by decide) ?_
    obtain ⟨u20, e21, E⟩ := gb_some E
    obtain ⟨r17, g18, e19, E⟩ := cb_some E
    refine r_callV0 X hl0 (ci := 9) dX9_temperatureAfter_28 y_X9_comeBack m_X9_238 rfl rfl e21 (t_x9_comeBack (l := l) (G := G) e19) rfl rfl (Nat.le_of_ble_eq_true rfl) (by decide) ?_
    cases E
    exact r_iret X hr dX9_temperatureAfter_31 (by decide) (by decide)
  · rw [if_pos c6] at E
    refine r_aload_n X 0 dX9_temperatureAfter_12 rfl rfl ?_
    refine r_iconst X (v := 1) dX9_temperatureAfter_13 (by decide) ?_
    obtain ⟨u25, e26, E⟩ := gb_some E
    obtain ⟨r22, g23, e24, E⟩ := cb_some E
    refine r_callV0 X hl0 (ci := 9) dX9_temperatureAfter_14 y_X9_fail m_X9_141 rfl rfl e26 (t_x9_fail (l := l) (G := G) e24) rfl rfl (Nat.le_of_ble_eq_true rfl) (by decide) ?_
    cases E
    exact r_iret X hr dX9_temperatureAfter_17 (by decide) (by decide)
theorem t_x9_temperatureAfter {l : Launch} {G : GG} {p : Nat} {b0 : Int32} {g : AH} {r : Int32} {g1 : AH} (E : x9_temperatureAfter p b0 g = some (r, g1)) : Ct l G yX9_temperatureAfter cX9_temperatureAfter 2 (some .int) ⟨13, 0, 0, 319⟩ [.ref p, .int b0] g (some (.int r)) g1 :=
  ct_of (L0 := [(0, .ref p), (1, .int b0)]) y_X9_temperatureAfter rfl (Nat.le_of_ble_eq_true rfl) fun M hl0 X hr hnm => t_x9_temperatureAfter_b X hl0 hr hnm E
set_option maxHeartbeats 4000000 in
set_option maxRecDepth 100000 in
theorem t_x9_growth_b {l : Launch} {G : GG} {M : MC} (X : CX M G cX9_growth 5 RX9 ⟨12, 0, 0, 298⟩) (hl0 : M.2.1 = l) (hr : (mM M).sig.returnType = (some .int)) (hnm : (mM M).name = yX9_growth.name) {p : Nat} {b0 : Int32} {b1 : Int32} {b2 : Int32} {g : AH} {r : Int32} {g1 : AH} (E : x9_growth p b0 b1 b2 g = some (r, g1)) : WW M G 5 (RQ M G (some (.int r)) g1 0 0) 0 0 g 0 [(0, .ref p), (1, .int b0), (2, .int b1), (3, .int b2)] [] := by
  unfold x9_growth at E
  refine r_aload_n X 0 dX9_growth_0 rfl rfl ?_
  refine r_iload_n X 1 dX9_growth_1 rfl rfl ?_
  refine r_iload_n X 2 dX9_growth_2 rfl rfl ?_
  obtain ⟨u4, e5, E⟩ := gb_some E
  obtain ⟨r1, g2, e3, E⟩ := cb_some E
  refine r_callV0 X hl0 (ci := 9) dX9_growth_3 y_X9_get m_X9_64 rfl rfl e5 (t_x9_get (l := l) (G := G) e3) rfl rfl (Nat.le_of_ble_eq_true rfl) (by decide) ?_
  refine r_istore X (L1 := [(4, .int r1), (0, .ref p), (1, .int b0), (2, .int b1), (3, .int b2)]) dX9_growth_6 (by decide) rfl ?_
  refine r_aload_n X 0 dX9_growth_8 rfl rfl ?_
  refine r_iload_n X 3 dX9_growth_9 rfl rfl ?_
  obtain ⟨u9, e10, E⟩ := gb_some E
  obtain ⟨r6, g7, e8, E⟩ := cb_some E
  refine r_callV0 X hl0 (ci := 9) dX9_growth_10 y_X9_passMany m_X9_385 rfl rfl e10 (t_x9_passMany (l := l) (G := G) e8) rfl rfl (Nat.le_of_ble_eq_true rfl) (by decide) ?_
  refine r_aload_n X 0 dX9_growth_13 rfl rfl ?_
  refine r_iload_n X 1 dX9_growth_14 rfl rfl ?_
  refine r_iload_n X 2 dX9_growth_15 rfl rfl ?_
  obtain ⟨u14, e15, E⟩ := gb_some E
  obtain ⟨r11, g12, e13, E⟩ := cb_some E
  refine r_callV0 X hl0 (ci := 9) dX9_growth_16 y_X9_get m_X9_64 rfl rfl e15 (t_x9_get (l := l) (G := G) e13) rfl rfl (Nat.le_of_ble_eq_true rfl) (by decide) ?_
  refine r_iload X dX9_growth_19 rfl ?_
  refine r_isub X dX9_growth_21 ?_
  cases E
  exact r_iret X hr dX9_growth_22 (by decide) (by decide)
theorem t_x9_growth {l : Launch} {G : GG} {p : Nat} {b0 : Int32} {b1 : Int32} {b2 : Int32} {g : AH} {r : Int32} {g1 : AH} (E : x9_growth p b0 b1 b2 g = some (r, g1)) : Ct l G yX9_growth cX9_growth 5 (some .int) ⟨12, 0, 0, 298⟩ [.ref p, .int b0, .int b1, .int b2] g (some (.int r)) g1 :=
  ct_of (L0 := [(0, .ref p), (1, .int b0), (2, .int b1), (3, .int b2)]) y_X9_growth rfl (Nat.le_of_ble_eq_true rfl) fun M hl0 X hr hnm => t_x9_growth_b X hl0 hr hnm E
set_option maxHeartbeats 4000000 in
set_option maxRecDepth 100000 in
theorem t_x9_shiversUntilDawn_b {l : Launch} {G : GG} {M : MC} (X : CX M G cX9_shiversUntilDawn 2 RX9 ⟨13, 0, 0, 322⟩) (hl0 : M.2.1 = l) (hr : (mM M).sig.returnType = (some .int)) (hnm : (mM M).name = yX9_shiversUntilDawn.name) {p : Nat} {b0 : Int32} {g : AH} {r : Int32} {g1 : AH} (E : x9_shiversUntilDawn p b0 g = some (r, g1)) : WW M G 2 (RQ M G (some (.int r)) g1 0 0) 0 0 g 0 [(0, .ref p), (1, .int b0)] [] := by
  unfold x9_shiversUntilDawn at E
  refine r_aload_n X 0 dX9_shiversUntilDawn_0 rfl rfl ?_
  refine r_iconst X (v := 0) dX9_shiversUntilDawn_1 (by decide) ?_
  obtain ⟨g1, e2, E⟩ := gb_some E
  refine r_put X dX9_shiversUntilDawn_2 f_X9_57 rfl rfl e2 ?_
  refine r_aload_n X 0 dX9_shiversUntilDawn_5 rfl rfl ?_
  refine r_iload_n X 1 dX9_shiversUntilDawn_6 rfl rfl ?_
  obtain ⟨u6, e7, E⟩ := gb_some E
  obtain ⟨r3, g4, e5, E⟩ := cb_some E
  refine r_callV0 X hl0 (ci := 9) dX9_shiversUntilDawn_7 y_X9_isHiker m_X9_324 rfl rfl e7 (t_x9_isHiker (l := l) (G := G) e5) rfl rfl (Nat.le_of_ble_eq_true rfl) (by decide) ?_
  refine r_if_ne X 19 dX9_shiversUntilDawn_10 (by decide) (fun c8 => ?_) (fun c8 => ?_)
  · rw [if_neg c8] at E
    refine r_aload_n X 0 dX9_shiversUntilDawn_19 rfl rfl ?_
    obtain ⟨u12, e13, E⟩ := gb_some E
    obtain ⟨r9, g10, e11, E⟩ := cb_some E
    refine r_callV0 X hl0 (ci := 9) dX9_shiversUntilDawn_20 y_X9_goAside m_X9_229 rfl rfl e13 (t_x9_goAside (l := l) (G := G) e11) rfl rfl (Nat.le_of_ble_eq_true rfl) (by decide) ?_
    refine r_aload_n X 0 dX9_shiversUntilDawn_23 rfl rfl ?_
    refine r_aload_n X 0 dX9_shiversUntilDawn_24 rfl rfl ?_
    refine r_iload_n X 1 dX9_shiversUntilDawn_25 rfl rfl ?_
    refine r_bipush X (v := 6) dX9_shiversUntilDawn_26 (by decide) ?_
    refine r_aload_n X 0 dX9_shiversUntilDawn_28 rfl rfl ?_
    obtain ⟨u17, e18, E⟩ := gb_some E
    obtain ⟨r14, g15, e16, E⟩ := cb_some E
    refine r_callV0 X hl0 (ci := 9) dX9_shiversUntilDawn_29 y_X9_toDawn m_X9_308 rfl rfl e18 (t_x9_toDawn (l := l) (G := G) e16) rfl rfl (Nat.le_of_ble_eq_true rfl) (by decide) ?_
    obtain ⟨u22, e23, E⟩ := gb_some E
    obtain ⟨r19, g20, e21, E⟩ := cb_some E
    refine r_callV0 X hl0 (ci := 9) dX9_shiversUntilDawn_32 y_X9_growth m_X9_394 rfl rfl e23 (t_x9_growth (l := l) (G := G) e21) rfl rfl (Nat.le_of_ble_eq_true rfl) (by decide) ?_
    obtain ⟨u27, e28, E⟩ := gb_some E
    obtain ⟨r24, g25, e26, E⟩ := cb_some E
    refine r_callV0 X hl0 (ci := 9) dX9_shiversUntilDawn_35 y_X9_comeBack m_X9_238 rfl rfl e28 (t_x9_comeBack (l := l) (G := G) e26) rfl rfl (Nat.le_of_ble_eq_true rfl) (by decide) ?_
    cases E
    exact r_iret X hr dX9_shiversUntilDawn_38 (by decide) (by decide)
  · rw [if_pos c8] at E
    refine r_aload_n X 0 dX9_shiversUntilDawn_13 rfl rfl ?_
    refine r_iconst X (v := 1) dX9_shiversUntilDawn_14 (by decide) ?_
    obtain ⟨u32, e33, E⟩ := gb_some E
    obtain ⟨r29, g30, e31, E⟩ := cb_some E
    refine r_callV0 X hl0 (ci := 9) dX9_shiversUntilDawn_15 y_X9_fail m_X9_141 rfl rfl e33 (t_x9_fail (l := l) (G := G) e31) rfl rfl (Nat.le_of_ble_eq_true rfl) (by decide) ?_
    cases E
    exact r_iret X hr dX9_shiversUntilDawn_18 (by decide) (by decide)
theorem t_x9_shiversUntilDawn {l : Launch} {G : GG} {p : Nat} {b0 : Int32} {g : AH} {r : Int32} {g1 : AH} (E : x9_shiversUntilDawn p b0 g = some (r, g1)) : Ct l G yX9_shiversUntilDawn cX9_shiversUntilDawn 2 (some .int) ⟨13, 0, 0, 322⟩ [.ref p, .int b0] g (some (.int r)) g1 :=
  ct_of (L0 := [(0, .ref p), (1, .int b0)]) y_X9_shiversUntilDawn rfl (Nat.le_of_ble_eq_true rfl) fun M hl0 X hr hnm => t_x9_shiversUntilDawn_b X hl0 hr hnm E
set_option maxHeartbeats 4000000 in
set_option maxRecDepth 100000 in
theorem t_x9_dueAtDawn_b {l : Launch} {G : GG} {M : MC} (X : CX M G cX9_dueAtDawn 2 RX9 ⟨12, 0, 0, 298⟩) (hl0 : M.2.1 = l) (hr : (mM M).sig.returnType = (some .int)) (hnm : (mM M).name = yX9_dueAtDawn.name) {p : Nat} {b0 : Int32} {g : AH} {r : Int32} {g1 : AH} (E : x9_dueAtDawn p b0 g = some (r, g1)) : WW M G 2 (RQ M G (some (.int r)) g1 0 0) 0 0 g 0 [(0, .ref p), (1, .int b0)] [] := by
  unfold x9_dueAtDawn at E
  refine r_aload_n X 0 dX9_dueAtDawn_0 rfl rfl ?_
  refine r_aload_n X 0 dX9_dueAtDawn_1 rfl rfl ?_
  obtain ⟨u4, e5, E⟩ := gb_some E
  obtain ⟨r1, g2, e3, E⟩ := cb_some E
  refine r_callV0 X hl0 (ci := 9) dX9_dueAtDawn_2 y_X9_toDawn m_X9_308 rfl rfl e5 (t_x9_toDawn (l := l) (G := G) e3) rfl rfl (Nat.le_of_ble_eq_true rfl) (by decide) ?_
  obtain ⟨u9, e10, E⟩ := gb_some E
  obtain ⟨r6, g7, e8, E⟩ := cb_some E
  refine r_callV0 X hl0 (ci := 9) dX9_dueAtDawn_5 y_X9_passMany m_X9_385 rfl rfl e10 (t_x9_passMany (l := l) (G := G) e8) rfl rfl (Nat.le_of_ble_eq_true rfl) (by decide) ?_
  refine r_aload_n X 0 dX9_dueAtDawn_8 rfl rfl ?_
  obtain ⟨x11, e12, E⟩ := gb_some E
  refine r_getR X dX9_dueAtDawn_9 f_X9_26 e12 ?_
  refine r_iload_n X 1 dX9_dueAtDawn_12 rfl rfl ?_
  obtain ⟨x13, e14, E⟩ := gb_some E
  refine r_iald X dX9_dueAtDawn_13 e14 ?_
  cases E
  exact r_iret X hr dX9_dueAtDawn_14 (by decide) (by decide)
theorem t_x9_dueAtDawn {l : Launch} {G : GG} {p : Nat} {b0 : Int32} {g : AH} {r : Int32} {g1 : AH} (E : x9_dueAtDawn p b0 g = some (r, g1)) : Ct l G yX9_dueAtDawn cX9_dueAtDawn 2 (some .int) ⟨12, 0, 0, 298⟩ [.ref p, .int b0] g (some (.int r)) g1 :=
  ct_of (L0 := [(0, .ref p), (1, .int b0)]) y_X9_dueAtDawn rfl (Nat.le_of_ble_eq_true rfl) fun M hl0 X hr hnm => t_x9_dueAtDawn_b X hl0 hr hnm E
set_option maxHeartbeats 4000000 in
set_option maxRecDepth 100000 in
theorem t_x9_paymentAtDawn_b {l : Launch} {G : GG} {M : MC} (X : CX M G cX9_paymentAtDawn 2 RX9 ⟨13, 0, 0, 319⟩) (hl0 : M.2.1 = l) (hr : (mM M).sig.returnType = (some .int)) (hnm : (mM M).name = yX9_paymentAtDawn.name) {p : Nat} {b0 : Int32} {g : AH} {r : Int32} {g1 : AH} (E : x9_paymentAtDawn p b0 g = some (r, g1)) : WW M G 2 (RQ M G (some (.int r)) g1 0 0) 0 0 g 0 [(0, .ref p), (1, .int b0)] [] := by
  unfold x9_paymentAtDawn at E
  refine r_aload_n X 0 dX9_paymentAtDawn_0 rfl rfl ?_
  refine r_iconst X (v := 0) dX9_paymentAtDawn_1 (by decide) ?_
  obtain ⟨g1, e2, E⟩ := gb_some E
  refine r_put X dX9_paymentAtDawn_2 f_X9_57 rfl rfl e2 ?_
  refine r_aload_n X 0 dX9_paymentAtDawn_5 rfl rfl ?_
  refine r_iload_n X 1 dX9_paymentAtDawn_6 rfl rfl ?_
  obtain ⟨u6, e7, E⟩ := gb_some E
  obtain ⟨r3, g4, e5, E⟩ := cb_some E
  refine r_callV0 X hl0 (ci := 9) dX9_paymentAtDawn_7 y_X9_isHiker m_X9_324 rfl rfl e7 (t_x9_isHiker (l := l) (G := G) e5) rfl rfl (Nat.le_of_ble_eq_true rfl) (by decide) ?_
  refine r_if_ne X 19 dX9_paymentAtDawn_10 (by decide) (fun c8 => ?_) (fun c8 => ?_)
  · rw [if_neg c8] at E
    refine r_aload_n X 0 dX9_paymentAtDawn_19 rfl rfl ?_
    obtain ⟨u12, e13, E⟩ := gb_some E
    obtain ⟨r9, g10, e11, E⟩ := cb_some E
    refine r_callV0 X hl0 (ci := 9) dX9_paymentAtDawn_20 y_X9_goAside m_X9_229 rfl rfl e13 (t_x9_goAside (l := l) (G := G) e11) rfl rfl (Nat.le_of_ble_eq_true rfl) (by decide) ?_
    refine r_aload_n X 0 dX9_paymentAtDawn_23 rfl rfl ?_
    refine r_aload_n X 0 dX9_paymentAtDawn_24 rfl rfl ?_
    refine r_iload_n X 1 dX9_paymentAtDawn_25 rfl rfl ?_
    obtain ⟨u17, e18, E⟩ := gb_some E
    obtain ⟨r14, g15, e16, E⟩ := cb_some E
    refine r_callV0 X hl0 (ci := 9) dX9_paymentAtDawn_26 y_X9_dueAtDawn m_X9_398 rfl rfl e18 (t_x9_dueAtDawn (l := l) (G := G) e16) rfl rfl (Nat.le_of_ble_eq_true rfl) (by decide) ?_
    obtain ⟨u22, e23, E⟩ := gb_some E
    obtain ⟨r19, g20, e21, E⟩ := cb_some E
    refine r_callV0 X hl0 (ci := 9) dX9_paymentAtDawn_29 y_X9_comeBack m_X9_238 rfl rfl e23 (t_x9_comeBack (l := l) (G := G) e21) rfl rfl (Nat.le_of_ble_eq_true rfl) (by decide) ?_
    cases E
    exact r_iret X hr dX9_paymentAtDawn_32 (by decide) (by decide)
  · rw [if_pos c8] at E
    refine r_aload_n X 0 dX9_paymentAtDawn_13 rfl rfl ?_
    refine r_iconst X (v := 1) dX9_paymentAtDawn_14 (by decide) ?_
    obtain ⟨u27, e28, E⟩ := gb_some E
    obtain ⟨r24, g25, e26, E⟩ := cb_some E
    refine r_callV0 X hl0 (ci := 9) dX9_paymentAtDawn_15 y_X9_fail m_X9_141 rfl rfl e28 (t_x9_fail (l := l) (G := G) e26) rfl rfl (Nat.le_of_ble_eq_true rfl) (by decide) ?_
    cases E
    exact r_iret X hr dX9_paymentAtDawn_18 (by decide) (by decide)
theorem t_x9_paymentAtDawn {l : Launch} {G : GG} {p : Nat} {b0 : Int32} {g : AH} {r : Int32} {g1 : AH} (E : x9_paymentAtDawn p b0 g = some (r, g1)) : Ct l G yX9_paymentAtDawn cX9_paymentAtDawn 2 (some .int) ⟨13, 0, 0, 319⟩ [.ref p, .int b0] g (some (.int r)) g1 :=
  ct_of (L0 := [(0, .ref p), (1, .int b0)]) y_X9_paymentAtDawn rfl (Nat.le_of_ble_eq_true rfl) fun M hl0 X hr hnm => t_x9_paymentAtDawn_b X hl0 hr hnm E
set_option maxHeartbeats 4000000 in
set_option maxRecDepth 100000 in
theorem t_x9_debtBehind_b {l : Launch} {G : GG} {M : MC} (X : CX M G cX9_debtBehind 3 RX9 ⟨12, 0, 0, 298⟩) (hl0 : M.2.1 = l) (hr : (mM M).sig.returnType = (some .int)) (hnm : (mM M).name = yX9_debtBehind.name) {p : Nat} {b0 : Int32} {b1 : Int32} {g : AH} {r : Int32} {g1 : AH} (E : x9_debtBehind p b0 b1 g = some (r, g1)) : WW M G 3 (RQ M G (some (.int r)) g1 0 0) 0 0 g 0 [(0, .ref p), (1, .int b0), (2, .int b1)] [] := by
  unfold x9_debtBehind at E
  refine r_aload_n X 0 dX9_debtBehind_0 rfl rfl ?_
  refine r_iload_n X 2 dX9_debtBehind_1 rfl rfl ?_
  obtain ⟨u4, e5, E⟩ := gb_some E
  obtain ⟨r1, g2, e3, E⟩ := cb_some E
  refine r_callV0 X hl0 (ci := 9) dX9_debtBehind_2 y_X9_passMany m_X9_385 rfl rfl e5 (t_x9_passMany (l := l) (G := G) e3) rfl rfl (Nat.le_of_ble_eq_true rfl) (by decide) ?_
  refine r_aload_n X 0 dX9_debtBehind_5 rfl rfl ?_
  refine r_iload_n X 1 dX9_debtBehind_6 rfl rfl ?_
  refine r_iconst X (v := 3) dX9_debtBehind_7 (by decide) ?_
  obtain ⟨u9, e10, E⟩ := gb_some E
  obtain ⟨r6, g7, e8, E⟩ := cb_some E
  refine r_callV0 X hl0 (ci := 9) dX9_debtBehind_8 y_X9_get m_X9_64 rfl rfl e10 (t_x9_get (l := l) (G := G) e8) rfl rfl (Nat.le_of_ble_eq_true rfl) (by decide) ?_
  cases E
  exact r_iret X hr dX9_debtBehind_11 (by decide) (by decide)
theorem t_x9_debtBehind {l : Launch} {G : GG} {p : Nat} {b0 : Int32} {b1 : Int32} {g : AH} {r : Int32} {g1 : AH} (E : x9_debtBehind p b0 b1 g = some (r, g1)) : Ct l G yX9_debtBehind cX9_debtBehind 3 (some .int) ⟨12, 0, 0, 298⟩ [.ref p, .int b0, .int b1] g (some (.int r)) g1 :=
  ct_of (L0 := [(0, .ref p), (1, .int b0), (2, .int b1)]) y_X9_debtBehind rfl (Nat.le_of_ble_eq_true rfl) fun M hl0 X hr hnm => t_x9_debtBehind_b X hl0 hr hnm E
set_option maxHeartbeats 4000000 in
set_option maxRecDepth 100000 in
theorem t_x9_debtAfter_j25 {l : Launch} {G : GG} {M : MC} (X : CX M G cX9_debtAfter 3 RX9 ⟨13, 0, 0, 320⟩) (hl0 : M.2.1 = l) (hr : (mM M).sig.returnType = (some .int)) (hnm : (mM M).name = yX9_debtAfter.name) {a0 : Nat} {a1 : Int32} {a2 : Int32} {s0 : Int32} {s1 : Nat} {g : AH} {r : Int32} {g1 : AH} (E : x9_debtAfter_j25 a0 a1 a2 s0 s1 g = some (r, g1)) : WW M G 3 (RQ M G (some (.int r)) g1 0 0) 0 0 g 25 [(0, .ref a0), (1, .int a1), (2, .int a2)] [.int s0, .ref s1] := by
  unfold x9_debtAfter_j25 at E
  obtain ⟨g1, e2, E⟩ := gb_some E
  refine r_put X dX9_debtAfter_25 f_X9_57 rfl rfl e2 ?_
  refine r_aload_n X 0 dX9_debtAfter_28 rfl rfl ?_
  obtain ⟨x3, e4, E⟩ := gb_some E
  refine r_getI X dX9_debtAfter_29 f_X9_57 e4 ?_
  refine r_if_le X 37 dX9_debtAfter_32 (by decide) (fun c5 => ?_) (fun c5 => ?_)
  · rw [if_pos c5] at E
    refine r_aload_n X 0 dX9_debtAfter_37 rfl rfl ?_
    obtain ⟨u9, e10, E⟩ := gb_some E
    obtain ⟨r6, g7, e8, E⟩ := cb_some E
    refine r_callV0 X hl0 (ci := 9) dX9_debtAfter_38 y_X9_goAside m_X9_229 rfl rfl e10 (t_x9_goAside (l := l) (G := G) e8) rfl rfl (Nat.le_of_ble_eq_true rfl) (by decide) ?_
    refine r_aload_n X 0 dX9_debtAfter_41 rfl rfl ?_
    refine r_aload_n X 0 dX9_debtAfter_42 rfl rfl ?_
    refine r_iload_n X 1 dX9_debtAfter_43 rfl rfl ?_
    refine r_iload_n X 2 dX9_debtAfter_44 rfl rfl ?_
    obtain ⟨u14, e15, E⟩ := gb_some E
    obtain ⟨r11, g12, e13, E⟩ := cb_some E
    refine r_callV0 X hl0 (ci := 9) dX9_debtAfter_45 y_X9_debtBehind m_X9_401 rfl rfl e15 (t_x9_debtBehind (l := l) (G := G) e13) rfl rfl (Nat.le_of_ble_eq_true rfl) (by decide) ?_
    obtain ⟨u19, e20, E⟩ := gb_some E
    obtain ⟨r16, g17, e18, E⟩ := cb_some E
    refine r_callV0 X hl0 (ci := 9) dX9_debtAfter_48 y_X9_comeBack m_X9_238 rfl rfl e20 (t_x9_comeBack (l := l) (G := G) e18) rfl rfl (Nat.le_of_ble_eq_true rfl) (by decide) ?_
    cases E
    exact r_iret X hr dX9_debtAfter_51 (by decide) (by decide)
  · rw [if_neg c5] at E
    refine r_iconst X (v := 0) dX9_debtAfter_35 (by decide) ?_
    cases E
    exact r_iret X hr dX9_debtAfter_36 (by decide) (by decide)
set_option maxHeartbeats 4000000 in
set_option maxRecDepth 100000 in
theorem t_x9_debtAfter_b {l : Launch} {G : GG} {M : MC} (X : CX M G cX9_debtAfter 3 RX9 ⟨13, 0, 0, 320⟩) (hl0 : M.2.1 = l) (hr : (mM M).sig.returnType = (some .int)) (hnm : (mM M).name = yX9_debtAfter.name) {p : Nat} {b0 : Int32} {b1 : Int32} {g : AH} {r : Int32} {g1 : AH} (E : x9_debtAfter p b0 b1 g = some (r, g1)) : WW M G 3 (RQ M G (some (.int r)) g1 0 0) 0 0 g 0 [(0, .ref p), (1, .int b0), (2, .int b1)] [] := by
  unfold x9_debtAfter at E
  refine r_aload_n X 0 dX9_debtAfter_0 rfl rfl ?_
  refine r_aload_n X 0 dX9_debtAfter_1 rfl rfl ?_
  refine r_iload_n X 1 dX9_debtAfter_2 rfl rfl ?_
  obtain ⟨u4, e5, E⟩ := gb_some E
  obtain ⟨r1, g2, e3, E⟩ := cb_some E
  refine r_callV0 X hl0 (ci := 9) dX9_debtAfter_3 y_X9_isHiker m_X9_324 rfl rfl e5 (t_x9_isHiker (l := l) (G := G) e3) rfl rfl (Nat.le_of_ble_eq_true rfl) (by decide) ?_
  refine r_if_ne X 13 dX9_debtAfter_6 (by decide) (fun c6 => ?_) (fun c6 => ?_)
  · rw [if_neg c6] at E
    refine r_iload_n X 2 dX9_debtAfter_13 rfl rfl ?_
    obtain ⟨r7, g8, e9, E⟩ := cb_some E
    refine r_callS0 X hl0 dX9_debtAfter_14 y_X9_isAheadOfNow m_X9_388 (t_x9_isAheadOfNow (l := l) (G := G) e9) rfl rfl (Nat.le_of_ble_eq_true rfl) (by decide) ?_
    refine r_if_eq X 24 dX9_debtAfter_17 (by decide) (fun c10 => ?_) (fun c10 => ?_)
    · rw [if_pos c10] at E
      refine r_iconst X (v := 2) dX9_debtAfter_24 (by decide) ?_
      exact r_pick (by rfl : lpick [(0, .ref p), (1, .int b0), (2, .int b1)] [0, 1, 2] = _) (t_x9_debtAfter_j25 X hl0 hr hnm E)
    · rw [if_neg c10] at E
      refine r_iconst X (v := 0) dX9_debtAfter_20 (by decide) ?_
      refine r_goto X 25 dX9_debtAfter_21 (by decide) ?_
      exact r_pick (by rfl : lpick [(0, .ref p), (1, .int b0), (2, .int b1)] [0, 1, 2] = _) (t_x9_debtAfter_j25 X hl0 hr hnm E)
  · rw [if_pos c6] at E
    refine r_iconst X (v := 1) dX9_debtAfter_9 (by decide) ?_
    refine r_goto X 25 dX9_debtAfter_10 (by decide) ?_
    exact r_pick (by rfl : lpick [(0, .ref p), (1, .int b0), (2, .int b1)] [0, 1, 2] = _) (t_x9_debtAfter_j25 X hl0 hr hnm E)
theorem t_x9_debtAfter {l : Launch} {G : GG} {p : Nat} {b0 : Int32} {b1 : Int32} {g : AH} {r : Int32} {g1 : AH} (E : x9_debtAfter p b0 b1 g = some (r, g1)) : Ct l G yX9_debtAfter cX9_debtAfter 3 (some .int) ⟨13, 0, 0, 320⟩ [.ref p, .int b0, .int b1] g (some (.int r)) g1 :=
  ct_of (L0 := [(0, .ref p), (1, .int b0), (2, .int b1)]) y_X9_debtAfter rfl (Nat.le_of_ble_eq_true rfl) fun M hl0 X hr hnm => t_x9_debtAfter_b X hl0 hr hnm E
set_option maxHeartbeats 4000000 in
set_option maxRecDepth 100000 in
theorem t_x9_dawnsToDebt_l2 {l : Launch} {G : GG} {M : MC} (X : CX M G cX9_dawnsToDebt 3 RX9 ⟨12, 0, 0, 298⟩) (hl0 : M.2.1 = l) (hr : (mM M).sig.returnType = (some .int)) (hnm : (mM M).name = yX9_dawnsToDebt.name) {Q : State → Prop} {kc ks : Nat} {s9 : ((Int32) ⊕ ((Unit) ⊕ Int32))} {g1 : AH} {a0 : Nat} {a1 : Int32} {s0 : Int32} (hc : ∀ s1, s9 = .inl s1 → WW M G 3 Q kc ks g1 2 [(0, .ref a0), (1, .int a1), (2, .int s1)] []) (hx : ∀ t, s9 = .inr t → Sum.elim (fun t1 => WW M G 3 Q kc ks g1 33 [] []) (fun t2 => ∃ mc ms : Nat, kc ≤ mc ∧ ks ≤ ms ∧ Q = RQ M G (some (.int t2)) g1 mc ms) t) {g : AH} (E : x9_dawnsToDebt_l2 a0 a1 s0 g = some (s9, g1)) : WW M G 3 Q kc ks g 2 [(0, .ref a0), (1, .int a1), (2, .int s0)] [] := by
  unfold x9_dawnsToDebt_l2 at E
  refine r_iload_n X 2 dX9_dawnsToDebt_2 rfl rfl ?_
  refine r_bipush X (v := 12) dX9_dawnsToDebt_3 (by decide) ?_
  refine r_icmp_gt X 33 dX9_dawnsToDebt_5 (by decide) (fun c1 => ?_) (fun c1 => ?_)
  · rw [if_pos c1] at E
    cases E
    exact r_pick (by rfl : lpick [(0, .ref a0), (1, .int a1), (2, .int s0)] [] = _) (hx _ rfl)
  · rw [if_neg c1] at E
    refine r_aload_n X 0 dX9_dawnsToDebt_8 rfl rfl ?_
    refine r_iload_n X 1 dX9_dawnsToDebt_9 rfl rfl ?_
    refine r_iconst X (v := 3) dX9_dawnsToDebt_10 (by decide) ?_
    obtain ⟨u5, e6, E⟩ := gb_some E
    obtain ⟨r2, g3, e4, E⟩ := cb_some E
    refine r_callV0 X hl0 (ci := 9) dX9_dawnsToDebt_11 y_X9_get m_X9_64 rfl rfl e6 (t_x9_get (l := l) (G := G) e4) rfl rfl (Nat.le_of_ble_eq_true rfl) (by decide) ?_
    refine r_if_le X 19 dX9_dawnsToDebt_14 (by decide) (fun c7 => ?_) (fun c7 => ?_)
    · rw [if_pos c7] at E
      refine r_aload_n X 0 dX9_dawnsToDebt_19 rfl rfl ?_
      refine r_aload_n X 0 dX9_dawnsToDebt_20 rfl rfl ?_
      obtain ⟨u11, e12, E⟩ := gb_some E
      obtain ⟨r8, g9, e10, E⟩ := cb_some E
      refine r_callV0 X hl0 (ci := 9) dX9_dawnsToDebt_21 y_X9_toDawn m_X9_308 rfl rfl e12 (t_x9_toDawn (l := l) (G := G) e10) rfl rfl (Nat.le_of_ble_eq_true rfl) (by decide) ?_
      obtain ⟨u16, e17, E⟩ := gb_some E
      obtain ⟨r13, g14, e15, E⟩ := cb_some E
      refine r_callV0 X hl0 (ci := 9) dX9_dawnsToDebt_24 y_X9_passMany m_X9_385 rfl rfl e17 (t_x9_passMany (l := l) (G := G) e15) rfl rfl (Nat.le_of_ble_eq_true rfl) (by decide) ?_
      refine r_iinc X (v := (s0 + 1)) (L1 := [(2, .int (s0 + 1)), (0, .ref a0), (1, .int a1)]) dX9_dawnsToDebt_27 rfl rfl (by decide) rfl ?_
      refine r_goto X 2 dX9_dawnsToDebt_30 (by decide) ?_
      cases E
      exact r_pick (by rfl : lpick [(2, .int (s0 + 1)), (0, .ref a0), (1, .int a1)] [1, 2, 0] = _) (hc _ rfl)
    · rw [if_neg c7] at E
      refine r_iload_n X 2 dX9_dawnsToDebt_17 rfl rfl ?_
      cases E
      obtain ⟨mc9, ms9, h91, h92, rfl⟩ := hx _ rfl
      exact r_iret X hr dX9_dawnsToDebt_18 h91 h92
set_option maxHeartbeats 4000000 in
theorem t_x9_dawnsToDebt_l2_r {l : Launch} {G : GG} {M : MC} (X : CX M G cX9_dawnsToDebt 3 RX9 ⟨12, 0, 0, 298⟩) (hl0 : M.2.1 = l) (hr : (mM M).sig.returnType = (some .int)) (hnm : (mM M).name = yX9_dawnsToDebt.name) {Q : State → Prop} {kc ks : Nat} {a0 : Nat} {a1 : Int32} : ∀ (n : Nat) (s0 : Int32) (g : AH) (t : ((Unit) ⊕ Int32)) (g1 : AH), loopX (x9_dawnsToDebt_l2 a0 a1) n s0 g = some (t, g1) → Sum.elim (fun t1 => WW M G 3 Q kc ks g1 33 [] []) (fun t2 => ∃ mc ms : Nat, kc ≤ mc ∧ ks ≤ ms ∧ Q = RQ M G (some (.int t2)) g1 mc ms) t → WW M G 3 Q kc ks g 2 [(0, .ref a0), (1, .int a1), (2, .int s0)] [] :=
  loop_cps (K := fun t g1 => Sum.elim (fun t1 => WW M G 3 Q kc ks g1 33 [] []) (fun t2 => ∃ mc ms : Nat, kc ≤ mc ∧ ks ≤ ms ∧ Q = RQ M G (some (.int t2)) g1 mc ms) t) (fun _ s0 g => WW M G 3 Q kc ks g 2 [(0, .ref a0), (1, .int a1), (2, .int s0)] []) (fun n s0 g st g1 E hc hx => t_x9_dawnsToDebt_l2 X hl0 hr hnm hc hx E)
set_option maxHeartbeats 4000000 in
set_option maxRecDepth 100000 in
theorem t_x9_dawnsToDebt_b {l : Launch} {G : GG} {M : MC} (X : CX M G cX9_dawnsToDebt 3 RX9 ⟨12, 0, 0, 298⟩) (hl0 : M.2.1 = l) (hr : (mM M).sig.returnType = (some .int)) (hnm : (mM M).name = yX9_dawnsToDebt.name) {p : Nat} {b0 : Int32} {g : AH} {r : Int32} {g1 : AH} (E : x9_dawnsToDebt p b0 g = some (r, g1)) : WW M G 3 (RQ M G (some (.int r)) g1 0 0) 0 0 g 0 [(0, .ref p), (1, .int b0)] [] := by
  unfold x9_dawnsToDebt at E
  refine r_iconst X (v := 0) dX9_dawnsToDebt_0 (by decide) ?_
  refine r_istore_n X 2 (L1 := [(2, .int 0), (0, .ref p), (1, .int b0)]) dX9_dawnsToDebt_1 rfl (by decide) rfl ?_
  obtain ⟨t1, g2, e3, E⟩ := cb_some E
  rcases t1 with t4 | t5
  · rw [Sum.elim_inl] at E
    refine r_pick (by rfl : lpick [(2, .int 0), (0, .ref p), (1, .int b0)] [1, 2, 0] = _) (t_x9_dawnsToDebt_l2_r X hl0 hr hnm _ _ _ _ _ e3 ?_)
    refine r_iconst X (v := (-1)) dX9_dawnsToDebt_33 (by decide) ?_
    cases E
    exact r_iret X hr dX9_dawnsToDebt_34 (by decide) (by decide)
  · rw [Sum.elim_inr] at E
    cases E
    exact r_pick (by rfl : lpick [(2, .int 0), (0, .ref p), (1, .int b0)] [1, 2, 0] = _) (t_x9_dawnsToDebt_l2_r X hl0 hr hnm _ _ _ _ _ e3 ⟨_, _, by decide, by decide, rfl⟩)
theorem t_x9_dawnsToDebt {l : Launch} {G : GG} {p : Nat} {b0 : Int32} {g : AH} {r : Int32} {g1 : AH} (E : x9_dawnsToDebt p b0 g = some (r, g1)) : Ct l G yX9_dawnsToDebt cX9_dawnsToDebt 3 (some .int) ⟨12, 0, 0, 298⟩ [.ref p, .int b0] g (some (.int r)) g1 :=
  ct_of (L0 := [(0, .ref p), (1, .int b0)]) y_X9_dawnsToDebt rfl (Nat.le_of_ble_eq_true rfl) fun M hl0 X hr hnm => t_x9_dawnsToDebt_b X hl0 hr hnm E
set_option maxHeartbeats 4000000 in
set_option maxRecDepth 100000 in
theorem t_x9_dawnsUntilDebt_b {l : Launch} {G : GG} {M : MC} (X : CX M G cX9_dawnsUntilDebt 2 RX9 ⟨13, 0, 0, 320⟩) (hl0 : M.2.1 = l) (hr : (mM M).sig.returnType = (some .int)) (hnm : (mM M).name = yX9_dawnsUntilDebt.name) {p : Nat} {b0 : Int32} {g : AH} {r : Int32} {g1 : AH} (E : x9_dawnsUntilDebt p b0 g = some (r, g1)) : WW M G 2 (RQ M G (some (.int r)) g1 0 0) 0 0 g 0 [(0, .ref p), (1, .int b0)] [] := by
  unfold x9_dawnsUntilDebt at E
  refine r_aload_n X 0 dX9_dawnsUntilDebt_0 rfl rfl ?_
  refine r_iconst X (v := 0) dX9_dawnsUntilDebt_1 (by decide) ?_
  obtain ⟨g1, e2, E⟩ := gb_some E
  refine r_put X dX9_dawnsUntilDebt_2 f_X9_57 rfl rfl e2 ?_
  refine r_aload_n X 0 dX9_dawnsUntilDebt_5 rfl rfl ?_
  refine r_iload_n X 1 dX9_dawnsUntilDebt_6 rfl rfl ?_
  obtain ⟨u6, e7, E⟩ := gb_some E
  obtain ⟨r3, g4, e5, E⟩ := cb_some E
  refine r_callV0 X hl0 (ci := 9) dX9_dawnsUntilDebt_7 y_X9_isHiker m_X9_324 rfl rfl e7 (t_x9_isHiker (l := l) (G := G) e5) rfl rfl (Nat.le_of_ble_eq_true rfl) (by decide) ?_
  refine r_if_ne X 19 dX9_dawnsUntilDebt_10 (by decide) (fun c8 => ?_) (fun c8 => ?_)
  · rw [if_neg c8] at E
    refine r_aload_n X 0 dX9_dawnsUntilDebt_19 rfl rfl ?_
    obtain ⟨u12, e13, E⟩ := gb_some E
    obtain ⟨r9, g10, e11, E⟩ := cb_some E
    refine r_callV0 X hl0 (ci := 9) dX9_dawnsUntilDebt_20 y_X9_goAside m_X9_229 rfl rfl e13 (t_x9_goAside (l := l) (G := G) e11) rfl rfl (Nat.le_of_ble_eq_true rfl) (by decide) ?_
    refine r_aload_n X 0 dX9_dawnsUntilDebt_23 rfl rfl ?_
    refine r_aload_n X 0 dX9_dawnsUntilDebt_24 rfl rfl ?_
    refine r_iload_n X 1 dX9_dawnsUntilDebt_25 rfl rfl ?_
    obtain ⟨u17, e18, E⟩ := gb_some E
    obtain ⟨r14, g15, e16, E⟩ := cb_some E
    refine r_callV0 X hl0 (ci := 9) dX9_dawnsUntilDebt_26 y_X9_dawnsToDebt m_X9_404 rfl rfl e18 (t_x9_dawnsToDebt (l := l) (G := G) e16) rfl rfl (Nat.le_of_ble_eq_true rfl) (by decide) ?_
    obtain ⟨u22, e23, E⟩ := gb_some E
    obtain ⟨r19, g20, e21, E⟩ := cb_some E
    refine r_callV0 X hl0 (ci := 9) dX9_dawnsUntilDebt_29 y_X9_comeBack m_X9_238 rfl rfl e23 (t_x9_comeBack (l := l) (G := G) e21) rfl rfl (Nat.le_of_ble_eq_true rfl) (by decide) ?_
    cases E
    exact r_iret X hr dX9_dawnsUntilDebt_32 (by decide) (by decide)
  · rw [if_pos c8] at E
    refine r_aload_n X 0 dX9_dawnsUntilDebt_13 rfl rfl ?_
    refine r_iconst X (v := 1) dX9_dawnsUntilDebt_14 (by decide) ?_
    obtain ⟨u27, e28, E⟩ := gb_some E
    obtain ⟨r24, g25, e26, E⟩ := cb_some E
    refine r_callV0 X hl0 (ci := 9) dX9_dawnsUntilDebt_15 y_X9_fail m_X9_141 rfl rfl e28 (t_x9_fail (l := l) (G := G) e26) rfl rfl (Nat.le_of_ble_eq_true rfl) (by decide) ?_
    cases E
    exact r_iret X hr dX9_dawnsUntilDebt_18 (by decide) (by decide)
theorem t_x9_dawnsUntilDebt {l : Launch} {G : GG} {p : Nat} {b0 : Int32} {g : AH} {r : Int32} {g1 : AH} (E : x9_dawnsUntilDebt p b0 g = some (r, g1)) : Ct l G yX9_dawnsUntilDebt cX9_dawnsUntilDebt 2 (some .int) ⟨13, 0, 0, 320⟩ [.ref p, .int b0] g (some (.int r)) g1 :=
  ct_of (L0 := [(0, .ref p), (1, .int b0)]) y_X9_dawnsUntilDebt rfl (Nat.le_of_ble_eq_true rfl) fun M hl0 X hr hnm => t_x9_dawnsUntilDebt_b X hl0 hr hnm E
set_option maxHeartbeats 4000000 in
set_option maxRecDepth 100000 in
theorem t_x9_hoursToNoLogs_l2 {l : Launch} {G : GG} {M : MC} (X : CX M G cX9_hoursToNoLogs 2 RX9 ⟨11, 0, 0, 276⟩) (hl0 : M.2.1 = l) (hr : (mM M).sig.returnType = (some .int)) (hnm : (mM M).name = yX9_hoursToNoLogs.name) {Q : State → Prop} {kc ks : Nat} {s9 : ((Int32) ⊕ ((Unit) ⊕ Int32))} {g1 : AH} {a0 : Nat} {s0 : Int32} (hc : ∀ s1, s9 = .inl s1 → WW M G 2 Q kc ks g1 2 [(0, .ref a0), (1, .int s1)] []) (hx : ∀ t, s9 = .inr t → Sum.elim (fun t1 => WW M G 2 Q kc ks g1 29 [] []) (fun t2 => ∃ mc ms : Nat, kc ≤ mc ∧ ks ≤ ms ∧ Q = RQ M G (some (.int t2)) g1 mc ms) t) {g : AH} (E : x9_hoursToNoLogs_l2 a0 s0 g = some (s9, g1)) : WW M G 2 Q kc ks g 2 [(0, .ref a0), (1, .int s0)] [] := by
  unfold x9_hoursToNoLogs_l2 at E
  refine r_iload_n X 1 dX9_hoursToNoLogs_2 rfl rfl ?_
  refine r_bipush X (v := 96) dX9_hoursToNoLogs_3 (by decide) ?_
  refine r_icmp_gt X 29 dX9_hoursToNoLogs_5 (by decide) (fun c1 => ?_) (fun c1 => ?_)
  · rw [if_pos c1] at E
    cases E
    exact r_pick (by rfl : lpick [(0, .ref a0), (1, .int s0)] [] = _) (hx _ rfl)
  · rw [if_neg c1] at E
    refine r_aload_n X 0 dX9_hoursToNoLogs_8 rfl rfl ?_
    obtain ⟨x2, e3, E⟩ := gb_some E
    refine r_getR X dX9_hoursToNoLogs_9 f_X9_7 e3 ?_
    refine r_iconst X (v := 0) dX9_hoursToNoLogs_12 (by decide) ?_
    obtain ⟨x4, e5, E⟩ := gb_some E
    refine r_iald X dX9_hoursToNoLogs_13 e5 ?_
    refine r_if_ne X 19 dX9_hoursToNoLogs_14 (by decide) (fun c6 => ?_) (fun c6 => ?_)
    · rw [if_neg c6] at E
      refine r_aload_n X 0 dX9_hoursToNoLogs_19 rfl rfl ?_
      obtain ⟨u10, e11, E⟩ := gb_some E
      obtain ⟨r7, g8, e9, E⟩ := cb_some E
      refine r_callV0 X hl0 (ci := 9) dX9_hoursToNoLogs_20 y_X9_passHour m_X9_135 rfl rfl e11 (t_x9_passHour (l := l) (G := G) e9) rfl rfl (Nat.le_of_ble_eq_true rfl) (by decide) ?_
      refine r_iinc X (v := (s0 + 1)) (L1 := [(1, .int (s0 + 1)), (0, .ref a0)]) dX9_hoursToNoLogs_23 rfl rfl (by decide) rfl ?_
      refine r_goto X 2 dX9_hoursToNoLogs_26 (by decide) ?_
      cases E
      exact r_pick (by rfl : lpick [(1, .int (s0 + 1)), (0, .ref a0)] [1, 0] = _) (hc _ rfl)
    · rw [if_pos c6] at E
      refine r_iload_n X 1 dX9_hoursToNoLogs_17 rfl rfl ?_
      cases E
      obtain ⟨mc9, ms9, h91, h92, rfl⟩ := hx _ rfl
      exact r_iret X hr dX9_hoursToNoLogs_18 h91 h92
set_option maxHeartbeats 4000000 in
theorem t_x9_hoursToNoLogs_l2_r {l : Launch} {G : GG} {M : MC} (X : CX M G cX9_hoursToNoLogs 2 RX9 ⟨11, 0, 0, 276⟩) (hl0 : M.2.1 = l) (hr : (mM M).sig.returnType = (some .int)) (hnm : (mM M).name = yX9_hoursToNoLogs.name) {Q : State → Prop} {kc ks : Nat} {a0 : Nat} : ∀ (n : Nat) (s0 : Int32) (g : AH) (t : ((Unit) ⊕ Int32)) (g1 : AH), loopX (x9_hoursToNoLogs_l2 a0) n s0 g = some (t, g1) → Sum.elim (fun t1 => WW M G 2 Q kc ks g1 29 [] []) (fun t2 => ∃ mc ms : Nat, kc ≤ mc ∧ ks ≤ ms ∧ Q = RQ M G (some (.int t2)) g1 mc ms) t → WW M G 2 Q kc ks g 2 [(0, .ref a0), (1, .int s0)] [] :=
  loop_cps (K := fun t g1 => Sum.elim (fun t1 => WW M G 2 Q kc ks g1 29 [] []) (fun t2 => ∃ mc ms : Nat, kc ≤ mc ∧ ks ≤ ms ∧ Q = RQ M G (some (.int t2)) g1 mc ms) t) (fun _ s0 g => WW M G 2 Q kc ks g 2 [(0, .ref a0), (1, .int s0)] []) (fun n s0 g st g1 E hc hx => t_x9_hoursToNoLogs_l2 X hl0 hr hnm hc hx E)
set_option maxHeartbeats 4000000 in
set_option maxRecDepth 100000 in
theorem t_x9_hoursToNoLogs_b {l : Launch} {G : GG} {M : MC} (X : CX M G cX9_hoursToNoLogs 2 RX9 ⟨11, 0, 0, 276⟩) (hl0 : M.2.1 = l) (hr : (mM M).sig.returnType = (some .int)) (hnm : (mM M).name = yX9_hoursToNoLogs.name) {p : Nat} {g : AH} {r : Int32} {g1 : AH} (E : x9_hoursToNoLogs p g = some (r, g1)) : WW M G 2 (RQ M G (some (.int r)) g1 0 0) 0 0 g 0 [(0, .ref p)] [] := by
  unfold x9_hoursToNoLogs at E
  refine r_iconst X (v := 0) dX9_hoursToNoLogs_0 (by decide) ?_
  refine r_istore_n X 1 (L1 := [(1, .int 0), (0, .ref p)]) dX9_hoursToNoLogs_1 rfl (by decide) rfl ?_
  obtain ⟨t1, g2, e3, E⟩ := cb_some E
  rcases t1 with t4 | t5
  · rw [Sum.elim_inl] at E
    refine r_pick (by rfl : lpick [(1, .int 0), (0, .ref p)] [1, 0] = _) (t_x9_hoursToNoLogs_l2_r X hl0 hr hnm _ _ _ _ _ e3 ?_)
    refine r_iconst X (v := (-1)) dX9_hoursToNoLogs_29 (by decide) ?_
    cases E
    exact r_iret X hr dX9_hoursToNoLogs_30 (by decide) (by decide)
  · rw [Sum.elim_inr] at E
    cases E
    exact r_pick (by rfl : lpick [(1, .int 0), (0, .ref p)] [1, 0] = _) (t_x9_hoursToNoLogs_l2_r X hl0 hr hnm _ _ _ _ _ e3 ⟨_, _, by decide, by decide, rfl⟩)
theorem t_x9_hoursToNoLogs {l : Launch} {G : GG} {p : Nat} {g : AH} {r : Int32} {g1 : AH} (E : x9_hoursToNoLogs p g = some (r, g1)) : Ct l G yX9_hoursToNoLogs cX9_hoursToNoLogs 2 (some .int) ⟨11, 0, 0, 276⟩ [.ref p] g (some (.int r)) g1 :=
  ct_of (L0 := [(0, .ref p)]) y_X9_hoursToNoLogs rfl (Nat.le_of_ble_eq_true rfl) fun M hl0 X hr hnm => t_x9_hoursToNoLogs_b X hl0 hr hnm E
set_option maxHeartbeats 4000000 in
set_option maxRecDepth 100000 in
theorem t_x9_hoursUntilNoLogs_b {l : Launch} {G : GG} {M : MC} (X : CX M G cX9_hoursUntilNoLogs 1 RX9 ⟨12, 0, 0, 297⟩) (hl0 : M.2.1 = l) (hr : (mM M).sig.returnType = (some .int)) (hnm : (mM M).name = yX9_hoursUntilNoLogs.name) {p : Nat} {g : AH} {r : Int32} {g1 : AH} (E : x9_hoursUntilNoLogs p g = some (r, g1)) : WW M G 1 (RQ M G (some (.int r)) g1 0 0) 0 0 g 0 [(0, .ref p)] [] := by
  unfold x9_hoursUntilNoLogs at E
  refine r_aload_n X 0 dX9_hoursUntilNoLogs_0 rfl rfl ?_
  refine r_iconst X (v := 0) dX9_hoursUntilNoLogs_1 (by decide) ?_
  obtain ⟨g1, e2, E⟩ := gb_some E
  refine r_put X dX9_hoursUntilNoLogs_2 f_X9_57 rfl rfl e2 ?_
  refine r_aload_n X 0 dX9_hoursUntilNoLogs_5 rfl rfl ?_
  obtain ⟨u6, e7, E⟩ := gb_some E
  obtain ⟨r3, g4, e5, E⟩ := cb_some E
  refine r_callV0 X hl0 (ci := 9) dX9_hoursUntilNoLogs_6 y_X9_goAside m_X9_229 rfl rfl e7 (t_x9_goAside (l := l) (G := G) e5) rfl rfl (Nat.le_of_ble_eq_true rfl) (by decide) ?_
  refine r_aload_n X 0 dX9_hoursUntilNoLogs_9 rfl rfl ?_
  refine r_aload_n X 0 dX9_hoursUntilNoLogs_10 rfl rfl ?_
  obtain ⟨u11, e12, E⟩ := gb_some E
  obtain ⟨r8, g9, e10, E⟩ := cb_some E
  refine r_callV0 X hl0 (ci := 9) dX9_hoursUntilNoLogs_11 y_X9_hoursToNoLogs m_X9_407 rfl rfl e12 (t_x9_hoursToNoLogs (l := l) (G := G) e10) rfl rfl (Nat.le_of_ble_eq_true rfl) (by decide) ?_
  obtain ⟨u16, e17, E⟩ := gb_some E
  obtain ⟨r13, g14, e15, E⟩ := cb_some E
  refine r_callV0 X hl0 (ci := 9) dX9_hoursUntilNoLogs_14 y_X9_comeBack m_X9_238 rfl rfl e17 (t_x9_comeBack (l := l) (G := G) e15) rfl rfl (Nat.le_of_ble_eq_true rfl) (by decide) ?_
  cases E
  exact r_iret X hr dX9_hoursUntilNoLogs_17 (by decide) (by decide)
theorem t_x9_hoursUntilNoLogs {l : Launch} {G : GG} {p : Nat} {g : AH} {r : Int32} {g1 : AH} (E : x9_hoursUntilNoLogs p g = some (r, g1)) : Ct l G yX9_hoursUntilNoLogs cX9_hoursUntilNoLogs 1 (some .int) ⟨12, 0, 0, 297⟩ [.ref p] g (some (.int r)) g1 :=
  ct_of (L0 := [(0, .ref p)]) y_X9_hoursUntilNoLogs rfl (Nat.le_of_ble_eq_true rfl) fun M hl0 X hr hnm => t_x9_hoursUntilNoLogs_b X hl0 hr hnm E
set_option maxHeartbeats 4000000 in
set_option maxRecDepth 100000 in
theorem t_x9_hoursWith_b {l : Launch} {G : GG} {M : MC} (X : CX M G cX9_hoursWith 4 RX9 ⟨12, 0, 0, 298⟩) (hl0 : M.2.1 = l) (hr : (mM M).sig.returnType = (some .int)) (hnm : (mM M).name = yX9_hoursWith.name) {p : Nat} {b0 : Int32} {b1 : Int32} {g : AH} {r : Int32} {g1 : AH} (E : x9_hoursWith p b0 b1 g = some (r, g1)) : WW M G 4 (RQ M G (some (.int r)) g1 0 0) 0 0 g 0 [(0, .ref p), (1, .int b0), (2, .int b1)] [] := by
  unfold x9_hoursWith at E
  refine r_aload_n X 0 dX9_hoursWith_0 rfl rfl ?_
  obtain ⟨x1, e2, E⟩ := gb_some E
  refine r_getR X dX9_hoursWith_1 f_X9_7 e2 ?_
  refine r_iconst X (v := 1) dX9_hoursWith_4 (by decide) ?_
  refine r_iload_n X 1 dX9_hoursWith_5 rfl rfl ?_
  obtain ⟨g3, e4, E⟩ := gb_some E
  refine r_iast X dX9_hoursWith_6 e4 ?_
  refine r_aload_n X 0 dX9_hoursWith_7 rfl rfl ?_
  refine r_bipush X (v := 6) dX9_hoursWith_8 (by decide) ?_
  refine r_iload_n X 2 dX9_hoursWith_10 rfl rfl ?_
  refine r_iadd X dX9_hoursWith_11 ?_
  obtain ⟨u8, e9, E⟩ := gb_some E
  obtain ⟨r5, g6, e7, E⟩ := cb_some E
  refine r_callV0 X hl0 (ci := 9) dX9_hoursWith_12 y_X9_sumOf m_X9_376 rfl rfl e9 (t_x9_sumOf (l := l) (G := G) e7) rfl rfl (Nat.le_of_ble_eq_true rfl) (by decide) ?_
  refine r_istore_n X 3 (L1 := [(3, .int r5), (0, .ref p), (1, .int b0), (2, .int b1)]) dX9_hoursWith_15 rfl (by decide) rfl ?_
  refine r_aload_n X 0 dX9_hoursWith_16 rfl rfl ?_
  refine r_aload_n X 0 dX9_hoursWith_17 rfl rfl ?_
  obtain ⟨u13, e14, E⟩ := gb_some E
  obtain ⟨r10, g11, e12, E⟩ := cb_some E
  refine r_callV0 X hl0 (ci := 9) dX9_hoursWith_18 y_X9_toDawn m_X9_308 rfl rfl e14 (t_x9_toDawn (l := l) (G := G) e12) rfl rfl (Nat.le_of_ble_eq_true rfl) (by decide) ?_
  obtain ⟨u18, e19, E⟩ := gb_some E
  obtain ⟨r15, g16, e17, E⟩ := cb_some E
  refine r_callV0 X hl0 (ci := 9) dX9_hoursWith_21 y_X9_passMany m_X9_385 rfl rfl e19 (t_x9_passMany (l := l) (G := G) e17) rfl rfl (Nat.le_of_ble_eq_true rfl) (by decide) ?_
  refine r_aload_n X 0 dX9_hoursWith_24 rfl rfl ?_
  refine r_bipush X (v := 6) dX9_hoursWith_25 (by decide) ?_
  refine r_iload_n X 2 dX9_hoursWith_27 rfl rfl ?_
  refine r_iadd X dX9_hoursWith_28 ?_
  obtain ⟨u23, e24, E⟩ := gb_some E
  obtain ⟨r20, g21, e22, E⟩ := cb_some E
  refine r_callV0 X hl0 (ci := 9) dX9_hoursWith_29 y_X9_sumOf m_X9_376 rfl rfl e24 (t_x9_sumOf (l := l) (G := G) e22) rfl rfl (Nat.le_of_ble_eq_true rfl) (by decide) ?_
  refine r_iload_n X 3 dX9_hoursWith_32 rfl rfl ?_
  refine r_isub X dX9_hoursWith_33 ?_
  cases E
  exact r_iret X hr dX9_hoursWith_34 (by decide) (by decide)
theorem t_x9_hoursWith {l : Launch} {G : GG} {p : Nat} {b0 : Int32} {b1 : Int32} {g : AH} {r : Int32} {g1 : AH} (E : x9_hoursWith p b0 b1 g = some (r, g1)) : Ct l G yX9_hoursWith cX9_hoursWith 4 (some .int) ⟨12, 0, 0, 298⟩ [.ref p, .int b0, .int b1] g (some (.int r)) g1 :=
  ct_of (L0 := [(0, .ref p), (1, .int b0), (2, .int b1)]) y_X9_hoursWith rfl (Nat.le_of_ble_eq_true rfl) fun M hl0 X hr hnm => t_x9_hoursWith_b X hl0 hr hnm E
set_option maxHeartbeats 4000000 in
set_option maxRecDepth 100000 in
theorem t_x9_rateNeeded_l7 {l : Launch} {G : GG} {M : MC} (X : CX M G cX9_rateNeeded 2 RX9 ⟨13, 0, 0, 321⟩) (hl0 : M.2.1 = l) (hr : (mM M).sig.returnType = (some .int)) (hnm : (mM M).name = yX9_rateNeeded.name) {Q : State → Prop} {kc ks : Nat} {s9 : ((Int32) ⊕ ((Unit) ⊕ Int32))} {g1 : AH} {a0 : Nat} {s0 : Int32} (hc : ∀ s1, s9 = .inl s1 → WW M G 2 Q kc ks g1 7 [(0, .ref a0), (1, .int s1)] []) (hx : ∀ t, s9 = .inr t → Sum.elim (fun t1 => WW M G 2 Q kc ks g1 37 [] []) (fun t2 => ∃ mc ms : Nat, kc ≤ mc ∧ ks ≤ ms ∧ Q = RQ M G (some (.int t2)) g1 mc ms) t) {g : AH} (E : x9_rateNeeded_l7 a0 s0 g = some (s9, g1)) : WW M G 2 Q kc ks g 7 [(0, .ref a0), (1, .int s0)] [] := by
  unfold x9_rateNeeded_l7 at E
  refine r_iload_n X 1 dX9_rateNeeded_7 rfl rfl ?_
  refine r_iconst X (v := 3) dX9_rateNeeded_8 (by decide) ?_
  refine r_icmp_gt X 37 dX9_rateNeeded_9 (by decide) (fun c1 => ?_) (fun c1 => ?_)
  · rw [if_pos c1] at E
    cases E
    exact r_pick (by rfl : lpick [(0, .ref a0), (1, .int s0)] [] = _) (hx _ rfl)
  · rw [if_neg c1] at E
    refine r_aload_n X 0 dX9_rateNeeded_12 rfl rfl ?_
    obtain ⟨u5, e6, E⟩ := gb_some E
    obtain ⟨r2, g3, e4, E⟩ := cb_some E
    refine r_callV0 X hl0 (ci := 9) dX9_rateNeeded_13 y_X9_goAside m_X9_229 rfl rfl e6 (t_x9_goAside (l := l) (G := G) e4) rfl rfl (Nat.le_of_ble_eq_true rfl) (by decide) ?_
    refine r_aload_n X 0 dX9_rateNeeded_16 rfl rfl ?_
    refine r_aload_n X 0 dX9_rateNeeded_17 rfl rfl ?_
    refine r_iload_n X 1 dX9_rateNeeded_18 rfl rfl ?_
    refine r_iconst X (v := 0) dX9_rateNeeded_19 (by decide) ?_
    obtain ⟨u10, e11, E⟩ := gb_some E
    obtain ⟨r7, g8, e9, E⟩ := cb_some E
    refine r_callV0 X hl0 (ci := 9) dX9_rateNeeded_20 y_X9_hoursWith m_X9_410 rfl rfl e11 (t_x9_hoursWith (l := l) (G := G) e9) rfl rfl (Nat.le_of_ble_eq_true rfl) (by decide) ?_
    obtain ⟨u15, e16, E⟩ := gb_some E
    obtain ⟨r12, g13, e14, E⟩ := cb_some E
    refine r_callV0 X hl0 (ci := 9) dX9_rateNeeded_23 y_X9_comeBack m_X9_238 rfl rfl e16 (t_x9_comeBack (l := l) (G := G) e14) rfl rfl (Nat.le_of_ble_eq_true rfl) (by decide) ?_
    refine r_if_ne X 31 dX9_rateNeeded_26 (by decide) (fun c17 => ?_) (fun c17 => ?_)
    · rw [if_neg c17] at E
      refine r_iinc X (v := (s0 + 1)) (L1 := [(1, .int (s0 + 1)), (0, .ref a0)]) dX9_rateNeeded_31 rfl rfl (by decide) rfl ?_
      refine r_goto X 7 dX9_rateNeeded_34 (by decide) ?_
      cases E
      exact r_pick (by rfl : lpick [(1, .int (s0 + 1)), (0, .ref a0)] [1, 0] = _) (hc _ rfl)
    · rw [if_pos c17] at E
      refine r_iload_n X 1 dX9_rateNeeded_29 rfl rfl ?_
      cases E
      obtain ⟨mc9, ms9, h91, h92, rfl⟩ := hx _ rfl
      exact r_iret X hr dX9_rateNeeded_30 h91 h92
set_option maxHeartbeats 4000000 in
theorem t_x9_rateNeeded_l7_r {l : Launch} {G : GG} {M : MC} (X : CX M G cX9_rateNeeded 2 RX9 ⟨13, 0, 0, 321⟩) (hl0 : M.2.1 = l) (hr : (mM M).sig.returnType = (some .int)) (hnm : (mM M).name = yX9_rateNeeded.name) {Q : State → Prop} {kc ks : Nat} {a0 : Nat} : ∀ (n : Nat) (s0 : Int32) (g : AH) (t : ((Unit) ⊕ Int32)) (g1 : AH), loopX (x9_rateNeeded_l7 a0) n s0 g = some (t, g1) → Sum.elim (fun t1 => WW M G 2 Q kc ks g1 37 [] []) (fun t2 => ∃ mc ms : Nat, kc ≤ mc ∧ ks ≤ ms ∧ Q = RQ M G (some (.int t2)) g1 mc ms) t → WW M G 2 Q kc ks g 7 [(0, .ref a0), (1, .int s0)] [] :=
  loop_cps (K := fun t g1 => Sum.elim (fun t1 => WW M G 2 Q kc ks g1 37 [] []) (fun t2 => ∃ mc ms : Nat, kc ≤ mc ∧ ks ≤ ms ∧ Q = RQ M G (some (.int t2)) g1 mc ms) t) (fun _ s0 g => WW M G 2 Q kc ks g 7 [(0, .ref a0), (1, .int s0)] []) (fun n s0 g st g1 E hc hx => t_x9_rateNeeded_l7 X hl0 hr hnm hc hx E)
set_option maxHeartbeats 4000000 in
set_option maxRecDepth 100000 in
theorem t_x9_rateNeeded_b {l : Launch} {G : GG} {M : MC} (X : CX M G cX9_rateNeeded 2 RX9 ⟨13, 0, 0, 321⟩) (hl0 : M.2.1 = l) (hr : (mM M).sig.returnType = (some .int)) (hnm : (mM M).name = yX9_rateNeeded.name) {p : Nat} {g : AH} {r : Int32} {g1 : AH} (E : x9_rateNeeded p g = some (r, g1)) : WW M G 2 (RQ M G (some (.int r)) g1 0 0) 0 0 g 0 [(0, .ref p)] [] := by
  unfold x9_rateNeeded at E
  refine r_aload_n X 0 dX9_rateNeeded_0 rfl rfl ?_
  refine r_iconst X (v := 0) dX9_rateNeeded_1 (by decide) ?_
  obtain ⟨g1, e2, E⟩ := gb_some E
  refine r_put X dX9_rateNeeded_2 f_X9_57 rfl rfl e2 ?_
  refine r_iconst X (v := 0) dX9_rateNeeded_5 (by decide) ?_
  refine r_istore_n X 1 (L1 := [(1, .int 0), (0, .ref p)]) dX9_rateNeeded_6 rfl (by decide) rfl ?_
  obtain ⟨t3, g4, e5, E⟩ := cb_some E
  rcases t3 with t6 | t7
  · rw [Sum.elim_inl] at E
    refine r_pick (by rfl : lpick [(1, .int 0), (0, .ref p)] [1, 0] = _) (t_x9_rateNeeded_l7_r X hl0 hr hnm _ _ _ _ _ e5 ?_)
    refine r_iconst X (v := (-1)) dX9_rateNeeded_37 (by decide) ?_
    cases E
    exact r_iret X hr dX9_rateNeeded_38 (by decide) (by decide)
  · rw [Sum.elim_inr] at E
    cases E
    exact r_pick (by rfl : lpick [(1, .int 0), (0, .ref p)] [1, 0] = _) (t_x9_rateNeeded_l7_r X hl0 hr hnm _ _ _ _ _ e5 ⟨_, _, by decide, by decide, rfl⟩)
theorem t_x9_rateNeeded {l : Launch} {G : GG} {p : Nat} {g : AH} {r : Int32} {g1 : AH} (E : x9_rateNeeded p g = some (r, g1)) : Ct l G yX9_rateNeeded cX9_rateNeeded 2 (some .int) ⟨13, 0, 0, 321⟩ [.ref p] g (some (.int r)) g1 :=
  ct_of (L0 := [(0, .ref p)]) y_X9_rateNeeded rfl (Nat.le_of_ble_eq_true rfl) fun M hl0 X hr hnm => t_x9_rateNeeded_b X hl0 hr hnm E
set_option maxHeartbeats 4000000 in
set_option maxRecDepth 100000 in
theorem t_x9_bestRate_j43_11 {l : Launch} {G : GG} {M : MC} (X : CX M G cX9_bestRate 5 RX9 ⟨13, 0, 0, 321⟩) (hl0 : M.2.1 = l) (hr : (mM M).sig.returnType = (some .int)) (hnm : (mM M).name = yX9_bestRate.name) {Q : State → Prop} {kc ks : Nat} {s9 : ((Int32 × Int32 × Int32) ⊕ (Int32))} {g1 : AH} {a0 : Nat} {a2 : Int32} {a3 : Int32} {a4 : Int32} {s0 : Int32} (hc : ∀ s1, s9 = .inl s1 → WW M G 5 Q kc ks g1 11 [(0, .ref a0), (1, .int s1.1), (2, .int s1.2.1), (3, .int s1.2.2)] []) (hx : ∀ t, s9 = .inr t → WW M G 5 Q kc ks g1 57 [(1, .int t)] []) {g : AH} (E : x9_bestRate_j43_11 a0 a2 a3 a4 s0 g = some (s9, g1)) : WW M G 5 Q kc ks g 43 [(0, .ref a0), (2, .int a2), (3, .int a3), (4, .int a4)] [.int s0] := by
  unfold x9_bestRate_j43_11 at E
  refine r_istore_n X 1 (L1 := [(1, .int s0), (0, .ref a0), (2, .int a2), (3, .int a3), (4, .int a4)]) dX9_bestRate_43 rfl (by decide) rfl ?_
  refine r_iload_n X 2 dX9_bestRate_44 rfl rfl ?_
  refine r_iload X dX9_bestRate_45 rfl ?_
  refine r_max X dX9_bestRate_47 m_X9_315m (by decide) (Nat.le_of_ble_eq_true rfl) ?_
  refine r_istore_n X 2 (L1 := [(2, .int (if a2 < a4 then a4 else a2)), (1, .int s0), (0, .ref a0), (3, .int a3), (4, .int a4)]) dX9_bestRate_50 rfl (by decide) rfl ?_
  refine r_iinc X (v := (a3 + 1)) (L1 := [(3, .int (a3 + 1)), (2, .int (if a2 < a4 then a4 else a2)), (1, .int s0), (0, .ref a0), (4, .int a4)]) dX9_bestRate_51 rfl rfl (by decide) rfl ?_
  refine r_goto X 11 dX9_bestRate_54 (by decide) ?_
  cases E
  exact r_pick (by rfl : lpick [(3, .int (a3 + 1)), (2, .int (if a2 < a4 then a4 else a2)), (1, .int s0), (0, .ref a0), (4, .int a4)] [3, 2, 1, 0] = _) (hc _ rfl)
set_option maxHeartbeats 4000000 in
set_option maxRecDepth 100000 in
theorem t_x9_bestRate_l11 {l : Launch} {G : GG} {M : MC} (X : CX M G cX9_bestRate 5 RX9 ⟨13, 0, 0, 321⟩) (hl0 : M.2.1 = l) (hr : (mM M).sig.returnType = (some .int)) (hnm : (mM M).name = yX9_bestRate.name) {Q : State → Prop} {kc ks : Nat} {s9 : ((Int32 × Int32 × Int32) ⊕ (Int32))} {g1 : AH} {a0 : Nat} {s0 : Int32 × Int32 × Int32} (hc : ∀ s1, s9 = .inl s1 → WW M G 5 Q kc ks g1 11 [(0, .ref a0), (1, .int s1.1), (2, .int s1.2.1), (3, .int s1.2.2)] []) (hx : ∀ t, s9 = .inr t → WW M G 5 Q kc ks g1 57 [(1, .int t)] []) {g : AH} (E : x9_bestRate_l11 a0 s0 g = some (s9, g1)) : WW M G 5 Q kc ks g 11 [(0, .ref a0), (1, .int s0.1), (2, .int s0.2.1), (3, .int s0.2.2)] [] := by
  unfold x9_bestRate_l11 at E
  refine r_iload_n X 3 dX9_bestRate_11 rfl rfl ?_
  refine r_iconst X (v := 3) dX9_bestRate_12 (by decide) ?_
  refine r_icmp_gt X 57 dX9_bestRate_13 (by decide) (fun c1 => ?_) (fun c1 => ?_)
  · rw [if_pos c1] at E
    cases E
    exact r_pick (by rfl : lpick [(0, .ref a0), (1, .int s0.1), (2, .int s0.2.1), (3, .int s0.2.2)] [1] = _) (hx _ rfl)
  · rw [if_neg c1] at E
    refine r_aload_n X 0 dX9_bestRate_16 rfl rfl ?_
    obtain ⟨u5, e6, E⟩ := gb_some E
    obtain ⟨r2, g3, e4, E⟩ := cb_some E
    refine r_callV0 X hl0 (ci := 9) dX9_bestRate_17 y_X9_goAside m_X9_229 rfl rfl e6 (t_x9_goAside (l := l) (G := G) e4) rfl rfl (Nat.le_of_ble_eq_true rfl) (by decide) ?_
    refine r_aload_n X 0 dX9_bestRate_20 rfl rfl ?_
    refine r_aload_n X 0 dX9_bestRate_21 rfl rfl ?_
    refine r_iload_n X 3 dX9_bestRate_22 rfl rfl ?_
    refine r_iconst X (v := 2) dX9_bestRate_23 (by decide) ?_
    obtain ⟨u10, e11, E⟩ := gb_some E
    obtain ⟨r7, g8, e9, E⟩ := cb_some E
    refine r_callV0 X hl0 (ci := 9) dX9_bestRate_24 y_X9_hoursWith m_X9_410 rfl rfl e11 (t_x9_hoursWith (l := l) (G := G) e9) rfl rfl (Nat.le_of_ble_eq_true rfl) (by decide) ?_
    obtain ⟨u15, e16, E⟩ := gb_some E
    obtain ⟨r12, g13, e14, E⟩ := cb_some E
    refine r_callV0 X hl0 (ci := 9) dX9_bestRate_27 y_X9_comeBack m_X9_238 rfl rfl e16 (t_x9_comeBack (l := l) (G := G) e14) rfl rfl (Nat.le_of_ble_eq_true rfl) (by decide) ?_
    refine r_istore X (L1 := [(4, .int r12), (0, .ref a0), (1, .int s0.1), (2, .int s0.2.1), (3, .int s0.2.2)]) dX9_bestRate_30 (by decide) rfl ?_
    refine r_iload X dX9_bestRate_32 rfl ?_
    refine r_iload_n X 2 dX9_bestRate_34 rfl rfl ?_
    refine r_icmp_le X 42 dX9_bestRate_35 (by decide) (fun c17 => ?_) (fun c17 => ?_)
    · rw [if_pos c17] at E
      refine r_iload_n X 1 dX9_bestRate_42 rfl rfl ?_
      exact r_pick (by rfl : lpick [(4, .int r12), (0, .ref a0), (1, .int s0.1), (2, .int s0.2.1), (3, .int s0.2.2)] [1, 3, 4, 0] = _) (t_x9_bestRate_j43_11 X hl0 hr hnm hc hx E)
    · rw [if_neg c17] at E
      refine r_iload_n X 3 dX9_bestRate_38 rfl rfl ?_
      refine r_goto X 43 dX9_bestRate_39 (by decide) ?_
      exact r_pick (by rfl : lpick [(4, .int r12), (0, .ref a0), (1, .int s0.1), (2, .int s0.2.1), (3, .int s0.2.2)] [1, 3, 4, 0] = _) (t_x9_bestRate_j43_11 X hl0 hr hnm hc hx E)
set_option maxHeartbeats 4000000 in
theorem t_x9_bestRate_l11_r {l : Launch} {G : GG} {M : MC} (X : CX M G cX9_bestRate 5 RX9 ⟨13, 0, 0, 321⟩) (hl0 : M.2.1 = l) (hr : (mM M).sig.returnType = (some .int)) (hnm : (mM M).name = yX9_bestRate.name) {Q : State → Prop} {kc ks : Nat} {a0 : Nat} : ∀ (n : Nat) (s0 : Int32 × Int32 × Int32) (g : AH) (t : (Int32)) (g1 : AH), loopX (x9_bestRate_l11 a0) n s0 g = some (t, g1) → WW M G 5 Q kc ks g1 57 [(1, .int t)] [] → WW M G 5 Q kc ks g 11 [(0, .ref a0), (1, .int s0.1), (2, .int s0.2.1), (3, .int s0.2.2)] [] :=
  loop_cps (K := fun t g1 => WW M G 5 Q kc ks g1 57 [(1, .int t)] []) (fun _ s0 g => WW M G 5 Q kc ks g 11 [(0, .ref a0), (1, .int s0.1), (2, .int s0.2.1), (3, .int s0.2.2)] []) (fun n s0 g st g1 E hc hx => t_x9_bestRate_l11 X hl0 hr hnm hc hx E)
set_option maxHeartbeats 4000000 in
set_option maxRecDepth 100000 in
theorem t_x9_bestRate_b {l : Launch} {G : GG} {M : MC} (X : CX M G cX9_bestRate 5 RX9 ⟨13, 0, 0, 321⟩) (hl0 : M.2.1 = l) (hr : (mM M).sig.returnType = (some .int)) (hnm : (mM M).name = yX9_bestRate.name) {p : Nat} {g : AH} {r : Int32} {g1 : AH} (E : x9_bestRate p g = some (r, g1)) : WW M G 5 (RQ M G (some (.int r)) g1 0 0) 0 0 g 0 [(0, .ref p)] [] := by
  unfold x9_bestRate at E
  refine r_aload_n X 0 dX9_bestRate_0 rfl rfl ?_
  refine r_iconst X (v := 0) dX9_bestRate_1 (by decide) ?_
  obtain ⟨g1, e2, E⟩ := gb_some E
  refine r_put X dX9_bestRate_2 f_X9_57 rfl rfl e2 ?_
  refine r_iconst X (v := 0) dX9_bestRate_5 (by decide) ?_
  refine r_istore_n X 1 (L1 := [(1, .int 0), (0, .ref p)]) dX9_bestRate_6 rfl (by decide) rfl ?_
  refine r_iconst X (v := (-1)) dX9_bestRate_7 (by decide) ?_
  refine r_istore_n X 2 (L1 := [(2, .int (-1)), (1, .int 0), (0, .ref p)]) dX9_bestRate_8 rfl (by decide) rfl ?_
  refine r_iconst X (v := 0) dX9_bestRate_9 (by decide) ?_
  refine r_istore_n X 3 (L1 := [(3, .int 0), (2, .int (-1)), (1, .int 0), (0, .ref p)]) dX9_bestRate_10 rfl (by decide) rfl ?_
  obtain ⟨t3, g4, e5, E⟩ := cb_some E
  refine r_pick (by rfl : lpick [(3, .int 0), (2, .int (-1)), (1, .int 0), (0, .ref p)] [3, 2, 1, 0] = _) (t_x9_bestRate_l11_r X hl0 hr hnm _ _ _ _ _ e5 ?_)
  refine r_iload_n X 1 dX9_bestRate_57 rfl rfl ?_
  cases E
  exact r_iret X hr dX9_bestRate_58 (by decide) (by decide)
theorem t_x9_bestRate {l : Launch} {G : GG} {p : Nat} {g : AH} {r : Int32} {g1 : AH} (E : x9_bestRate p g = some (r, g1)) : Ct l G yX9_bestRate cX9_bestRate 5 (some .int) ⟨13, 0, 0, 321⟩ [.ref p] g (some (.int r)) g1 :=
  ct_of (L0 := [(0, .ref p)]) y_X9_bestRate rfl (Nat.le_of_ble_eq_true rfl) fun M hl0 X hr hnm => t_x9_bestRate_b X hl0 hr hnm E
set_option maxHeartbeats 4000000 in
set_option maxRecDepth 100000 in
theorem t_x9_writeByte_b {l : Launch} {G : GG} {M : MC} (X : CX M G cX9_writeByte 2 RX9 ⟨1, 0, 0, 60⟩) (hl0 : M.2.1 = l) (hr : (mM M).sig.returnType = none) (hnm : (mM M).name = yX9_writeByte.name) {p : Nat} {b0 : Int32} {g : AH} {r : Unit} {g1 : AH} (E : x9_writeByte p b0 g = some (r, g1)) : WW M G 2 (RQ M G none g1 0 0) 0 0 g 0 [(0, .ref p), (1, .int b0)] [] := by
  unfold x9_writeByte at E
  refine r_aload_n X 0 dX9_writeByte_0 rfl rfl ?_
  obtain ⟨x1, e2, E⟩ := gb_some E
  refine r_getR X dX9_writeByte_1 f_X9_43 e2 ?_
  refine r_aload_n X 0 dX9_writeByte_4 rfl rfl ?_
  obtain ⟨x3, e4, E⟩ := gb_some E
  refine r_getI X dX9_writeByte_5 f_X9_419 e4 ?_
  refine r_iload_n X 1 dX9_writeByte_8 rfl rfl ?_
  refine r_i2b X dX9_writeByte_9 ?_
  obtain ⟨g5, e6, E⟩ := gb_some E
  refine r_bast X dX9_writeByte_10 e6 ?_
  refine r_aload_n X 0 dX9_writeByte_11 rfl rfl ?_
  refine r_dup X dX9_writeByte_12 rfl ?_
  obtain ⟨x7, e8, E⟩ := gb_some E
  refine r_getI X dX9_writeByte_13 f_X9_419 e8 ?_
  refine r_iconst X (v := 1) dX9_writeByte_16 (by decide) ?_
  refine r_iadd X dX9_writeByte_17 ?_
  obtain ⟨g9, e10, E⟩ := gb_some E
  refine r_put X dX9_writeByte_18 f_X9_419 rfl rfl e10 ?_
  cases E
  exact r_vret X hr dX9_writeByte_21 (by decide) (by decide)
theorem t_x9_writeByte {l : Launch} {G : GG} {p : Nat} {b0 : Int32} {g : AH} {r : Unit} {g1 : AH} (E : x9_writeByte p b0 g = some (r, g1)) : Ct l G yX9_writeByte cX9_writeByte 2 none ⟨1, 0, 0, 60⟩ [.ref p, .int b0] g none g1 :=
  ct_of (L0 := [(0, .ref p), (1, .int b0)]) y_X9_writeByte rfl (Nat.le_of_ble_eq_true rfl) fun M hl0 X hr hnm => t_x9_writeByte_b X hl0 hr hnm E
set_option maxHeartbeats 4000000 in
set_option maxRecDepth 100000 in
theorem t_x9_writeNumber_j14 {n9 : Nat} {l : Launch} {G : GG} {M : MC} (X : CX M G cX9_writeNumber 2 RX9 ⟨n9 + 1 + 2, 0, 0, 81 + 21 * (n9 + 1)⟩) (hl0 : M.2.1 = l) (hr : (mM M).sig.returnType = none) (hnm : (mM M).name = yX9_writeNumber.name) {a0 : Nat} {a1 : Int32} {g : AH} {r : Unit} {g1 : AH} (E : x9_writeNumber_j14 a0 a1 g = some (r, g1)) : WW M G 2 (RQ M G none g1 0 0) 0 0 g 14 [(0, .ref a0), (1, .int a1)] [] := by
  unfold x9_writeNumber_j14 at E
  refine r_aload_n X 0 dX9_writeNumber_14 rfl rfl ?_
  refine r_bipush X (v := 48) dX9_writeNumber_15 (by decide) ?_
  refine r_iload_n X 1 dX9_writeNumber_17 rfl rfl ?_
  refine r_bipush X (v := 10) dX9_writeNumber_18 (by decide) ?_
  refine r_irem X dX9_writeNumber_20 (by decide) ?_
  refine r_iadd X dX9_writeNumber_21 ?_
  obtain ⟨u5, e6, E⟩ := gb_some E
  obtain ⟨r2, g3, e4, E⟩ := cb_some E
  refine r_callV0 X hl0 (ci := 9) dX9_writeNumber_22 y_X9_writeByte m_X9_425 rfl rfl e6 (t_x9_writeByte (l := l) (G := G) e4) rfl rfl (Nat.le_of_ble_eq_true rfl) ⟨by show _ ≤ n9 + 1 + 2; omega, by show _ ≤ 81 + 21 * (n9 + 1); omega⟩ ?_
  cases E
  exact r_vret X hr dX9_writeNumber_25 (by decide) (by decide)
set_option maxHeartbeats 4000000 in
set_option maxRecDepth 100000 in
theorem t_x9_writeNumber_b {n9 : Nat} {l : Launch} {G : GG} {M : MC} (X : CX M G cX9_writeNumber 2 RX9 ⟨n9 + 1 + 2, 0, 0, 81 + 21 * (n9 + 1)⟩) (hl0 : M.2.1 = l) (hr : (mM M).sig.returnType = none) (hnm : (mM M).name = yX9_writeNumber.name) (ih9 : ∀ {p : Nat} {b0 : Int32} {g : AH} {r : Unit} {g1 : AH}, x9_writeNumber n9 p b0 g = some (r, g1) → Ct l G yX9_writeNumber cX9_writeNumber 2 none ⟨n9 + 2, 0, 0, 81 + 21 * n9⟩ [.ref p, .int b0] g none g1) {p : Nat} {b0 : Int32} {g : AH} {r : Unit} {g1 : AH} (E : x9_writeNumber (n9 + 1) p b0 g = some (r, g1)) : WW M G 2 (RQ M G none g1 0 0) 0 0 g 0 [(0, .ref p), (1, .int b0)] [] := by
  rw [x9_writeNumber] at E
  refine r_iload_n X 1 dX9_writeNumber_0 rfl rfl ?_
  refine r_bipush X (v := 9) dX9_writeNumber_1 (by decide) ?_
  refine r_icmp_le X 14 dX9_writeNumber_3 (by decide) (fun c1 => ?_) (fun c1 => ?_)
  · rw [if_pos c1] at E
    exact r_pick (by rfl : lpick [(0, .ref p), (1, .int b0)] [0, 1] = _) (t_x9_writeNumber_j14 X hl0 hr hnm E)
  · rw [if_neg c1] at E
    refine r_aload_n X 0 dX9_writeNumber_6 rfl rfl ?_
    refine r_iload_n X 1 dX9_writeNumber_7 rfl rfl ?_
    refine r_bipush X (v := 10) dX9_writeNumber_8 (by decide) ?_
    refine r_idiv X dX9_writeNumber_10 (by decide) ?_
    obtain ⟨u6, e7, E⟩ := gb_some E
    obtain ⟨r3, g4, e5, E⟩ := cb_some E
    refine r_callV0 X hl0 (ci := 9) dX9_writeNumber_11 y_X9_writeNumber m_X9_422 rfl rfl e7 (ih9 e5) rfl rfl (Nat.le_of_ble_eq_true rfl) ⟨by show _ ≤ n9 + 1 + 2; omega, by show _ ≤ 81 + 21 * (n9 + 1); omega⟩ ?_
    exact r_pick (by rfl : lpick [(0, .ref p), (1, .int b0)] [0, 1] = _) (t_x9_writeNumber_j14 X hl0 hr hnm E)
theorem t_x9_writeNumber {l : Launch} {G : GG} : ∀ (n9 : Nat) {p : Nat} {b0 : Int32} {g : AH} {r : Unit} {g1 : AH}, x9_writeNumber n9 p b0 g = some (r, g1) → Ct l G yX9_writeNumber cX9_writeNumber 2 none ⟨n9 + 2, 0, 0, 81 + 21 * n9⟩ [.ref p, .int b0] g none g1 := by
  intro n9
  induction n9 with
  | zero => intro _ _ _ _ _ E; cases E
  | succ n9 ih9 =>
    intro p b0 g r g1 E
    exact ct_of (L0 := [(0, .ref p), (1, .int b0)]) y_X9_writeNumber rfl (Nat.le_of_ble_eq_true rfl) fun M hl0 X hr hnm => t_x9_writeNumber_b X hl0 hr hnm ih9 E
set_option maxHeartbeats 4000000 in
set_option maxRecDepth 100000 in
theorem t_x9_writeHiker_j57 {l : Launch} {G : GG} {M : MC} (X : CX M G cX9_writeHiker 3 RX9 ⟨10, 0, 0, 255⟩) (hl0 : M.2.1 = l) (hr : (mM M).sig.returnType = none) (hnm : (mM M).name = yX9_writeHiker.name) {s0 : Int32} {s1 : Nat} {g : AH} {r : Unit} {g1 : AH} (E : x9_writeHiker_j57 s0 s1 g = some (r, g1)) : WW M G 3 (RQ M G none g1 0 0) 0 0 g 57 [] [.int s0, .ref s1] := by
  unfold x9_writeHiker_j57 at E
  obtain ⟨u4, e5, E⟩ := gb_some E
  obtain ⟨r1, g2, e3, E⟩ := cb_some E
  refine r_callV0 X hl0 (ci := 9) dX9_writeHiker_57 y_X9_writeByte m_X9_425 rfl rfl e5 (t_x9_writeByte (l := l) (G := G) e3) rfl rfl (Nat.le_of_ble_eq_true rfl) (by decide) ?_
  cases E
  exact r_vret X hr dX9_writeHiker_60 (by decide) (by decide)
set_option maxHeartbeats 4000000 in
set_option maxRecDepth 100000 in
theorem t_x9_writeHiker_j45 {l : Launch} {G : GG} {M : MC} (X : CX M G cX9_writeHiker 3 RX9 ⟨10, 0, 0, 255⟩) (hl0 : M.2.1 = l) (hr : (mM M).sig.returnType = none) (hnm : (mM M).name = yX9_writeHiker.name) {a0 : Nat} {a2 : Int32} {g : AH} {r : Unit} {g1 : AH} (E : x9_writeHiker_j45 a0 a2 g = some (r, g1)) : WW M G 3 (RQ M G none g1 0 0) 0 0 g 45 [(0, .ref a0), (2, .int a2)] [] := by
  unfold x9_writeHiker_j45 at E
  refine r_aload_n X 0 dX9_writeHiker_45 rfl rfl ?_
  refine r_iload_n X 2 dX9_writeHiker_46 rfl rfl ?_
  refine r_if_ne X 55 dX9_writeHiker_47 (by decide) (fun c1 => ?_) (fun c1 => ?_)
  · rw [if_neg c1] at E
    refine r_bipush X (v := 63) dX9_writeHiker_55 (by decide) ?_
    exact r_pick (by rfl : lpick [(0, .ref a0), (2, .int a2)] [] = _) (t_x9_writeHiker_j57 X hl0 hr hnm E)
  · rw [if_pos c1] at E
    refine r_bipush X (v := 33) dX9_writeHiker_50 (by decide) ?_
    refine r_goto X 57 dX9_writeHiker_52 (by decide) ?_
    exact r_pick (by rfl : lpick [(0, .ref a0), (2, .int a2)] [] = _) (t_x9_writeHiker_j57 X hl0 hr hnm E)
set_option maxHeartbeats 4000000 in
set_option maxRecDepth 100000 in
theorem t_x9_writeHiker_j30 {l : Launch} {G : GG} {M : MC} (X : CX M G cX9_writeHiker 3 RX9 ⟨10, 0, 0, 255⟩) (hl0 : M.2.1 = l) (hr : (mM M).sig.returnType = none) (hnm : (mM M).name = yX9_writeHiker.name) {a0 : Nat} {a1 : Int32} {g : AH} {r : Unit} {g1 : AH} (E : x9_writeHiker_j30 a0 a1 g = some (r, g1)) : WW M G 3 (RQ M G none g1 0 0) 0 0 g 30 [(0, .ref a0), (1, .int a1)] [] := by
  unfold x9_writeHiker_j30 at E
  refine r_aload_n X 0 dX9_writeHiker_30 rfl rfl ?_
  refine r_iload_n X 1 dX9_writeHiker_31 rfl rfl ?_
  obtain ⟨u4, e5, E⟩ := gb_some E
  obtain ⟨r1, g2, e3, E⟩ := cb_some E
  refine r_callV0 X hl0 (ci := 9) dX9_writeHiker_32 y_X9_deed m_X9_105 rfl rfl e5 (t_x9_deed (l := l) (G := G) e3) rfl rfl (Nat.le_of_ble_eq_true rfl) (by decide) ?_
  refine r_istore_n X 2 (L1 := [(2, .int r1), (0, .ref a0), (1, .int a1)]) dX9_writeHiker_35 rfl (by decide) rfl ?_
  refine r_iload_n X 2 dX9_writeHiker_36 rfl rfl ?_
  refine r_if_eq X 45 dX9_writeHiker_37 (by decide) (fun c6 => ?_) (fun c6 => ?_)
  · rw [if_pos c6] at E
    exact r_pick (by rfl : lpick [(2, .int r1), (0, .ref a0), (1, .int a1)] [1, 0] = _) (t_x9_writeHiker_j45 X hl0 hr hnm E)
  · rw [if_neg c6] at E
    refine r_iload_n X 2 dX9_writeHiker_40 rfl rfl ?_
    refine r_iconst X (v := 1) dX9_writeHiker_41 (by decide) ?_
    refine r_icmp_ne X 60 dX9_writeHiker_42 (by decide) (fun c7 => ?_) (fun c7 => ?_)
    · rw [if_neg c7] at E
      cases E
      exact r_vret X hr dX9_writeHiker_60 (by decide) (by decide)
    · rw [if_pos c7] at E
      exact r_pick (by rfl : lpick [(2, .int r1), (0, .ref a0), (1, .int a1)] [1, 0] = _) (t_x9_writeHiker_j45 X hl0 hr hnm E)
set_option maxHeartbeats 4000000 in
set_option maxRecDepth 100000 in
theorem t_x9_writeHiker_b {l : Launch} {G : GG} {M : MC} (X : CX M G cX9_writeHiker 3 RX9 ⟨10, 0, 0, 255⟩) (hl0 : M.2.1 = l) (hr : (mM M).sig.returnType = none) (hnm : (mM M).name = yX9_writeHiker.name) {p : Nat} {b0 : Int32} {g : AH} {r : Unit} {g1 : AH} (E : x9_writeHiker p b0 g = some (r, g1)) : WW M G 3 (RQ M G none g1 0 0) 0 0 g 0 [(0, .ref p), (1, .int b0)] [] := by
  unfold x9_writeHiker at E
  refine r_aload_n X 0 dX9_writeHiker_0 rfl rfl ?_
  refine r_bipush X (v := 97) dX9_writeHiker_1 (by decide) ?_
  refine r_iload_n X 1 dX9_writeHiker_3 rfl rfl ?_
  refine r_iadd X dX9_writeHiker_4 ?_
  obtain ⟨u4, e5, E⟩ := gb_some E
  obtain ⟨r1, g2, e3, E⟩ := cb_some E
  refine r_callV0 X hl0 (ci := 9) dX9_writeHiker_5 y_X9_writeByte m_X9_425 rfl rfl e5 (t_x9_writeByte (l := l) (G := G) e3) rfl rfl (Nat.le_of_ble_eq_true rfl) (by decide) ?_
  refine r_aload_n X 0 dX9_writeHiker_8 rfl rfl ?_
  refine r_iload_n X 1 dX9_writeHiker_9 rfl rfl ?_
  refine r_iconst X (v := 5) dX9_writeHiker_10 (by decide) ?_
  obtain ⟨u9, e10, E⟩ := gb_some E
  obtain ⟨r6, g7, e8, E⟩ := cb_some E
  refine r_callV0 X hl0 (ci := 9) dX9_writeHiker_11 y_X9_get m_X9_64 rfl rfl e10 (t_x9_get (l := l) (G := G) e8) rfl rfl (Nat.le_of_ble_eq_true rfl) (by decide) ?_
  refine r_iconst X (v := (-1)) dX9_writeHiker_14 (by decide) ?_
  refine r_icmp_eq X 30 dX9_writeHiker_15 (by decide) (fun c11 => ?_) (fun c11 => ?_)
  · rw [if_pos c11] at E
    exact r_pick (by rfl : lpick [(0, .ref p), (1, .int b0)] [0, 1] = _) (t_x9_writeHiker_j30 X hl0 hr hnm E)
  · rw [if_neg c11] at E
    refine r_aload_n X 0 dX9_writeHiker_18 rfl rfl ?_
    refine r_bipush X (v := 48) dX9_writeHiker_19 (by decide) ?_
    refine r_aload_n X 0 dX9_writeHiker_21 rfl rfl ?_
    refine r_iload_n X 1 dX9_writeHiker_22 rfl rfl ?_
    obtain ⟨u15, e16, E⟩ := gb_some E
    obtain ⟨r12, g13, e14, E⟩ := cb_some E
    refine r_callV0 X hl0 (ci := 9) dX9_writeHiker_23 y_X9_thicknessFor m_X9_90 rfl rfl e16 (t_x9_thicknessFor (l := l) (G := G) e14) rfl rfl (Nat.le_of_ble_eq_true rfl) (by decide) ?_
    refine r_iadd X dX9_writeHiker_26 ?_
    obtain ⟨u20, e21, E⟩ := gb_some E
    obtain ⟨r17, g18, e19, E⟩ := cb_some E
    refine r_callV0 X hl0 (ci := 9) dX9_writeHiker_27 y_X9_writeByte m_X9_425 rfl rfl e21 (t_x9_writeByte (l := l) (G := G) e19) rfl rfl (Nat.le_of_ble_eq_true rfl) (by decide) ?_
    exact r_pick (by rfl : lpick [(0, .ref p), (1, .int b0)] [0, 1] = _) (t_x9_writeHiker_j30 X hl0 hr hnm E)
theorem t_x9_writeHiker {l : Launch} {G : GG} {p : Nat} {b0 : Int32} {g : AH} {r : Unit} {g1 : AH} (E : x9_writeHiker p b0 g = some (r, g1)) : Ct l G yX9_writeHiker cX9_writeHiker 3 none ⟨10, 0, 0, 255⟩ [.ref p, .int b0] g none g1 :=
  ct_of (L0 := [(0, .ref p), (1, .int b0)]) y_X9_writeHiker rfl (Nat.le_of_ble_eq_true rfl) fun M hl0 X hr hnm => t_x9_writeHiker_b X hl0 hr hnm E
set_option maxHeartbeats 4000000 in
set_option maxRecDepth 100000 in
theorem t_x9_writeBunks_j60_12 {l : Launch} {G : GG} {M : MC} (X : CX M G cX9_writeBunks 2 RX9 ⟨11, 0, 0, 277⟩) (hl0 : M.2.1 = l) (hr : (mM M).sig.returnType = (some .int)) (hnm : (mM M).name = yX9_writeBunks.name) {Q : State → Prop} {kc ks : Nat} {s9 : ((Int32) ⊕ (Unit))} {g1 : AH} {a0 : Nat} {a1 : Int32} (hc : ∀ s1, s9 = .inl s1 → WW M G 2 Q kc ks g1 12 [(0, .ref a0), (1, .int s1)] []) (hx : ∀ t, s9 = .inr t → WW M G 2 Q kc ks g1 66 [(0, .ref a0)] []) {g : AH} (E : x9_writeBunks_j60_12 a0 a1 g = some (s9, g1)) : WW M G 2 Q kc ks g 60 [(0, .ref a0), (1, .int a1)] [] := by
  unfold x9_writeBunks_j60_12 at E
  refine r_iinc X (v := (a1 + 1)) (L1 := [(1, .int (a1 + 1)), (0, .ref a0)]) dX9_writeBunks_60 rfl rfl (by decide) rfl ?_
  refine r_goto X 12 dX9_writeBunks_63 (by decide) ?_
  cases E
  exact r_pick (by rfl : lpick [(1, .int (a1 + 1)), (0, .ref a0)] [1, 0] = _) (hc _ rfl)
set_option maxHeartbeats 4000000 in
set_option maxRecDepth 100000 in
theorem t_x9_writeBunks_j33_12 {l : Launch} {G : GG} {M : MC} (X : CX M G cX9_writeBunks 2 RX9 ⟨11, 0, 0, 277⟩) (hl0 : M.2.1 = l) (hr : (mM M).sig.returnType = (some .int)) (hnm : (mM M).name = yX9_writeBunks.name) {Q : State → Prop} {kc ks : Nat} {s9 : ((Int32) ⊕ (Unit))} {g1 : AH} {a0 : Nat} {a1 : Int32} (hc : ∀ s1, s9 = .inl s1 → WW M G 2 Q kc ks g1 12 [(0, .ref a0), (1, .int s1)] []) (hx : ∀ t, s9 = .inr t → WW M G 2 Q kc ks g1 66 [(0, .ref a0)] []) {g : AH} (E : x9_writeBunks_j33_12 a0 a1 g = some (s9, g1)) : WW M G 2 Q kc ks g 33 [(0, .ref a0), (1, .int a1)] [] := by
  unfold x9_writeBunks_j33_12 at E
  refine r_aload_n X 0 dX9_writeBunks_33 rfl rfl ?_
  refine r_iload_n X 1 dX9_writeBunks_34 rfl rfl ?_
  obtain ⟨u4, e5, E⟩ := gb_some E
  obtain ⟨r1, g2, e3, E⟩ := cb_some E
  refine r_callV0 X hl0 (ci := 9) dX9_writeBunks_35 y_X9_inBunk m_X9_83 rfl rfl e5 (t_x9_inBunk (l := l) (G := G) e3) rfl rfl (Nat.le_of_ble_eq_true rfl) (by decide) ?_
  refine r_iconst X (v := (-1)) dX9_writeBunks_38 (by decide) ?_
  refine r_icmp_ne X 51 dX9_writeBunks_39 (by decide) (fun c6 => ?_) (fun c6 => ?_)
  · rw [if_neg c6] at E
    refine r_aload_n X 0 dX9_writeBunks_51 rfl rfl ?_
    refine r_aload_n X 0 dX9_writeBunks_52 rfl rfl ?_
    refine r_iload_n X 1 dX9_writeBunks_53 rfl rfl ?_
    obtain ⟨u10, e11, E⟩ := gb_some E
    obtain ⟨r7, g8, e9, E⟩ := cb_some E
    refine r_callV0 X hl0 (ci := 9) dX9_writeBunks_54 y_X9_inBunk m_X9_83 rfl rfl e11 (t_x9_inBunk (l := l) (G := G) e9) rfl rfl (Nat.le_of_ble_eq_true rfl) (by decide) ?_
    obtain ⟨u15, e16, E⟩ := gb_some E
    obtain ⟨r12, g13, e14, E⟩ := cb_some E
    refine r_callV0 X hl0 (ci := 9) dX9_writeBunks_57 y_X9_writeHiker m_X9_428 rfl rfl e16 (t_x9_writeHiker (l := l) (G := G) e14) rfl rfl (Nat.le_of_ble_eq_true rfl) (by decide) ?_
    exact r_pick (by rfl : lpick [(0, .ref a0), (1, .int a1)] [0, 1] = _) (t_x9_writeBunks_j60_12 X hl0 hr hnm hc hx E)
  · rw [if_pos c6] at E
    refine r_aload_n X 0 dX9_writeBunks_42 rfl rfl ?_
    refine r_bipush X (v := 45) dX9_writeBunks_43 (by decide) ?_
    obtain ⟨u20, e21, E⟩ := gb_some E
    obtain ⟨r17, g18, e19, E⟩ := cb_some E
    refine r_callV0 X hl0 (ci := 9) dX9_writeBunks_45 y_X9_writeByte m_X9_425 rfl rfl e21 (t_x9_writeByte (l := l) (G := G) e19) rfl rfl (Nat.le_of_ble_eq_true rfl) (by decide) ?_
    refine r_goto X 60 dX9_writeBunks_48 (by decide) ?_
    exact r_pick (by rfl : lpick [(0, .ref a0), (1, .int a1)] [0, 1] = _) (t_x9_writeBunks_j60_12 X hl0 hr hnm hc hx E)
set_option maxHeartbeats 4000000 in
set_option maxRecDepth 100000 in
theorem t_x9_writeBunks_l12 {l : Launch} {G : GG} {M : MC} (X : CX M G cX9_writeBunks 2 RX9 ⟨11, 0, 0, 277⟩) (hl0 : M.2.1 = l) (hr : (mM M).sig.returnType = (some .int)) (hnm : (mM M).name = yX9_writeBunks.name) {Q : State → Prop} {kc ks : Nat} {s9 : ((Int32) ⊕ (Unit))} {g1 : AH} {a0 : Nat} {s0 : Int32} (hc : ∀ s1, s9 = .inl s1 → WW M G 2 Q kc ks g1 12 [(0, .ref a0), (1, .int s1)] []) (hx : ∀ t, s9 = .inr t → WW M G 2 Q kc ks g1 66 [(0, .ref a0)] []) {g : AH} (E : x9_writeBunks_l12 a0 s0 g = some (s9, g1)) : WW M G 2 Q kc ks g 12 [(0, .ref a0), (1, .int s0)] [] := by
  unfold x9_writeBunks_l12 at E
  refine r_iload_n X 1 dX9_writeBunks_12 rfl rfl ?_
  refine r_aload_n X 0 dX9_writeBunks_13 rfl rfl ?_
  obtain ⟨x1, e2, E⟩ := gb_some E
  refine r_getR X dX9_writeBunks_14 f_X9_7 e2 ?_
  refine r_bipush X (v := 9) dX9_writeBunks_17 (by decide) ?_
  obtain ⟨x3, e4, E⟩ := gb_some E
  refine r_iald X dX9_writeBunks_19 e4 ?_
  refine r_icmp_ge X 66 dX9_writeBunks_20 (by decide) (fun c5 => ?_) (fun c5 => ?_)
  · rw [if_pos c5] at E
    cases E
    exact r_pick (by rfl : lpick [(0, .ref a0), (1, .int s0)] [0] = _) (hx _ rfl)
  · rw [if_neg c5] at E
    refine r_iload_n X 1 dX9_writeBunks_23 rfl rfl ?_
    refine r_if_le X 33 dX9_writeBunks_24 (by decide) (fun c6 => ?_) (fun c6 => ?_)
    · rw [if_pos c6] at E
      exact r_pick (by rfl : lpick [(0, .ref a0), (1, .int s0)] [0, 1] = _) (t_x9_writeBunks_j33_12 X hl0 hr hnm hc hx E)
    · rw [if_neg c6] at E
      refine r_aload_n X 0 dX9_writeBunks_27 rfl rfl ?_
      refine r_bipush X (v := 32) dX9_writeBunks_28 (by decide) ?_
      obtain ⟨u10, e11, E⟩ := gb_some E
      obtain ⟨r7, g8, e9, E⟩ := cb_some E
      refine r_callV0 X hl0 (ci := 9) dX9_writeBunks_30 y_X9_writeByte m_X9_425 rfl rfl e11 (t_x9_writeByte (l := l) (G := G) e9) rfl rfl (Nat.le_of_ble_eq_true rfl) (by decide) ?_
      exact r_pick (by rfl : lpick [(0, .ref a0), (1, .int s0)] [0, 1] = _) (t_x9_writeBunks_j33_12 X hl0 hr hnm hc hx E)
set_option maxHeartbeats 4000000 in
theorem t_x9_writeBunks_l12_r {l : Launch} {G : GG} {M : MC} (X : CX M G cX9_writeBunks 2 RX9 ⟨11, 0, 0, 277⟩) (hl0 : M.2.1 = l) (hr : (mM M).sig.returnType = (some .int)) (hnm : (mM M).name = yX9_writeBunks.name) {Q : State → Prop} {kc ks : Nat} {a0 : Nat} : ∀ (n : Nat) (s0 : Int32) (g : AH) (t : (Unit)) (g1 : AH), loopX (x9_writeBunks_l12 a0) n s0 g = some (t, g1) → WW M G 2 Q kc ks g1 66 [(0, .ref a0)] [] → WW M G 2 Q kc ks g 12 [(0, .ref a0), (1, .int s0)] [] :=
  loop_cps (K := fun t g1 => WW M G 2 Q kc ks g1 66 [(0, .ref a0)] []) (fun _ s0 g => WW M G 2 Q kc ks g 12 [(0, .ref a0), (1, .int s0)] []) (fun n s0 g st g1 E hc hx => t_x9_writeBunks_l12 X hl0 hr hnm hc hx E)
set_option maxHeartbeats 4000000 in
set_option maxRecDepth 100000 in
theorem t_x9_writeBunks_b {l : Launch} {G : GG} {M : MC} (X : CX M G cX9_writeBunks 2 RX9 ⟨11, 0, 0, 277⟩) (hl0 : M.2.1 = l) (hr : (mM M).sig.returnType = (some .int)) (hnm : (mM M).name = yX9_writeBunks.name) {p : Nat} {g : AH} {r : Int32} {g1 : AH} (E : x9_writeBunks p g = some (r, g1)) : WW M G 2 (RQ M G (some (.int r)) g1 0 0) 0 0 g 0 [(0, .ref p)] [] := by
  unfold x9_writeBunks at E
  refine r_aload_n X 0 dX9_writeBunks_0 rfl rfl ?_
  refine r_iconst X (v := 0) dX9_writeBunks_1 (by decide) ?_
  obtain ⟨g1, e2, E⟩ := gb_some E
  refine r_put X dX9_writeBunks_2 f_X9_57 rfl rfl e2 ?_
  refine r_aload_n X 0 dX9_writeBunks_5 rfl rfl ?_
  refine r_iconst X (v := 0) dX9_writeBunks_6 (by decide) ?_
  obtain ⟨g3, e4, E⟩ := gb_some E
  refine r_put X dX9_writeBunks_7 f_X9_419 rfl rfl e4 ?_
  refine r_iconst X (v := 0) dX9_writeBunks_10 (by decide) ?_
  refine r_istore_n X 1 (L1 := [(1, .int 0), (0, .ref p)]) dX9_writeBunks_11 rfl (by decide) rfl ?_
  obtain ⟨t5, g6, e7, E⟩ := cb_some E
  refine r_pick (by rfl : lpick [(1, .int 0), (0, .ref p)] [1, 0] = _) (t_x9_writeBunks_l12_r X hl0 hr hnm _ _ _ _ _ e7 ?_)
  refine r_aload_n X 0 dX9_writeBunks_66 rfl rfl ?_
  obtain ⟨x8, e9, E⟩ := gb_some E
  refine r_getI X dX9_writeBunks_67 f_X9_419 e9 ?_
  cases E
  exact r_iret X hr dX9_writeBunks_70 (by decide) (by decide)
theorem t_x9_writeBunks {l : Launch} {G : GG} {p : Nat} {g : AH} {r : Int32} {g1 : AH} (E : x9_writeBunks p g = some (r, g1)) : Ct l G yX9_writeBunks cX9_writeBunks 2 (some .int) ⟨11, 0, 0, 277⟩ [.ref p] g (some (.int r)) g1 :=
  ct_of (L0 := [(0, .ref p)]) y_X9_writeBunks rfl (Nat.le_of_ble_eq_true rfl) fun M hl0 X hr hnm => t_x9_writeBunks_b X hl0 hr hnm E
set_option maxHeartbeats 4000000 in
set_option maxRecDepth 100000 in
theorem t_x9_writeAccount_j49 {l : Launch} {G : GG} {M : MC} (X : CX M G cX9_writeAccount 2 RX9 ⟨15, 0, 0, 354⟩) (hl0 : M.2.1 = l) (hr : (mM M).sig.returnType = none) (hnm : (mM M).name = yX9_writeAccount.name) {a0 : Nat} {a1 : Int32} {g : AH} {r : Unit} {g1 : AH} (E : x9_writeAccount_j49 a0 a1 g = some (r, g1)) : WW M G 2 (RQ M G none g1 0 0) 0 0 g 49 [(0, .ref a0), (1, .int a1)] [] := by
  unfold x9_writeAccount_j49 at E
  refine r_aload_n X 0 dX9_writeAccount_49 rfl rfl ?_
  refine r_bipush X (v := 47) dX9_writeAccount_50 (by decide) ?_
  obtain ⟨u4, e5, E⟩ := gb_some E
  obtain ⟨r1, g2, e3, E⟩ := cb_some E
  refine r_callV0 X hl0 (ci := 9) dX9_writeAccount_52 y_X9_writeByte m_X9_425 rfl rfl e5 (t_x9_writeByte (l := l) (G := G) e3) rfl rfl (Nat.le_of_ble_eq_true rfl) (by decide) ?_
  refine r_aload_n X 0 dX9_writeAccount_55 rfl rfl ?_
  refine r_aload_n X 0 dX9_writeAccount_56 rfl rfl ?_
  refine r_iload_n X 1 dX9_writeAccount_57 rfl rfl ?_
  refine r_bipush X (v := 8) dX9_writeAccount_58 (by decide) ?_
  obtain ⟨u9, e10, E⟩ := gb_some E
  obtain ⟨r6, g7, e8, E⟩ := cb_some E
  refine r_callV0 X hl0 (ci := 9) dX9_writeAccount_60 y_X9_get m_X9_64 rfl rfl e10 (t_x9_get (l := l) (G := G) e8) rfl rfl (Nat.le_of_ble_eq_true rfl) (by decide) ?_
  obtain ⟨u14, e15, E⟩ := gb_some E
  obtain ⟨r11, g12, e13, E⟩ := cb_some E
  refine r_callV0 X hl0 (ci := 9) dX9_writeAccount_63 y_X9_writeNumber m_X9_422 rfl rfl e15 (t_x9_writeNumber (l := l) (G := G) 12 e13) rfl rfl (Nat.le_of_ble_eq_true rfl) (by decide) ?_
  cases E
  exact r_vret X hr dX9_writeAccount_66 (by decide) (by decide)
set_option maxHeartbeats 4000000 in
set_option maxRecDepth 100000 in
theorem t_x9_writeAccount_b {l : Launch} {G : GG} {M : MC} (X : CX M G cX9_writeAccount 2 RX9 ⟨15, 0, 0, 354⟩) (hl0 : M.2.1 = l) (hr : (mM M).sig.returnType = none) (hnm : (mM M).name = yX9_writeAccount.name) {p : Nat} {b0 : Int32} {g : AH} {r : Unit} {g1 : AH} (E : x9_writeAccount p b0 g = some (r, g1)) : WW M G 2 (RQ M G none g1 0 0) 0 0 g 0 [(0, .ref p), (1, .int b0)] [] := by
  unfold x9_writeAccount at E
  refine r_aload_n X 0 dX9_writeAccount_0 rfl rfl ?_
  refine r_bipush X (v := 97) dX9_writeAccount_1 (by decide) ?_
  refine r_iload_n X 1 dX9_writeAccount_3 rfl rfl ?_
  refine r_iadd X dX9_writeAccount_4 ?_
  obtain ⟨u4, e5, E⟩ := gb_some E
  obtain ⟨r1, g2, e3, E⟩ := cb_some E
  refine r_callV0 X hl0 (ci := 9) dX9_writeAccount_5 y_X9_writeByte m_X9_425 rfl rfl e5 (t_x9_writeByte (l := l) (G := G) e3) rfl rfl (Nat.le_of_ble_eq_true rfl) (by decide) ?_
  refine r_aload_n X 0 dX9_writeAccount_8 rfl rfl ?_
  refine r_bipush X (v := 61) dX9_writeAccount_9 (by decide) ?_
  obtain ⟨u9, e10, E⟩ := gb_some E
  obtain ⟨r6, g7, e8, E⟩ := cb_some E
  refine r_callV0 X hl0 (ci := 9) dX9_writeAccount_11 y_X9_writeByte m_X9_425 rfl rfl e10 (t_x9_writeByte (l := l) (G := G) e8) rfl rfl (Nat.le_of_ble_eq_true rfl) (by decide) ?_
  refine r_aload_n X 0 dX9_writeAccount_14 rfl rfl ?_
  refine r_aload_n X 0 dX9_writeAccount_15 rfl rfl ?_
  refine r_iload_n X 1 dX9_writeAccount_16 rfl rfl ?_
  refine r_iconst X (v := 2) dX9_writeAccount_17 (by decide) ?_
  obtain ⟨u14, e15, E⟩ := gb_some E
  obtain ⟨r11, g12, e13, E⟩ := cb_some E
  refine r_callV0 X hl0 (ci := 9) dX9_writeAccount_18 y_X9_get m_X9_64 rfl rfl e15 (t_x9_get (l := l) (G := G) e13) rfl rfl (Nat.le_of_ble_eq_true rfl) (by decide) ?_
  obtain ⟨u19, e20, E⟩ := gb_some E
  obtain ⟨r16, g17, e18, E⟩ := cb_some E
  refine r_callV0 X hl0 (ci := 9) dX9_writeAccount_21 y_X9_writeNumber m_X9_422 rfl rfl e20 (t_x9_writeNumber (l := l) (G := G) 12 e18) rfl rfl (Nat.le_of_ble_eq_true rfl) (by decide) ?_
  refine r_aload_n X 0 dX9_writeAccount_24 rfl rfl ?_
  refine r_iload_n X 1 dX9_writeAccount_25 rfl rfl ?_
  refine r_iconst X (v := 3) dX9_writeAccount_26 (by decide) ?_
  obtain ⟨u24, e25, E⟩ := gb_some E
  obtain ⟨r21, g22, e23, E⟩ := cb_some E
  refine r_callV0 X hl0 (ci := 9) dX9_writeAccount_27 y_X9_get m_X9_64 rfl rfl e25 (t_x9_get (l := l) (G := G) e23) rfl rfl (Nat.le_of_ble_eq_true rfl) (by decide) ?_
  refine r_if_le X 49 dX9_writeAccount_30 (by decide) (fun c26 => ?_) (fun c26 => ?_)
  · rw [if_pos c26] at E
    exact r_pick (by rfl : lpick [(0, .ref p), (1, .int b0)] [0, 1] = _) (t_x9_writeAccount_j49 X hl0 hr hnm E)
  · rw [if_neg c26] at E
    refine r_aload_n X 0 dX9_writeAccount_33 rfl rfl ?_
    refine r_bipush X (v := 45) dX9_writeAccount_34 (by decide) ?_
    obtain ⟨u30, e31, E⟩ := gb_some E
    obtain ⟨r27, g28, e29, E⟩ := cb_some E
    refine r_callV0 X hl0 (ci := 9) dX9_writeAccount_36 y_X9_writeByte m_X9_425 rfl rfl e31 (t_x9_writeByte (l := l) (G := G) e29) rfl rfl (Nat.le_of_ble_eq_true rfl) (by decide) ?_
    refine r_aload_n X 0 dX9_writeAccount_39 rfl rfl ?_
    refine r_aload_n X 0 dX9_writeAccount_40 rfl rfl ?_
    refine r_iload_n X 1 dX9_writeAccount_41 rfl rfl ?_
    refine r_iconst X (v := 3) dX9_writeAccount_42 (by decide) ?_
    obtain ⟨u35, e36, E⟩ := gb_some E
    obtain ⟨r32, g33, e34, E⟩ := cb_some E
    refine r_callV0 X hl0 (ci := 9) dX9_writeAccount_43 y_X9_get m_X9_64 rfl rfl e36 (t_x9_get (l := l) (G := G) e34) rfl rfl (Nat.le_of_ble_eq_true rfl) (by decide) ?_
    obtain ⟨u40, e41, E⟩ := gb_some E
    obtain ⟨r37, g38, e39, E⟩ := cb_some E
    refine r_callV0 X hl0 (ci := 9) dX9_writeAccount_46 y_X9_writeNumber m_X9_422 rfl rfl e41 (t_x9_writeNumber (l := l) (G := G) 12 e39) rfl rfl (Nat.le_of_ble_eq_true rfl) (by decide) ?_
    exact r_pick (by rfl : lpick [(0, .ref p), (1, .int b0)] [0, 1] = _) (t_x9_writeAccount_j49 X hl0 hr hnm E)
theorem t_x9_writeAccount {l : Launch} {G : GG} {p : Nat} {b0 : Int32} {g : AH} {r : Unit} {g1 : AH} (E : x9_writeAccount p b0 g = some (r, g1)) : Ct l G yX9_writeAccount cX9_writeAccount 2 none ⟨15, 0, 0, 354⟩ [.ref p, .int b0] g none g1 :=
  ct_of (L0 := [(0, .ref p), (1, .int b0)]) y_X9_writeAccount rfl (Nat.le_of_ble_eq_true rfl) fun M hl0 X hr hnm => t_x9_writeAccount_b X hl0 hr hnm E
set_option maxHeartbeats 4000000 in
set_option maxRecDepth 100000 in
theorem t_x9_writeLedger_j33_12 {l : Launch} {G : GG} {M : MC} (X : CX M G cX9_writeLedger 2 RX9 ⟨16, 0, 0, 375⟩) (hl0 : M.2.1 = l) (hr : (mM M).sig.returnType = (some .int)) (hnm : (mM M).name = yX9_writeLedger.name) {Q : State → Prop} {kc ks : Nat} {s9 : ((Int32) ⊕ (Unit))} {g1 : AH} {a0 : Nat} {a1 : Int32} (hc : ∀ s1, s9 = .inl s1 → WW M G 2 Q kc ks g1 12 [(0, .ref a0), (1, .int s1)] []) (hx : ∀ t, s9 = .inr t → WW M G 2 Q kc ks g1 44 [(0, .ref a0)] []) {g : AH} (E : x9_writeLedger_j33_12 a0 a1 g = some (s9, g1)) : WW M G 2 Q kc ks g 33 [(0, .ref a0), (1, .int a1)] [] := by
  unfold x9_writeLedger_j33_12 at E
  refine r_aload_n X 0 dX9_writeLedger_33 rfl rfl ?_
  refine r_iload_n X 1 dX9_writeLedger_34 rfl rfl ?_
  obtain ⟨u4, e5, E⟩ := gb_some E
  obtain ⟨r1, g2, e3, E⟩ := cb_some E
  refine r_callV0 X hl0 (ci := 9) dX9_writeLedger_35 y_X9_writeAccount m_X9_431 rfl rfl e5 (t_x9_writeAccount (l := l) (G := G) e3) rfl rfl (Nat.le_of_ble_eq_true rfl) (by decide) ?_
  refine r_iinc X (v := (a1 + 1)) (L1 := [(1, .int (a1 + 1)), (0, .ref a0)]) dX9_writeLedger_38 rfl rfl (by decide) rfl ?_
  refine r_goto X 12 dX9_writeLedger_41 (by decide) ?_
  cases E
  exact r_pick (by rfl : lpick [(1, .int (a1 + 1)), (0, .ref a0)] [1, 0] = _) (hc _ rfl)
set_option maxHeartbeats 4000000 in
set_option maxRecDepth 100000 in
theorem t_x9_writeLedger_l12 {l : Launch} {G : GG} {M : MC} (X : CX M G cX9_writeLedger 2 RX9 ⟨16, 0, 0, 375⟩) (hl0 : M.2.1 = l) (hr : (mM M).sig.returnType = (some .int)) (hnm : (mM M).name = yX9_writeLedger.name) {Q : State → Prop} {kc ks : Nat} {s9 : ((Int32) ⊕ (Unit))} {g1 : AH} {a0 : Nat} {s0 : Int32} (hc : ∀ s1, s9 = .inl s1 → WW M G 2 Q kc ks g1 12 [(0, .ref a0), (1, .int s1)] []) (hx : ∀ t, s9 = .inr t → WW M G 2 Q kc ks g1 44 [(0, .ref a0)] []) {g : AH} (E : x9_writeLedger_l12 a0 s0 g = some (s9, g1)) : WW M G 2 Q kc ks g 12 [(0, .ref a0), (1, .int s0)] [] := by
  unfold x9_writeLedger_l12 at E
  refine r_iload_n X 1 dX9_writeLedger_12 rfl rfl ?_
  refine r_aload_n X 0 dX9_writeLedger_13 rfl rfl ?_
  obtain ⟨x1, e2, E⟩ := gb_some E
  refine r_getR X dX9_writeLedger_14 f_X9_7 e2 ?_
  refine r_bipush X (v := 12) dX9_writeLedger_17 (by decide) ?_
  obtain ⟨x3, e4, E⟩ := gb_some E
  refine r_iald X dX9_writeLedger_19 e4 ?_
  refine r_icmp_ge X 44 dX9_writeLedger_20 (by decide) (fun c5 => ?_) (fun c5 => ?_)
  · rw [if_pos c5] at E
    cases E
    exact r_pick (by rfl : lpick [(0, .ref a0), (1, .int s0)] [0] = _) (hx _ rfl)
  · rw [if_neg c5] at E
    refine r_iload_n X 1 dX9_writeLedger_23 rfl rfl ?_
    refine r_if_le X 33 dX9_writeLedger_24 (by decide) (fun c6 => ?_) (fun c6 => ?_)
    · rw [if_pos c6] at E
      exact r_pick (by rfl : lpick [(0, .ref a0), (1, .int s0)] [0, 1] = _) (t_x9_writeLedger_j33_12 X hl0 hr hnm hc hx E)
    · rw [if_neg c6] at E
      refine r_aload_n X 0 dX9_writeLedger_27 rfl rfl ?_
      refine r_bipush X (v := 32) dX9_writeLedger_28 (by decide) ?_
      obtain ⟨u10, e11, E⟩ := gb_some E
      obtain ⟨r7, g8, e9, E⟩ := cb_some E
      refine r_callV0 X hl0 (ci := 9) dX9_writeLedger_30 y_X9_writeByte m_X9_425 rfl rfl e11 (t_x9_writeByte (l := l) (G := G) e9) rfl rfl (Nat.le_of_ble_eq_true rfl) (by decide) ?_
      exact r_pick (by rfl : lpick [(0, .ref a0), (1, .int s0)] [0, 1] = _) (t_x9_writeLedger_j33_12 X hl0 hr hnm hc hx E)
set_option maxHeartbeats 4000000 in
theorem t_x9_writeLedger_l12_r {l : Launch} {G : GG} {M : MC} (X : CX M G cX9_writeLedger 2 RX9 ⟨16, 0, 0, 375⟩) (hl0 : M.2.1 = l) (hr : (mM M).sig.returnType = (some .int)) (hnm : (mM M).name = yX9_writeLedger.name) {Q : State → Prop} {kc ks : Nat} {a0 : Nat} : ∀ (n : Nat) (s0 : Int32) (g : AH) (t : (Unit)) (g1 : AH), loopX (x9_writeLedger_l12 a0) n s0 g = some (t, g1) → WW M G 2 Q kc ks g1 44 [(0, .ref a0)] [] → WW M G 2 Q kc ks g 12 [(0, .ref a0), (1, .int s0)] [] :=
  loop_cps (K := fun t g1 => WW M G 2 Q kc ks g1 44 [(0, .ref a0)] []) (fun _ s0 g => WW M G 2 Q kc ks g 12 [(0, .ref a0), (1, .int s0)] []) (fun n s0 g st g1 E hc hx => t_x9_writeLedger_l12 X hl0 hr hnm hc hx E)
set_option maxHeartbeats 4000000 in
set_option maxRecDepth 100000 in
theorem t_x9_writeLedger_b {l : Launch} {G : GG} {M : MC} (X : CX M G cX9_writeLedger 2 RX9 ⟨16, 0, 0, 375⟩) (hl0 : M.2.1 = l) (hr : (mM M).sig.returnType = (some .int)) (hnm : (mM M).name = yX9_writeLedger.name) {p : Nat} {g : AH} {r : Int32} {g1 : AH} (E : x9_writeLedger p g = some (r, g1)) : WW M G 2 (RQ M G (some (.int r)) g1 0 0) 0 0 g 0 [(0, .ref p)] [] := by
  unfold x9_writeLedger at E
  refine r_aload_n X 0 dX9_writeLedger_0 rfl rfl ?_
  refine r_iconst X (v := 0) dX9_writeLedger_1 (by decide) ?_
  obtain ⟨g1, e2, E⟩ := gb_some E
  refine r_put X dX9_writeLedger_2 f_X9_57 rfl rfl e2 ?_
  refine r_aload_n X 0 dX9_writeLedger_5 rfl rfl ?_
  refine r_iconst X (v := 0) dX9_writeLedger_6 (by decide) ?_
  obtain ⟨g3, e4, E⟩ := gb_some E
  refine r_put X dX9_writeLedger_7 f_X9_419 rfl rfl e4 ?_
  refine r_iconst X (v := 0) dX9_writeLedger_10 (by decide) ?_
  refine r_istore_n X 1 (L1 := [(1, .int 0), (0, .ref p)]) dX9_writeLedger_11 rfl (by decide) rfl ?_
  obtain ⟨t5, g6, e7, E⟩ := cb_some E
  refine r_pick (by rfl : lpick [(1, .int 0), (0, .ref p)] [1, 0] = _) (t_x9_writeLedger_l12_r X hl0 hr hnm _ _ _ _ _ e7 ?_)
  refine r_aload_n X 0 dX9_writeLedger_44 rfl rfl ?_
  obtain ⟨x8, e9, E⟩ := gb_some E
  refine r_getI X dX9_writeLedger_45 f_X9_419 e9 ?_
  cases E
  exact r_iret X hr dX9_writeLedger_48 (by decide) (by decide)
theorem t_x9_writeLedger {l : Launch} {G : GG} {p : Nat} {g : AH} {r : Int32} {g1 : AH} (E : x9_writeLedger p g = some (r, g1)) : Ct l G yX9_writeLedger cX9_writeLedger 2 (some .int) ⟨16, 0, 0, 375⟩ [.ref p] g (some (.int r)) g1 :=
  ct_of (L0 := [(0, .ref p)]) y_X9_writeLedger rfl (Nat.le_of_ble_eq_true rfl) fun M hl0 X hr hnm => t_x9_writeLedger_b X hl0 hr hnm E
set_option maxHeartbeats 4000000 in
set_option maxRecDepth 100000 in
theorem t_x9_outputByte_b {l : Launch} {G : GG} {M : MC} (X : CX M G cX9_outputByte 2 RX9 ⟨2, 0, 0, 82⟩) (hl0 : M.2.1 = l) (hr : (mM M).sig.returnType = (some .int)) (hnm : (mM M).name = yX9_outputByte.name) {p : Nat} {b0 : Int32} {g : AH} {r : Int32} {g1 : AH} (E : x9_outputByte p b0 g = some (r, g1)) : WW M G 2 (RQ M G (some (.int r)) g1 0 0) 0 0 g 0 [(0, .ref p), (1, .int b0)] [] := by
  unfold x9_outputByte at E
  refine r_aload_n X 0 dX9_outputByte_0 rfl rfl ?_
  refine r_iconst X (v := 0) dX9_outputByte_1 (by decide) ?_
  obtain ⟨g1, e2, E⟩ := gb_some E
  refine r_put X dX9_outputByte_2 f_X9_57 rfl rfl e2 ?_
  refine r_iload_n X 1 dX9_outputByte_5 rfl rfl ?_
  refine r_iconst X (v := 0) dX9_outputByte_6 (by decide) ?_
  refine r_aload_n X 0 dX9_outputByte_7 rfl rfl ?_
  obtain ⟨x3, e4, E⟩ := gb_some E
  refine r_getI X dX9_outputByte_8 f_X9_419 e4 ?_
  refine r_iconst X (v := 1) dX9_outputByte_11 (by decide) ?_
  refine r_isub X dX9_outputByte_12 ?_
  obtain ⟨r5, g6, e7, E⟩ := cb_some E
  refine r_callS0 X hl0 dX9_outputByte_13 y_X9_isBetween m_X9_68 (t_x9_isBetween (l := l) (G := G) e7) rfl rfl (Nat.le_of_ble_eq_true rfl) (by decide) ?_
  refine r_if_eq X 32 dX9_outputByte_16 (by decide) (fun c8 => ?_) (fun c8 => ?_)
  · rw [if_pos c8] at E
    refine r_iconst X (v := (-1)) dX9_outputByte_32 (by decide) ?_
    cases E
    exact r_iret X hr dX9_outputByte_33 (by decide) (by decide)
  · rw [if_neg c8] at E
    refine r_aload_n X 0 dX9_outputByte_19 rfl rfl ?_
    obtain ⟨x9, e10, E⟩ := gb_some E
    refine r_getR X dX9_outputByte_20 f_X9_43 e10 ?_
    refine r_iload_n X 1 dX9_outputByte_23 rfl rfl ?_
    obtain ⟨x11, e12, E⟩ := gb_some E
    refine r_bald X dX9_outputByte_24 e12 ?_
    refine r_sipush X (v := 255) dX9_outputByte_25 (by decide) ?_
    refine r_iand X dX9_outputByte_28 ?_
    refine r_goto X 33 dX9_outputByte_29 (by decide) ?_
    cases E
    exact r_iret X hr dX9_outputByte_33 (by decide) (by decide)
theorem t_x9_outputByte {l : Launch} {G : GG} {p : Nat} {b0 : Int32} {g : AH} {r : Int32} {g1 : AH} (E : x9_outputByte p b0 g = some (r, g1)) : Ct l G yX9_outputByte cX9_outputByte 2 (some .int) ⟨2, 0, 0, 82⟩ [.ref p, .int b0] g (some (.int r)) g1 :=
  ct_of (L0 := [(0, .ref p), (1, .int b0)]) y_X9_outputByte rfl (Nat.le_of_ble_eq_true rfl) fun M hl0 X hr hnm => t_x9_outputByte_b X hl0 hr hnm E
set_option maxHeartbeats 4000000 in
set_option maxRecDepth 100000 in
theorem t_x9_undo_b {l : Launch} {G : GG} {M : MC} (X : CX M G cX9_undo 1 RX9 ⟨2, 0, 0, 84⟩) (hl0 : M.2.1 = l) (hr : (mM M).sig.returnType = (some .int)) (hnm : (mM M).name = yX9_undo.name) {p : Nat} {g : AH} {r : Int32} {g1 : AH} (E : x9_undo p g = some (r, g1)) : WW M G 1 (RQ M G (some (.int r)) g1 0 0) 0 0 g 0 [(0, .ref p)] [] := by
  unfold x9_undo at E
  refine r_aload_n X 0 dX9_undo_0 rfl rfl ?_
  refine r_iconst X (v := 0) dX9_undo_1 (by decide) ?_
  obtain ⟨g1, e2, E⟩ := gb_some E
  refine r_put X dX9_undo_2 f_X9_57 rfl rfl e2 ?_
  refine r_aload_n X 0 dX9_undo_5 rfl rfl ?_
  obtain ⟨x3, e4, E⟩ := gb_some E
  refine r_getI X dX9_undo_6 f_X9_241 e4 ?_
  refine r_if_ne X 18 dX9_undo_9 (by decide) (fun c5 => ?_) (fun c5 => ?_)
  · rw [if_neg c5] at E
    refine r_aload_n X 0 dX9_undo_18 rfl rfl ?_
    refine r_dup X dX9_undo_19 rfl ?_
    obtain ⟨x6, e7, E⟩ := gb_some E
    refine r_getI X dX9_undo_20 f_X9_241 e7 ?_
    refine r_iconst X (v := 1) dX9_undo_23 (by decide) ?_
    refine r_isub X dX9_undo_24 ?_
    obtain ⟨g8, e9, E⟩ := gb_some E
    refine r_put X dX9_undo_25 f_X9_241 rfl rfl e9 ?_
    refine r_aload_n X 0 dX9_undo_28 rfl rfl ?_
    obtain ⟨x10, e11, E⟩ := gb_some E
    refine r_getR X dX9_undo_29 f_X9_16 e11 ?_
    refine r_sipush X (v := 149) dX9_undo_32 (by decide) ?_
    refine r_aload_n X 0 dX9_undo_35 rfl rfl ?_
    obtain ⟨x12, e13, E⟩ := gb_some E
    refine r_getI X dX9_undo_36 f_X9_241 e13 ?_
    refine r_imul X dX9_undo_39 ?_
    refine r_aload_n X 0 dX9_undo_40 rfl rfl ?_
    obtain ⟨x14, e15, E⟩ := gb_some E
    refine r_getR X dX9_undo_41 f_X9_7 e15 ?_
    refine r_iconst X (v := 0) dX9_undo_44 (by decide) ?_
    obtain ⟨r16, g17, e18, E⟩ := cb_some E
    refine r_callS0 X hl0 dX9_undo_45 y_X9_copy m_X9_60 (t_x9_copy (l := l) (G := G) e18) rfl rfl (Nat.le_of_ble_eq_true rfl) (by decide) ?_
    refine r_aload_n X 0 dX9_undo_48 rfl rfl ?_
    obtain ⟨x19, e20, E⟩ := gb_some E
    refine r_getI X dX9_undo_49 f_X9_241 e20 ?_
    cases E
    exact r_iret X hr dX9_undo_52 (by decide) (by decide)
  · rw [if_pos c5] at E
    refine r_aload_n X 0 dX9_undo_12 rfl rfl ?_
    refine r_iconst X (v := 1) dX9_undo_13 (by decide) ?_
    obtain ⟨u24, e25, E⟩ := gb_some E
    obtain ⟨r21, g22, e23, E⟩ := cb_some E
    refine r_callV0 X hl0 (ci := 9) dX9_undo_14 y_X9_fail m_X9_141 rfl rfl e25 (t_x9_fail (l := l) (G := G) e23) rfl rfl (Nat.le_of_ble_eq_true rfl) (by decide) ?_
    cases E
    exact r_iret X hr dX9_undo_17 (by decide) (by decide)
theorem t_x9_undo {l : Launch} {G : GG} {p : Nat} {g : AH} {r : Int32} {g1 : AH} (E : x9_undo p g = some (r, g1)) : Ct l G yX9_undo cX9_undo 1 (some .int) ⟨2, 0, 0, 84⟩ [.ref p] g (some (.int r)) g1 :=
  ct_of (L0 := [(0, .ref p)]) y_X9_undo rfl (Nat.le_of_ble_eq_true rfl) fun M hl0 X hr hnm => t_x9_undo_b X hl0 hr hnm E
set_option maxHeartbeats 4000000 in
set_option maxRecDepth 100000 in
theorem t_x9_saveSnapshot_j15 {l : Launch} {G : GG} {M : MC} (X : CX M G cX9_saveSnapshot 2 RX9 ⟨2, 0, 0, 84⟩) (hl0 : M.2.1 = l) (hr : (mM M).sig.returnType = none) (hnm : (mM M).name = yX9_saveSnapshot.name) {a0 : Nat} {a1 : Int32} {s0 : Int32} {s1 : Nat} {g : AH} {r : Unit} {g1 : AH} (E : x9_saveSnapshot_j15 a0 a1 s0 s1 g = some (r, g1)) : WW M G 2 (RQ M G none g1 0 0) 0 0 g 15 [(0, .ref a0), (1, .int a1)] [.int s0, .ref s1] := by
  unfold x9_saveSnapshot_j15 at E
  obtain ⟨g1, e2, E⟩ := gb_some E
  refine r_put X dX9_saveSnapshot_15 f_X9_57 rfl rfl e2 ?_
  refine r_aload_n X 0 dX9_saveSnapshot_18 rfl rfl ?_
  obtain ⟨x3, e4, E⟩ := gb_some E
  refine r_getI X dX9_saveSnapshot_19 f_X9_57 e4 ?_
  refine r_if_ne X 49 dX9_saveSnapshot_22 (by decide) (fun c5 => ?_) (fun c5 => ?_)
  · rw [if_neg c5] at E
    cases E
    exact r_vret X hr dX9_saveSnapshot_49 (by decide) (by decide)
  · rw [if_pos c5] at E
    refine r_aload_n X 0 dX9_saveSnapshot_25 rfl rfl ?_
    obtain ⟨x6, e7, E⟩ := gb_some E
    refine r_getR X dX9_saveSnapshot_26 f_X9_7 e7 ?_
    refine r_iconst X (v := 0) dX9_saveSnapshot_29 (by decide) ?_
    refine r_aload_n X 0 dX9_saveSnapshot_30 rfl rfl ?_
    obtain ⟨x8, e9, E⟩ := gb_some E
    refine r_getR X dX9_saveSnapshot_31 f_X9_19 e9 ?_
    refine r_sipush X (v := 149) dX9_saveSnapshot_34 (by decide) ?_
    refine r_iload_n X 1 dX9_saveSnapshot_37 rfl rfl ?_
    refine r_imul X dX9_saveSnapshot_38 ?_
    obtain ⟨r10, g11, e12, E⟩ := cb_some E
    refine r_callS0 X hl0 dX9_saveSnapshot_39 y_X9_copy m_X9_60 (t_x9_copy (l := l) (G := G) e12) rfl rfl (Nat.le_of_ble_eq_true rfl) (by decide) ?_
    refine r_aload_n X 0 dX9_saveSnapshot_42 rfl rfl ?_
    obtain ⟨x13, e14, E⟩ := gb_some E
    refine r_getR X dX9_saveSnapshot_43 f_X9_22 e14 ?_
    refine r_iload_n X 1 dX9_saveSnapshot_46 rfl rfl ?_
    refine r_iconst X (v := 1) dX9_saveSnapshot_47 (by decide) ?_
    obtain ⟨g15, e16, E⟩ := gb_some E
    refine r_zast X dX9_saveSnapshot_48 rfl e16 ?_
    cases E
    exact r_vret X hr dX9_saveSnapshot_49 (by decide) (by decide)
set_option maxHeartbeats 4000000 in
set_option maxRecDepth 100000 in
theorem t_x9_saveSnapshot_b {l : Launch} {G : GG} {M : MC} (X : CX M G cX9_saveSnapshot 2 RX9 ⟨2, 0, 0, 84⟩) (hl0 : M.2.1 = l) (hr : (mM M).sig.returnType = none) (hnm : (mM M).name = yX9_saveSnapshot.name) {p : Nat} {b0 : Int32} {g : AH} {r : Unit} {g1 : AH} (E : x9_saveSnapshot p b0 g = some (r, g1)) : WW M G 2 (RQ M G none g1 0 0) 0 0 g 0 [(0, .ref p), (1, .int b0)] [] := by
  unfold x9_saveSnapshot at E
  refine r_aload_n X 0 dX9_saveSnapshot_0 rfl rfl ?_
  refine r_iload_n X 1 dX9_saveSnapshot_1 rfl rfl ?_
  refine r_iconst X (v := 0) dX9_saveSnapshot_2 (by decide) ?_
  refine r_iconst X (v := 1) dX9_saveSnapshot_3 (by decide) ?_
  obtain ⟨r1, g2, e3, E⟩ := cb_some E
  refine r_callS0 X hl0 dX9_saveSnapshot_4 y_X9_isBetween m_X9_68 (t_x9_isBetween (l := l) (G := G) e3) rfl rfl (Nat.le_of_ble_eq_true rfl) (by decide) ?_
  refine r_if_eq X 14 dX9_saveSnapshot_7 (by decide) (fun c4 => ?_) (fun c4 => ?_)
  · rw [if_pos c4] at E
    refine r_iconst X (v := 1) dX9_saveSnapshot_14 (by decide) ?_
    exact r_pick (by rfl : lpick [(0, .ref p), (1, .int b0)] [0, 1] = _) (t_x9_saveSnapshot_j15 X hl0 hr hnm E)
  · rw [if_neg c4] at E
    refine r_iconst X (v := 0) dX9_saveSnapshot_10 (by decide) ?_
    refine r_goto X 15 dX9_saveSnapshot_11 (by decide) ?_
    exact r_pick (by rfl : lpick [(0, .ref p), (1, .int b0)] [0, 1] = _) (t_x9_saveSnapshot_j15 X hl0 hr hnm E)
theorem t_x9_saveSnapshot {l : Launch} {G : GG} {p : Nat} {b0 : Int32} {g : AH} {r : Unit} {g1 : AH} (E : x9_saveSnapshot p b0 g = some (r, g1)) : Ct l G yX9_saveSnapshot cX9_saveSnapshot 2 none ⟨2, 0, 0, 84⟩ [.ref p, .int b0] g none g1 :=
  ct_of (L0 := [(0, .ref p), (1, .int b0)]) y_X9_saveSnapshot rfl (Nat.le_of_ble_eq_true rfl) fun M hl0 X hr hnm => t_x9_saveSnapshot_b X hl0 hr hnm E
set_option maxHeartbeats 4000000 in
set_option maxRecDepth 100000 in
theorem t_x9_restoreSnapshot_j28 {l : Launch} {G : GG} {M : MC} (X : CX M G cX9_restoreSnapshot 2 RX9 ⟨2, 0, 0, 84⟩) (hl0 : M.2.1 = l) (hr : (mM M).sig.returnType = none) (hnm : (mM M).name = yX9_restoreSnapshot.name) {a0 : Nat} {a1 : Int32} {s0 : Int32} {s1 : Nat} {g : AH} {r : Unit} {g1 : AH} (E : x9_restoreSnapshot_j28 a0 a1 s0 s1 g = some (r, g1)) : WW M G 2 (RQ M G none g1 0 0) 0 0 g 28 [(0, .ref a0), (1, .int a1)] [.int s0, .ref s1] := by
  unfold x9_restoreSnapshot_j28 at E
  obtain ⟨g1, e2, E⟩ := gb_some E
  refine r_put X dX9_restoreSnapshot_28 f_X9_57 rfl rfl e2 ?_
  refine r_aload_n X 0 dX9_restoreSnapshot_31 rfl rfl ?_
  obtain ⟨x3, e4, E⟩ := gb_some E
  refine r_getI X dX9_restoreSnapshot_32 f_X9_57 e4 ?_
  refine r_if_ne X 60 dX9_restoreSnapshot_35 (by decide) (fun c5 => ?_) (fun c5 => ?_)
  · rw [if_neg c5] at E
    cases E
    exact r_vret X hr dX9_restoreSnapshot_60 (by decide) (by decide)
  · rw [if_pos c5] at E
    refine r_aload_n X 0 dX9_restoreSnapshot_38 rfl rfl ?_
    obtain ⟨x6, e7, E⟩ := gb_some E
    refine r_getR X dX9_restoreSnapshot_39 f_X9_19 e7 ?_
    refine r_sipush X (v := 149) dX9_restoreSnapshot_42 (by decide) ?_
    refine r_iload_n X 1 dX9_restoreSnapshot_45 rfl rfl ?_
    refine r_imul X dX9_restoreSnapshot_46 ?_
    refine r_aload_n X 0 dX9_restoreSnapshot_47 rfl rfl ?_
    obtain ⟨x8, e9, E⟩ := gb_some E
    refine r_getR X dX9_restoreSnapshot_48 f_X9_7 e9 ?_
    refine r_iconst X (v := 0) dX9_restoreSnapshot_51 (by decide) ?_
    obtain ⟨r10, g11, e12, E⟩ := cb_some E
    refine r_callS0 X hl0 dX9_restoreSnapshot_52 y_X9_copy m_X9_60 (t_x9_copy (l := l) (G := G) e12) rfl rfl (Nat.le_of_ble_eq_true rfl) (by decide) ?_
    refine r_aload_n X 0 dX9_restoreSnapshot_55 rfl rfl ?_
    refine r_iconst X (v := 0) dX9_restoreSnapshot_56 (by decide) ?_
    obtain ⟨g13, e14, E⟩ := gb_some E
    refine r_put X dX9_restoreSnapshot_57 f_X9_241 rfl rfl e14 ?_
    cases E
    exact r_vret X hr dX9_restoreSnapshot_60 (by decide) (by decide)
set_option maxHeartbeats 4000000 in
set_option maxRecDepth 100000 in
theorem t_x9_restoreSnapshot_b {l : Launch} {G : GG} {M : MC} (X : CX M G cX9_restoreSnapshot 2 RX9 ⟨2, 0, 0, 84⟩) (hl0 : M.2.1 = l) (hr : (mM M).sig.returnType = none) (hnm : (mM M).name = yX9_restoreSnapshot.name) {p : Nat} {b0 : Int32} {g : AH} {r : Unit} {g1 : AH} (E : x9_restoreSnapshot p b0 g = some (r, g1)) : WW M G 2 (RQ M G none g1 0 0) 0 0 g 0 [(0, .ref p), (1, .int b0)] [] := by
  unfold x9_restoreSnapshot at E
  refine r_aload_n X 0 dX9_restoreSnapshot_0 rfl rfl ?_
  refine r_iload_n X 1 dX9_restoreSnapshot_1 rfl rfl ?_
  refine r_iconst X (v := 0) dX9_restoreSnapshot_2 (by decide) ?_
  refine r_iconst X (v := 1) dX9_restoreSnapshot_3 (by decide) ?_
  obtain ⟨r1, g2, e3, E⟩ := cb_some E
  refine r_callS0 X hl0 dX9_restoreSnapshot_4 y_X9_isBetween m_X9_68 (t_x9_isBetween (l := l) (G := G) e3) rfl rfl (Nat.le_of_ble_eq_true rfl) (by decide) ?_
  refine r_if_ne X 14 dX9_restoreSnapshot_7 (by decide) (fun c4 => ?_) (fun c4 => ?_)
  · rw [if_neg c4] at E
    refine r_aload_n X 0 dX9_restoreSnapshot_14 rfl rfl ?_
    obtain ⟨x5, e6, E⟩ := gb_some E
    refine r_getR X dX9_restoreSnapshot_15 f_X9_22 e6 ?_
    refine r_iload_n X 1 dX9_restoreSnapshot_18 rfl rfl ?_
    obtain ⟨x7, e8, E⟩ := gb_some E
    refine r_zald X dX9_restoreSnapshot_19 e8 ?_
    refine r_if_eq X 27 dX9_restoreSnapshot_20 (by decide) (fun c9 => ?_) (fun c9 => ?_)
    · rw [if_pos c9] at E
      refine r_iconst X (v := 2) dX9_restoreSnapshot_27 (by decide) ?_
      exact r_pick (by rfl : lpick [(0, .ref p), (1, .int b0)] [0, 1] = _) (t_x9_restoreSnapshot_j28 X hl0 hr hnm E)
    · rw [if_neg c9] at E
      refine r_iconst X (v := 0) dX9_restoreSnapshot_23 (by decide) ?_
      refine r_goto X 28 dX9_restoreSnapshot_24 (by decide) ?_
      exact r_pick (by rfl : lpick [(0, .ref p), (1, .int b0)] [0, 1] = _) (t_x9_restoreSnapshot_j28 X hl0 hr hnm E)
  · rw [if_pos c4] at E
    refine r_iconst X (v := 1) dX9_restoreSnapshot_10 (by decide) ?_
    refine r_goto X 28 dX9_restoreSnapshot_11 (by decide) ?_
    exact r_pick (by rfl : lpick [(0, .ref p), (1, .int b0)] [0, 1] = _) (t_x9_restoreSnapshot_j28 X hl0 hr hnm E)
theorem t_x9_restoreSnapshot {l : Launch} {G : GG} {p : Nat} {b0 : Int32} {g : AH} {r : Unit} {g1 : AH} (E : x9_restoreSnapshot p b0 g = some (r, g1)) : Ct l G yX9_restoreSnapshot cX9_restoreSnapshot 2 none ⟨2, 0, 0, 84⟩ [.ref p, .int b0] g none g1 :=
  ct_of (L0 := [(0, .ref p), (1, .int b0)]) y_X9_restoreSnapshot rfl (Nat.le_of_ble_eq_true rfl) fun M hl0 X hr hnm => t_x9_restoreSnapshot_b X hl0 hr hnm E
