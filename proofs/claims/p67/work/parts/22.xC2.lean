/-! functions and contracts, by program: refuse, keep, giveBlanket, exchangeBlankets, moveTo, changeRate, addLogs, payBack, burnLogs, noteWhatHappens, payOut, payForNight, partOfLogs, payForLogs, feeForBlanket, payForBlankets, endHour, passTime, perform, act, takeBlanket, returnBlanket, swapBlankets, lieDown, getUp, setRate, fetchLogs, payDebt, passHours, <init>, <init>, <init>, newHuts, <init>, <init>, <init>, <init>, <init>, putAll, <init> -/
def x8_refuse (b0 : Int32) (g : AH) : Option ((Unit ⊕ String) × AH) :=
  if b0 = 1 then
  some (.inr "java/lang/IndexOutOfBoundsException", hcut g)
  else
  if b0 = 2 then
  some (.inr "java/lang/IllegalArgumentException", hcut g)
  else
  if b0 = 3 then
  some (.inr "java/lang/IllegalStateException", hcut g)
  else
  some (.inl (), g)
def x2_keep (p : Nat) (b0 : Nat) (g : AH) : Option (Unit × AH) :=
  gb (getR 2 g p 0) fun x1 => gb (getI 2 g p 1) fun x3 => gb (aldR 5 g x1 x3) fun x5 => gb (isO 3 g x5) fun _ => cb (x3_copyFrom x5 b0 g) fun r7 g8 => gb (getI 2 g8 p 1) fun x12 => gb (putV 2 g8 p 1 (.int ((x12 + 1) - (x12 + 1) / 6 * 6))) fun g15 => gb (getI 2 g15 p 2) fun x17 => gb (putV 2 g15 p 2 (.int (if 6 < (x17 + 1) then 6 else (x17 + 1)))) fun g19 => some ((), g19)
def x3_giveBlanket (p : Nat) (b0 : Int32) (b1 : Int32) (g : AH) : Option (Int32 × AH) :=
  gb (getR 3 g p 18) fun x1 => gb (aldR 4 g x1 b0) fun x3 => gb (getI 1 g x3 5) fun x5 => gb (getR 3 g p 18) fun x7 => gb (aldR 4 g x7 b0) fun x9 => gb (putV 1 g x9 5 (.int b1)) fun g11 => gb (isO 3 g11 p) fun _ => cb (x3_measure p g11) fun r13 g14 => some (x5, g14)
def x3_exchangeBlankets (p : Nat) (b0 : Int32) (b1 : Int32) (g : AH) : Option (Unit × AH) :=
  gb (getR 3 g p 18) fun x1 => gb (aldR 4 g x1 b0) fun x3 => gb (getI 1 g x3 5) fun x5 => gb (getR 3 g p 18) fun x7 => gb (aldR 4 g x7 b0) fun x9 => gb (getR 3 g p 18) fun x11 => gb (aldR 4 g x11 b1) fun x13 => gb (getI 1 g x13 5) fun x15 => gb (putV 1 g x9 5 (.int x15)) fun g17 => gb (getR 3 g17 p 18) fun x19 => gb (aldR 4 g17 x19 b1) fun x21 => gb (putV 1 g17 x21 5 (.int x5)) fun g23 => gb (isO 3 g23 p) fun _ => cb (x3_measure p g23) fun r25 g26 => some ((), g26)
def x3_moveTo_j44 (a0 : Nat) (a1 : Int32) (a2 : Int32) (a3 : Int32) (g : AH) : Option (Int32 × AH) :=
  gb (getR 3 g a0 18) fun x1 => gb (aldR 4 g x1 a1) fun x3 => gb (putV 1 g x3 4 (.int a2)) fun g5 => gb (isO 3 g5 a0) fun _ => cb (x3_measure a0 g5) fun r7 g8 => some (a3, g8)
def x3_moveTo_j27 (a0 : Nat) (a1 : Int32) (a2 : Int32) (a3 : Int32) (g : AH) : Option (Int32 × AH) :=
  gb (isO 3 g a0) fun _ => cb (x3_hasBunk a0 a2 g) fun r1 g2 => if r1 = 0 then
  x3_moveTo_j44 a0 a1 a2 a3 g2
  else
  gb (getR 3 g2 a0 16) fun x7 => gb (astI 0 g2 x7 (a2 + 2) a1) fun g9 => x3_moveTo_j44 a0 a1 a2 a3 g9
def x3_moveTo (p : Nat) (b0 : Int32) (b1 : Int32) (g : AH) : Option (Int32 × AH) :=
  gb (getR 3 g p 18) fun x1 => gb (aldR 4 g x1 b0) fun x3 => gb (getI 1 g x3 4) fun x5 => gb (isO 3 g p) fun _ => cb (x3_hasBunk p x5 g) fun r7 g8 => if r7 = 0 then
  x3_moveTo_j27 p b0 b1 x5 g8
  else
  gb (getR 3 g8 p 16) fun x13 => gb (astI 0 g8 x13 (x5 + 2) (-1)) fun g15 => x3_moveTo_j27 p b0 b1 x5 g15
def x3_changeRate (p : Nat) (b0 : Int32) (g : AH) : Option (Int32 × AH) :=
  gb (getI 3 g p 3) fun x1 => gb (putV 3 g p 3 (.int b0)) fun g3 => some (x1, g3)
def x3_addLogs (p : Nat) (b0 : Int32) (g : AH) : Option (Int32 × AH) :=
  gb (getI 3 g p 1) fun x1 => gb (putV 3 g p 1 (.int (x1 + b0))) fun g3 => gb (getI 3 g3 p 8) fun x5 => gb (putV 3 g3 p 8 (.int (x5 + b0))) fun g7 => gb (getI 3 g7 p 1) fun x9 => some (x9, g7)
def x3_payBack (p : Nat) (b0 : Int32) (b1 : Int32) (g : AH) : Option (Int32 × AH) :=
  gb (getR 3 g p 18) fun x1 => gb (aldR 4 g x1 b0) fun x3 => gb (getI 1 g x3 2) fun x5 => gb (putV 1 g x3 2 (.int (x5 - b1))) fun g7 => gb (getR 3 g7 p 18) fun x9 => gb (aldR 4 g7 x9 b0) fun x11 => gb (getI 1 g7 x11 3) fun x13 => gb (putV 1 g7 x11 3 (.int (x13 - b1))) fun g15 => gb (getI 3 g15 p 4) fun x17 => gb (putV 3 g15 p 4 (.int (x17 + b1))) fun g19 => gb (getR 3 g19 p 18) fun x21 => gb (aldR 4 g19 x21 b0) fun x23 => gb (getI 1 g19 x23 3) fun x25 => some (x25, g19)
def x3_burnLogs_j22 (a0 : Nat) (s0 : Int32) (g : AH) : Option (Unit × AH) :=
  gb (getI 3 g a0 1) fun x1 => gb (putV 3 g a0 1 (.int (x1 - s0))) fun g3 => gb (getI 3 g3 a0 5) fun x5 => gb (putV 3 g3 a0 5 (.int (x5 + s0))) fun g7 => gb (getI 3 g7 a0 6) fun x9 => gb (putV 3 g7 a0 6 (.int (x9 + s0))) fun g11 => gb (getI 3 g11 a0 2) fun x13 => gb (putV 3 g11 a0 2 (.int ((x13 / 2) + (4 * s0)))) fun g16 => some ((), g16)
def x3_burnLogs (p : Nat) (g : AH) : Option (Unit × AH) :=
  gb (getI 3 g p 3) fun x1 => gb (getI 3 g p 1) fun x3 => if x3 ≤ x1 then
  gb (getI 3 g p 1) fun x6 => x3_burnLogs_j22 p x6 g
  else
  gb (getI 3 g p 3) fun x8 => x3_burnLogs_j22 p x8 g
def x3_noteWhatHappens_l2 (a0 : Nat) (s0 : Int32) (g : AH) : Option (((Int32) ⊕ (Unit)) × AH) :=
  gb (getI 3 g a0 12) fun x1 => if x1 ≤ s0 then
  some (.inr (), g)
  else
  gb (getR 3 g a0 18) fun x4 => gb (aldR 4 g x4 s0) fun x6 => gb (getR 1 g x6 8) fun x8 => gb (isO 3 g a0) fun _ => cb (x3_activityNow a0 s0 g) fun r10 g11 => gb (aldI 0 g11 x8 r10) fun x15 => gb (astI 0 g11 x8 r10 (x15 + 1)) fun g17 => some (.inl (s0 + 1), g17)
def x3_noteWhatHappens (p : Nat) (g : AH) : Option (Unit × AH) :=
  cb (loopX (x3_noteWhatHappens_l2 p) 1000 0 g) fun t1 g2 =>
  some ((), g2)
def x1_payOut_j16 (a0 : Nat) (a1 : Int32) (s0 : Int32) (g : AH) : Option (Int32 × AH) :=
  gb (getI 1 g a0 2) fun x1 => gb (putV 1 g a0 2 (.int (x1 - s0))) fun g3 => gb (getI 1 g3 a0 3) fun x5 => gb (putV 1 g3 a0 3 (.int (x5 + (a1 - s0)))) fun g7 => some (s0, g7)
def x1_payOut (p : Nat) (b0 : Int32) (g : AH) : Option (Int32 × AH) :=
  gb (getI 1 g p 2) fun x1 => if x1 ≤ b0 then
  gb (getI 1 g p 2) fun x4 => x1_payOut_j16 p b0 x4 g
  else
  x1_payOut_j16 p b0 b0 g
def x3_payForNight_l2 (a0 : Nat) (s0 : Int32) (g : AH) : Option (((Int32) ⊕ (Unit)) × AH) :=
  gb (getI 3 g a0 12) fun x1 => if x1 ≤ s0 then
  some (.inr (), g)
  else
  gb (getI 3 g a0 4) fun x4 => gb (getR 3 g a0 18) fun x6 => gb (aldR 4 g x6 s0) fun x8 => gb (isO 1 g x8) fun _ => cb (x1_payOut x8 3 g) fun r10 g11 => gb (putV 3 g11 a0 4 (.int (x4 + r10))) fun g15 => some (.inl (s0 + 1), g15)
def x3_payForNight (p : Nat) (g : AH) : Option (Unit × AH) :=
  cb (loopX (x3_payForNight_l2 p) 1000 0 g) fun t1 g2 =>
  some ((), g2)
def x3_partOfLogs_j32 (a0 : Nat) (a2 : Int32) (s0 : Int32) (g : AH) : Option (Int32 × AH) :=
  gb (getI 3 g a0 12) fun x1 => if x1 = 0 then none else some (((a2 / x1) + s0), g)
def x3_partOfLogs (p : Nat) (b0 : Int32) (g : AH) : Option (Int32 × AH) :=
  gb (getI 3 g p 12) fun x1 => if 1 ≤ x1 then
  gb (getI 3 g p 6) fun x4 => gb (getI 3 g p 12) fun x6 => if x6 = 0 then none else if ((2 * x4) - (2 * x4) / x6 * x6) ≤ b0 then
  x3_partOfLogs_j32 p (2 * x4) 0 g
  else
  x3_partOfLogs_j32 p (2 * x4) 1 g
  else
  some (0, g)
def x3_payForLogs_l2 (a0 : Nat) (s0 : Int32) (g : AH) : Option (((Int32) ⊕ (Unit)) × AH) :=
  gb (getI 3 g a0 12) fun x1 => if x1 ≤ s0 then
  some (.inr (), g)
  else
  gb (getI 3 g a0 4) fun x4 => gb (getR 3 g a0 18) fun x6 => gb (aldR 4 g x6 s0) fun x8 => gb (isO 3 g a0) fun _ => cb (x3_partOfLogs a0 s0 g) fun r10 g11 => gb (isO 1 g11 x8) fun _ => cb (x1_payOut x8 r10 g11) fun r15 g16 => gb (putV 3 g16 a0 4 (.int (x4 + r15))) fun g20 => some (.inl (s0 + 1), g20)
def x3_payForLogs (p : Nat) (g : AH) : Option (Unit × AH) :=
  cb (loopX (x3_payForLogs_l2 p) 1000 0 g) fun t1 g2 =>
  gb (putV 3 g2 p 6 (.int 0)) fun g4 => some ((), g4)
def x1_feeForBlanket (p : Nat) (g : AH) : Option (Int32 × AH) :=
  gb (getI 1 g p 6) fun x1 => some (((x1 + 2) / 3), g)
def x3_payForBlankets_l4 (a0 : Nat) (s0 : Int32 × Int32) (g : AH) : Option (((Int32 × Int32) ⊕ (Int32)) × AH) :=
  gb (getI 3 g a0 12) fun x1 => if x1 ≤ s0.2 then
  some (.inr s0.1, g)
  else
  gb (getR 3 g a0 18) fun x4 => gb (aldR 4 g x4 s0.2) fun x6 => gb (getR 3 g a0 18) fun x8 => gb (aldR 4 g x8 s0.2) fun x10 => gb (isO 1 g x10) fun _ => cb (x1_feeForBlanket x10 g) fun r12 g13 => gb (isO 1 g13 x6) fun _ => cb (x1_payOut x6 r12 g13) fun r17 g18 => some (.inl ((s0.1 + r17), (s0.2 + 1)), g18)
def x3_payForBlankets_j99_60 (a0 : Nat) (a1 : Int32) (a2 : Int32) (a3 : Int32) (a4 : Int32) (g : AH) : Option (((Int32) ⊕ (Unit)) × AH) :=
  some (.inl (a4 + 1), g)
def x3_payForBlankets_l60 (a0 : Nat) (a1 : Int32) (a2 : Int32) (a3 : Int32) (s0 : Int32) (g : AH) : Option (((Int32) ⊕ (Unit)) × AH) :=
  gb (getI 3 g a0 12) fun x1 => if x1 ≤ s0 then
  some (.inr (), g)
  else
  gb (getR 3 g a0 18) fun x4 => gb (aldR 4 g x4 s0) fun x6 => gb (getI 1 g x6 5) fun x8 => if x8 = (-1) then
  gb (getR 3 g a0 18) fun x11 => gb (aldR 4 g x11 s0) fun x13 => gb (getI 1 g x13 2) fun x15 => gb (putV 1 g x13 2 (.int (x15 + a3))) fun g17 => x3_payForBlankets_j99_60 a0 a1 a2 a3 s0 g17
  else
  x3_payForBlankets_j99_60 a0 a1 a2 a3 s0 g
def x3_payForBlankets_j56 (a0 : Nat) (a1 : Int32) (a2 : Int32) (s0 : Int32) (g : AH) : Option (Unit × AH) :=
  cb (loopX (x3_payForBlankets_l60 a0 a1 a2 s0) 1000 0 g) fun t1 g2 =>
  gb (getI 3 g2 a0 4) fun x4 => gb (putV 3 g2 a0 4 (.int (x4 + (a1 - (s0 * a2))))) fun g6 => some ((), g6)
def x3_payForBlankets (p : Nat) (g : AH) : Option (Unit × AH) :=
  cb (loopX (x3_payForBlankets_l4 p) 1000 (0, 0) g) fun t1 g2 =>
  gb (isO 3 g2 p) fun _ => cb (x3_hikersWithoutBlanket p g2) fun r4 g5 => if 1 ≤ r4 then
  if r4 = 0 then none else x3_payForBlankets_j56 p t1 r4 (t1 / r4) g5
  else
  x3_payForBlankets_j56 p t1 r4 0 g5
def x3_endHour (p : Nat) (g : AH) : Option (Unit × AH) :=
  gb (getI 3 g p 0) fun x1 => gb (putV 3 g p 0 (.int (x1 + 1))) fun g3 => gb (getI 3 g3 p 0) fun x5 => if (x5 - x5 / 8 * 8) = 0 then
  gb (isO 3 g3 p) fun _ => cb (x3_payForNight p g3) fun r9 g10 => gb (isO 3 g10 p) fun _ => cb (x3_payForLogs p g10) fun r14 g15 => gb (isO 3 g15 p) fun _ => cb (x3_payForBlankets p g15) fun r19 g20 => some ((), g20)
  else
  some ((), g3)
def x3_passTime_l7 (a0 : Nat) (a1 : Int32) (a2 : Int32) (s0 : Int32) (g : AH) : Option (((Int32) ⊕ (Unit)) × AH) :=
  if a1 ≤ s0 then
  some (.inr (), g)
  else
  gb (isO 3 g a0) fun _ => cb (x3_burnLogs a0 g) fun r2 g3 => gb (isO 3 g3 a0) fun _ => cb (x3_measure a0 g3) fun r7 g8 => gb (isO 3 g8 a0) fun _ => cb (x3_noteWhatHappens a0 g8) fun r12 g13 => gb (isO 3 g13 a0) fun _ => cb (x3_endHour a0 g13) fun r17 g18 => some (.inl (s0 + 1), g18)
def x3_passTime (p : Nat) (b0 : Int32) (g : AH) : Option (Int32 × AH) :=
  gb (getI 3 g p 4) fun x1 => cb (loopX (x3_passTime_l7 p b0 x1) 1000 0 g) fun t3 g4 =>
  gb (isO 3 g4 p) fun _ => cb (x3_measure p g4) fun r6 g7 => gb (getI 3 g7 p 4) fun x11 => some ((x11 - x1), g7)
def x3_perform (p : Nat) (b0 : Int32) (b1 : Int32) (b2 : Int32) (g : AH) : Option (Int32 × AH) :=
  if b0 = 0 then
  gb (isO 3 g p) fun _ => cb (x3_giveBlanket p b1 b2 g) fun r2 g3 => gb (getR 3 g3 p 18) fun x7 => gb (aldR 4 g3 x7 b1) fun x9 => gb (getI 1 g3 x9 7) fun x11 => some (x11, g3)
  else if b0 = 1 then
  gb (isO 3 g p) fun _ => cb (x3_giveBlanket p b1 (-1) g) fun r14 g15 => some (r14, g15)
  else if b0 = 2 then
  gb (isO 3 g p) fun _ => cb (x3_exchangeBlankets p b1 b2 g) fun r20 g21 => gb (isO 3 g21 p) fun _ => cb (x3_coldCount p g21) fun r25 g26 => some (r25, g26)
  else if b0 = 3 then
  gb (isO 3 g p) fun _ => cb (x3_moveTo p b1 b2 g) fun r31 g32 => gb (isO 3 g32 p) fun _ => cb (x3_noiseAt p b2 g32) fun r36 g37 => some (r36, g37)
  else if b0 = 4 then
  gb (isO 3 g p) fun _ => cb (x3_moveTo p b1 (-1) g) fun r42 g43 => some (r42, g43)
  else if b0 = 5 then
  gb (isO 3 g p) fun _ => cb (x3_changeRate p b1 g) fun r48 g49 => some (r48, g49)
  else if b0 = 6 then
  gb (isO 3 g p) fun _ => cb (x3_addLogs p b1 g) fun r54 g55 => some (r54, g55)
  else if b0 = 7 then
  gb (isO 3 g p) fun _ => cb (x3_payBack p b1 b2 g) fun r60 g61 => some (r60, g61)
  else gb (isO 3 g p) fun _ => cb (x3_passTime p b1 g) fun r65 g66 => some (r65, g66)
def x8_act (p : Nat) (b0 : Int32) (b1 : Int32) (b2 : Int32) (g : AH) : Option ((Int32 ⊕ String) × AH) :=
  gb (getR 8 g p 0) fun x1 => gb (isO 3 g x1) fun _ => cb (x3_faultOf x1 b0 b1 b2 g) fun r3 g4 => cb (x8_refuse r3 g4) fun r8 g9 => Sum.elim (fun v11 =>
  gb (getR 8 g9 p 3) fun x13 => gb (getR 8 g9 p 0) fun x15 => gb (isO 2 g9 x13) fun _ => cb (x2_keep x13 x15 g9) fun r17 g18 => gb (getR 8 g18 p 0) fun x22 => gb (isO 3 g18 x22) fun _ => cb (x3_perform x22 b0 b1 b2 g18) fun r24 g25 => some (.inl r24, g25)) (fun w12 => some (.inr w12, g9)) r8
def x8_takeBlanket (p : Nat) (b0 : Int32) (b1 : Int32) (g : AH) : Option ((Int32 ⊕ String) × AH) :=
  gb (isO 8 g p) fun _ => cb (x8_act p 0 b0 b1 g) fun r1 g2 => Sum.elim (fun v6 =>
  some (.inl v6, g2)) (fun w7 => some (.inr w7, g2)) r1
def x8_returnBlanket (p : Nat) (b0 : Int32) (g : AH) : Option ((Int32 ⊕ String) × AH) :=
  gb (isO 8 g p) fun _ => cb (x8_act p 1 b0 0 g) fun r1 g2 => Sum.elim (fun v6 =>
  some (.inl v6, g2)) (fun w7 => some (.inr w7, g2)) r1
def x8_swapBlankets (p : Nat) (b0 : Int32) (b1 : Int32) (g : AH) : Option ((Int32 ⊕ String) × AH) :=
  gb (isO 8 g p) fun _ => cb (x8_act p 2 b0 b1 g) fun r1 g2 => Sum.elim (fun v6 =>
  some (.inl v6, g2)) (fun w7 => some (.inr w7, g2)) r1
def x8_lieDown (p : Nat) (b0 : Int32) (b1 : Int32) (g : AH) : Option ((Int32 ⊕ String) × AH) :=
  gb (isO 8 g p) fun _ => cb (x8_act p 3 b0 b1 g) fun r1 g2 => Sum.elim (fun v6 =>
  some (.inl v6, g2)) (fun w7 => some (.inr w7, g2)) r1
def x8_getUp (p : Nat) (b0 : Int32) (g : AH) : Option ((Int32 ⊕ String) × AH) :=
  gb (isO 8 g p) fun _ => cb (x8_act p 4 b0 0 g) fun r1 g2 => Sum.elim (fun v6 =>
  some (.inl v6, g2)) (fun w7 => some (.inr w7, g2)) r1
def x8_setRate (p : Nat) (b0 : Int32) (g : AH) : Option ((Int32 ⊕ String) × AH) :=
  gb (isO 8 g p) fun _ => cb (x8_act p 5 b0 0 g) fun r1 g2 => Sum.elim (fun v6 =>
  some (.inl v6, g2)) (fun w7 => some (.inr w7, g2)) r1
def x8_fetchLogs (p : Nat) (b0 : Int32) (g : AH) : Option ((Int32 ⊕ String) × AH) :=
  gb (isO 8 g p) fun _ => cb (x8_act p 6 b0 0 g) fun r1 g2 => Sum.elim (fun v6 =>
  some (.inl v6, g2)) (fun w7 => some (.inr w7, g2)) r1
def x8_payDebt (p : Nat) (b0 : Int32) (b1 : Int32) (g : AH) : Option ((Int32 ⊕ String) × AH) :=
  gb (isO 8 g p) fun _ => cb (x8_act p 7 b0 b1 g) fun r1 g2 => Sum.elim (fun v6 =>
  some (.inl v6, g2)) (fun w7 => some (.inr w7, g2)) r1
def x8_passHours (p : Nat) (b0 : Int32) (g : AH) : Option ((Int32 ⊕ String) × AH) :=
  gb (isO 8 g p) fun _ => cb (x8_act p 8 b0 0 g) fun r1 g2 => Sum.elim (fun v6 =>
  some (.inl v6, g2)) (fun w7 => some (.inr w7, g2)) r1
def x1_init (p : Nat) (g : AH) : Option (Unit × AH) :=
  gb (putV 1 g p 4 (.int (-1))) fun g1 => gb (putV 1 g1 p 5 (.int (-1))) fun g3 => cb (newA 0 (.inl (fun _ => 0)) g3 4) fun x5 g6 => gb (putV 1 g6 p 8 (.ref x5)) fun g8 => some ((), g8)
def x3_init_l55 (a0 : Nat) (s0 : Int32) (g : AH) : Option (((Int32) ⊕ (Unit)) × AH) :=
  gb (getR 3 g a0 18) fun x1 => gb (alen 4 g x1) fun x3 => if x3 ≤ s0 then
  some (.inr (), g)
  else
  gb (getR 3 g a0 18) fun x6 => cb (newO 1 tyX1 g) fun x8 g9 => cb (x1_init x8 g9) fun r11 g12 => gb (astR 4 1 g12 x6 s0 x8) fun g14 => some (.inl (s0 + 1), g14)
def x3_init_l85 (a0 : Nat) (s0 : Int32) (g : AH) : Option (((Int32) ⊕ (Unit)) × AH) :=
  gb (getR 3 g a0 16) fun x1 => gb (alen 0 g x1) fun x3 => if x3 ≤ s0 then
  some (.inr (), g)
  else
  gb (getR 3 g a0 16) fun x6 => gb (astI 0 g x6 s0 (-1)) fun g8 => some (.inl (s0 + 1), g8)
def x3_init (p : Nat) (g : AH) : Option (Unit × AH) :=
  cb (newA 0 (.inl (fun _ => 0)) g 12) fun x1 g2 => gb (putV 3 g2 p 13 (.ref x1)) fun g4 => cb (newA 0 (.inl (fun _ => 0)) g4 12) fun x6 g7 => gb (putV 3 g7 p 14 (.ref x6)) fun g9 => cb (newA 0 (.inl (fun _ => 0)) g9 12) fun x11 g12 => gb (putV 3 g12 p 15 (.ref x11)) fun g14 => cb (newA 0 (.inl (fun _ => 0)) g14 16) fun x16 g17 => gb (putV 3 g17 p 16 (.ref x16)) fun g19 => cb (newA 0 (.inl (fun _ => 0)) g19 16) fun x21 g22 => gb (putV 3 g22 p 17 (.ref x21)) fun g24 => cb (newA 4 (.inr (.inr (fun _ => none))) g24 10) fun x26 g27 => gb (putV 3 g27 p 18 (.ref x26)) fun g29 => cb (loopX (x3_init_l55 p) 11 0 g29) fun t31 g32 =>
  cb (loopX (x3_init_l85 p) 1000 0 g32) fun t34 g35 =>
  some ((), g35)
def x5_init (p : Nat) (g : AH) : Option (Unit × AH) :=
  cb (newO 3 tyX3 g) fun x1 g2 => cb (x3_init x1 g2) fun r4 g5 => gb (putV 5 g5 p 0 (.ref x1)) fun g7 => some ((), g7)
def x8_newHuts_l15 (a1 : Nat) (s0 : Int32) (g : AH) : Option (((Int32) ⊕ (Unit)) × AH) :=
  gb (alen 5 g a1) fun x1 => if x1 ≤ s0 then
  some (.inr (), g)
  else
  cb (newO 3 tyX3 g) fun x4 g5 => cb (x3_init x4 g5) fun r7 g8 => gb (astR 5 3 g8 a1 s0 x4) fun g10 => some (.inl (s0 + 1), g10)
def x8_newHuts_j9 (s0 : Int32) (g : AH) : Option (Nat × AH) :=
  if 6 < (s0).toNatClampNeg then none else cb (newA 5 (.inr (.inr (fun _ => none))) g s0) fun x1 g2 => cb (loopX (x8_newHuts_l15 x1) 7 0 g2) fun t5 g6 =>
  some (x1, g6)
def x8_newHuts (b0 : Int32) (g : AH) : Option (Nat × AH) :=
  if 0 ≤ b0 then
  x8_newHuts_j9 b0 g
  else
  x8_newHuts_j9 0 g
def x2_init (p : Nat) (g : AH) : Option (Unit × AH) :=
  cb (x8_newHuts 6 g) fun r1 g2 => gb (putV 2 g2 p 0 (.ref r1)) fun g4 => some ((), g4)
def x7_init (p : Nat) (g : AH) : Option (Unit × AH) :=
  cb (newA 0 (.inl (fun _ => 0)) g 500) fun x1 g2 => gb (putV 7 g2 p 0 (.ref x1)) fun g4 => some ((), g4)
def x0_init (p : Nat) (g : AH) : Option (Unit × AH) :=
  cb (newO 7 tyX7 g) fun x1 g2 => cb (x7_init x1 g2) fun r4 g5 => gb (putV 0 g5 p 0 (.ref x1)) fun g7 => gb (putV 0 g7 p 1 (.int 0)) fun g9 => gb (putV 0 g9 p 2 (.int (-1))) fun g11 => some ((), g11)
def x6_init (p : Nat) (g : AH) : Option (Unit × AH) :=
  cb (newA 0 (.inl (fun _ => 0)) g 30) fun x1 g2 => gb (putV 6 g2 p 0 (.ref x1)) fun g4 => cb (newA 0 (.inl (fun _ => 0)) g4 30) fun x6 g7 => gb (putV 6 g7 p 1 (.ref x6)) fun g9 => cb (newA 0 (.inl (fun _ => 0)) g9 30) fun x11 g12 => gb (putV 6 g12 p 2 (.ref x11)) fun g14 => some ((), g14)
def x4_init (p : Nat) (g : AH) : Option (Unit × AH) :=
  cb (newA 0 (.inl (fun _ => 0)) g 400) fun x1 g2 => gb (putV 4 g2 p 0 (.ref x1)) fun g4 => some ((), g4)
def x7_putAll_l2 (a0 : Nat) (a1 : Nat) (s0 : Int32) (g : AH) : Option (((Int32) ⊕ (Unit)) × AH) :=
  gb (strLen a1) fun x1 => if x1 ≤ s0 then
  some (.inr (), g)
  else
  gb (strAt a1 s0) fun x4 => gb (isO 7 g a0) fun _ => cb (x7_put a0 x4 g) fun r6 g7 => some (.inl (s0 + 1), g7)
def x7_putAll (p : Nat) (b0 : Nat) (g : AH) : Option (Unit × AH) :=
  cb (loopX (x7_putAll_l2 p b0) 1000 0 g) fun t1 g2 =>
  some ((), g2)
def x8_init (p : Nat) (g : AH) : Option (Unit × AH) :=
  cb (newO 3 tyX3 g) fun x1 g2 => cb (x3_init x1 g2) fun r4 g5 => gb (putV 8 g5 p 0 (.ref x1)) fun g7 => cb (newO 3 tyX3 g7) fun x9 g10 => cb (x3_init x9 g10) fun r12 g13 => gb (putV 8 g13 p 1 (.ref x9)) fun g15 => cb (newO 5 tyX5 g15) fun x17 g18 => cb (x5_init x17 g18) fun r20 g21 => gb (putV 8 g21 p 2 (.ref x17)) fun g23 => cb (newO 2 tyX2 g23) fun x25 g26 => cb (x2_init x25 g26) fun r28 g29 => gb (putV 8 g29 p 3 (.ref x25)) fun g31 => cb (x8_newHuts 2 g31) fun r33 g34 => gb (putV 8 g34 p 4 (.ref r33)) fun g36 => cb (newA 2 (.inl (fun _ => 0)) g36 2) fun x38 g39 => gb (putV 8 g39 p 5 (.ref x38)) fun g41 => cb (newO 0 tyX0 g41) fun x43 g44 => cb (x0_init x43 g44) fun r46 g47 => gb (putV 8 g47 p 6 (.ref x43)) fun g49 => cb (newO 6 tyX6 g49) fun x51 g52 => cb (x6_init x51 g52) fun r54 g55 => gb (putV 8 g55 p 7 (.ref x51)) fun g57 => cb (newO 4 tyX4 g57) fun x59 g60 => cb (x4_init x59 g60) fun r62 g63 => gb (putV 8 g63 p 8 (.ref x59)) fun g65 => gb (getR 8 g65 p 6) fun x67 => gb (getR 0 g65 x67 0) fun x69 => gb (isO 7 g65 x69) fun _ => cb (x7_putAll x69 0 g65) fun r71 g72 => gb (getR 8 g72 p 6) fun x76 => gb (getR 8 g72 p 0) fun x78 => gb (isO 0 g72 x76) fun _ => cb (x0_readSetup x76 x78 g72) fun r80 g81 => gb (getR 8 g81 p 6) fun x85 => gb (getR 0 g81 x85 0) fun x87 => gb (putV 7 g81 x87 1 (.int 0)) fun g89 => some ((), g89)
set_option maxHeartbeats 4000000 in
set_option maxRecDepth 100000 in
theorem t_x8_refuse_b {l : Launch} {G : GG} {M : MC} (X : CX M G cX8_refuse 1 RX8 ⟨7, 3, 18, 200⟩) (hl0 : M.2.1 = l) (hr : (mM M).sig.returnType = none) (hnm : (mM M).name = yX8_refuse.name) (hnt : ∀ x ∈ (mC M).exceptionTable.toList, False) (hst : l.stackTraces = false) {b0 : Int32} {g : AH} {o : (Unit ⊕ String)} {g1 : AH} (E : x8_refuse b0 g = some (o, g1)) : WW M G 1 (RX M G (ovU o) g1 3 18) 0 0 g 0 [(0, .int b0)] [] := by
  unfold x8_refuse at E
  refine r_iload_n X 0 dX8_refuse_0 rfl rfl ?_
  refine r_iconst X (v := 1) dX8_refuse_1 (by decide) ?_
  refine r_icmp_ne X 16 dX8_refuse_2 (by decide) (fun c1 => ?_) (fun c1 => ?_)
  · rw [if_neg c1] at E
    refine r_iload_n X 0 dX8_refuse_16 rfl rfl ?_
    refine r_iconst X (v := 2) dX8_refuse_17 (by decide) ?_
    refine r_icmp_ne X 32 dX8_refuse_18 (by decide) (fun c2 => ?_) (fun c2 => ?_)
    · rw [if_neg c2] at E
      refine r_iload_n X 0 dX8_refuse_32 rfl rfl ?_
      refine r_iconst X (v := 3) dX8_refuse_33 (by decide) ?_
      refine r_icmp_ne X 48 dX8_refuse_34 (by decide) (fun c3 => ?_) (fun c3 => ?_)
      · rw [if_neg c3] at E
        cases E
        exact r_ret (r_vret X hr dX8_refuse_48 (by decide) (by decide))
      · rw [if_pos c3] at E
        cases E
        exact r_throwW X hl0 hst hnt th_X8_94 k_X8_90 (List.mem_of_getElem? (i := 10) rfl) dX8_refuse_37 dX8_refuse_40 dX8_refuse_41 dX8_refuse_44 dX8_refuse_47 ⟨by decide, Nat.le_of_ble_eq_true rfl⟩ (by decide) (by decide)
    · rw [if_pos c2] at E
      cases E
      exact r_throwW X hl0 hst hnt th_X8_108 k_X8_104 (List.mem_of_getElem? (i := 9) rfl) dX8_refuse_21 dX8_refuse_24 dX8_refuse_25 dX8_refuse_28 dX8_refuse_31 ⟨by decide, Nat.le_of_ble_eq_true rfl⟩ (by decide) (by decide)
  · rw [if_pos c1] at E
    cases E
    exact r_throwW X hl0 hst hnt th_X8_195 k_X8_191 (List.mem_of_getElem? (i := 8) rfl) dX8_refuse_5 dX8_refuse_8 dX8_refuse_9 dX8_refuse_12 dX8_refuse_15 ⟨by decide, Nat.le_of_ble_eq_true rfl⟩ (by decide) (by decide)
theorem t_x8_refuse {l : Launch} (hst : l.stackTraces = false) {G : GG} {b0 : Int32} {g : AH} {o : (Unit ⊕ String)} {g1 : AH} (E : x8_refuse b0 g = some (o, g1)) : CtX l G yX8_refuse cX8_refuse 1 none ⟨7, 3, 18, 200⟩ [.int b0] g (ovU o) g1 :=
  ctX_of (L0 := [(0, .int b0)]) y_X8_refuse rfl (Nat.le_of_ble_eq_true rfl) fun M hl0 X hr hnm hnt => t_x8_refuse_b X hl0 hr hnm hnt hst E
set_option maxHeartbeats 4000000 in
set_option maxRecDepth 100000 in
theorem t_x2_keep_b {l : Launch} {G : GG} {M : MC} (X : CX M G cX2_keep 2 RX2 ⟨5, 0, 0, 193⟩) (hl0 : M.2.1 = l) (hr : (mM M).sig.returnType = none) (hnm : (mM M).name = yX2_keep.name) {p : Nat} {b0 : Nat} {g : AH} {r : Unit} {g1 : AH} (E : x2_keep p b0 g = some (r, g1)) : WW M G 2 (RQ M G none g1 0 0) 0 0 g 0 [(0, .ref p), (1, .ref b0)] [] := by
  unfold x2_keep at E
  refine r_aload_n X 0 dX2_keep_0 rfl rfl ?_
  obtain ⟨x1, e2, E⟩ := gb_some E
  refine r_getR X dX2_keep_1 f_X2_13 e2 ?_
  refine r_aload_n X 0 dX2_keep_4 rfl rfl ?_
  obtain ⟨x3, e4, E⟩ := gb_some E
  refine r_getI X dX2_keep_5 f_X2_19 e4 ?_
  obtain ⟨x5, e6, E⟩ := gb_some E
  refine r_aald X 5 (by decide) rfl dX2_keep_8 e6 ?_
  refine r_aload_n X 1 dX2_keep_9 rfl rfl ?_
  obtain ⟨u10, e11, E⟩ := gb_some E
  obtain ⟨r7, g8, e9, E⟩ := cb_some E
  refine r_callV0 X hl0 (ci := 3) dX2_keep_10 y_X3_copyFrom m_X2_23 rfl rfl e11 (t_x3_copyFrom (l := l) (G := G) e9) rfl rfl (Nat.le_of_ble_eq_true rfl) (by decide) ?_
  refine r_aload_n X 0 dX2_keep_13 rfl rfl ?_
  refine r_aload_n X 0 dX2_keep_14 rfl rfl ?_
  obtain ⟨x12, e13, E⟩ := gb_some E
  refine r_getI X dX2_keep_15 f_X2_19 e13 ?_
  refine r_iconst X (v := 1) dX2_keep_18 (by decide) ?_
  refine r_iadd X dX2_keep_19 ?_
  refine r_bipush X (v := 6) dX2_keep_20 (by decide) ?_
  refine r_irem X dX2_keep_22 (by decide) ?_
  obtain ⟨g15, e16, E⟩ := gb_some E
  refine r_put X dX2_keep_23 f_X2_19 rfl rfl e16 ?_
  refine r_aload_n X 0 dX2_keep_26 rfl rfl ?_
  refine r_aload_n X 0 dX2_keep_27 rfl rfl ?_
  obtain ⟨x17, e18, E⟩ := gb_some E
  refine r_getI X dX2_keep_28 f_X2_29 e18 ?_
  refine r_iconst X (v := 1) dX2_keep_31 (by decide) ?_
  refine r_iadd X dX2_keep_32 ?_
  refine r_bipush X (v := 6) dX2_keep_33 (by decide) ?_
  refine r_min X dX2_keep_35 m_X2_32m (by decide) (Nat.le_of_ble_eq_true rfl) ?_
  obtain ⟨g19, e20, E⟩ := gb_some E
  refine r_put X dX2_keep_38 f_X2_29 rfl rfl e20 ?_
  cases E
  exact r_vret X hr dX2_keep_41 (by decide) (by decide)
theorem t_x2_keep {l : Launch} {G : GG} {p : Nat} {b0 : Nat} {g : AH} {r : Unit} {g1 : AH} (E : x2_keep p b0 g = some (r, g1)) : Ct l G yX2_keep cX2_keep 2 none ⟨5, 0, 0, 193⟩ [.ref p, .ref b0] g none g1 :=
  ct_of (L0 := [(0, .ref p), (1, .ref b0)]) y_X2_keep rfl (Nat.le_of_ble_eq_true rfl) fun M hl0 X hr hnm => t_x2_keep_b X hl0 hr hnm E
set_option maxHeartbeats 4000000 in
set_option maxRecDepth 100000 in
theorem t_x3_giveBlanket_b {l : Launch} {G : GG} {M : MC} (X : CX M G cX3_giveBlanket 4 RX3 ⟨4, 0, 0, 128⟩) (hl0 : M.2.1 = l) (hr : (mM M).sig.returnType = (some .int)) (hnm : (mM M).name = yX3_giveBlanket.name) {p : Nat} {b0 : Int32} {b1 : Int32} {g : AH} {r : Int32} {g1 : AH} (E : x3_giveBlanket p b0 b1 g = some (r, g1)) : WW M G 4 (RQ M G (some (.int r)) g1 0 0) 0 0 g 0 [(0, .ref p), (1, .int b0), (2, .int b1)] [] := by
  unfold x3_giveBlanket at E
  refine r_aload_n X 0 dX3_giveBlanket_0 rfl rfl ?_
  obtain ⟨x1, e2, E⟩ := gb_some E
  refine r_getR X dX3_giveBlanket_1 f_X3_29 e2 ?_
  refine r_iload_n X 1 dX3_giveBlanket_4 rfl rfl ?_
  obtain ⟨x3, e4, E⟩ := gb_some E
  refine r_aald X 4 (by decide) rfl dX3_giveBlanket_5 e4 ?_
  obtain ⟨x5, e6, E⟩ := gb_some E
  refine r_getI X dX3_giveBlanket_6 f_X3_94 e6 ?_
  refine r_istore_n X 3 (L1 := [(3, .int x5), (0, .ref p), (1, .int b0), (2, .int b1)]) dX3_giveBlanket_9 rfl (by decide) rfl ?_
  refine r_aload_n X 0 dX3_giveBlanket_10 rfl rfl ?_
  obtain ⟨x7, e8, E⟩ := gb_some E
  refine r_getR X dX3_giveBlanket_11 f_X3_29 e8 ?_
  refine r_iload_n X 1 dX3_giveBlanket_14 rfl rfl ?_
  obtain ⟨x9, e10, E⟩ := gb_some E
  refine r_aald X 4 (by decide) rfl dX3_giveBlanket_15 e10 ?_
  refine r_iload_n X 2 dX3_giveBlanket_16 rfl rfl ?_
  obtain ⟨g11, e12, E⟩ := gb_some E
  refine r_put X dX3_giveBlanket_17 f_X3_94 rfl rfl e12 ?_
  refine r_aload_n X 0 dX3_giveBlanket_20 rfl rfl ?_
  obtain ⟨u16, e17, E⟩ := gb_some E
  obtain ⟨r13, g14, e15, E⟩ := cb_some E
  refine r_callV0 X hl0 (ci := 3) dX3_giveBlanket_21 y_X3_measure m_X3_48 rfl rfl e17 (t_x3_measure (l := l) (G := G) e15) rfl rfl (Nat.le_of_ble_eq_true rfl) (by decide) ?_
  refine r_iload_n X 3 dX3_giveBlanket_24 rfl rfl ?_
  cases E
  exact r_iret X hr dX3_giveBlanket_25 (by decide) (by decide)
theorem t_x3_giveBlanket {l : Launch} {G : GG} {p : Nat} {b0 : Int32} {b1 : Int32} {g : AH} {r : Int32} {g1 : AH} (E : x3_giveBlanket p b0 b1 g = some (r, g1)) : Ct l G yX3_giveBlanket cX3_giveBlanket 4 (some .int) ⟨4, 0, 0, 128⟩ [.ref p, .int b0, .int b1] g (some (.int r)) g1 :=
  ct_of (L0 := [(0, .ref p), (1, .int b0), (2, .int b1)]) y_X3_giveBlanket rfl (Nat.le_of_ble_eq_true rfl) fun M hl0 X hr hnm => t_x3_giveBlanket_b X hl0 hr hnm E
set_option maxHeartbeats 4000000 in
set_option maxRecDepth 100000 in
theorem t_x3_exchangeBlankets_b {l : Launch} {G : GG} {M : MC} (X : CX M G cX3_exchangeBlankets 4 RX3 ⟨4, 0, 0, 128⟩) (hl0 : M.2.1 = l) (hr : (mM M).sig.returnType = none) (hnm : (mM M).name = yX3_exchangeBlankets.name) {p : Nat} {b0 : Int32} {b1 : Int32} {g : AH} {r : Unit} {g1 : AH} (E : x3_exchangeBlankets p b0 b1 g = some (r, g1)) : WW M G 4 (RQ M G none g1 0 0) 0 0 g 0 [(0, .ref p), (1, .int b0), (2, .int b1)] [] := by
  unfold x3_exchangeBlankets at E
  refine r_aload_n X 0 dX3_exchangeBlankets_0 rfl rfl ?_
  obtain ⟨x1, e2, E⟩ := gb_some E
  refine r_getR X dX3_exchangeBlankets_1 f_X3_29 e2 ?_
  refine r_iload_n X 1 dX3_exchangeBlankets_4 rfl rfl ?_
  obtain ⟨x3, e4, E⟩ := gb_some E
  refine r_aald X 4 (by decide) rfl dX3_exchangeBlankets_5 e4 ?_
  obtain ⟨x5, e6, E⟩ := gb_some E
  refine r_getI X dX3_exchangeBlankets_6 f_X3_94 e6 ?_
  refine r_istore_n X 3 (L1 := [(3, .int x5), (0, .ref p), (1, .int b0), (2, .int b1)]) dX3_exchangeBlankets_9 rfl (by decide) rfl ?_
  refine r_aload_n X 0 dX3_exchangeBlankets_10 rfl rfl ?_
  obtain ⟨x7, e8, E⟩ := gb_some E
  refine r_getR X dX3_exchangeBlankets_11 f_X3_29 e8 ?_
  refine r_iload_n X 1 dX3_exchangeBlankets_14 rfl rfl ?_
  obtain ⟨x9, e10, E⟩ := gb_some E
  refine r_aald X 4 (by decide) rfl dX3_exchangeBlankets_15 e10 ?_
  refine r_aload_n X 0 dX3_exchangeBlankets_16 rfl rfl ?_
  obtain ⟨x11, e12, E⟩ := gb_some E
  refine r_getR X dX3_exchangeBlankets_17 f_X3_29 e12 ?_
  refine r_iload_n X 2 dX3_exchangeBlankets_20 rfl rfl ?_
  obtain ⟨x13, e14, E⟩ := gb_some E
  refine r_aald X 4 (by decide) rfl dX3_exchangeBlankets_21 e14 ?_
  obtain ⟨x15, e16, E⟩ := gb_some E
  refine r_getI X dX3_exchangeBlankets_22 f_X3_94 e16 ?_
  obtain ⟨g17, e18, E⟩ := gb_some E
  refine r_put X dX3_exchangeBlankets_25 f_X3_94 rfl rfl e18 ?_
  refine r_aload_n X 0 dX3_exchangeBlankets_28 rfl rfl ?_
  obtain ⟨x19, e20, E⟩ := gb_some E
  refine r_getR X dX3_exchangeBlankets_29 f_X3_29 e20 ?_
  refine r_iload_n X 2 dX3_exchangeBlankets_32 rfl rfl ?_
  obtain ⟨x21, e22, E⟩ := gb_some E
  refine r_aald X 4 (by decide) rfl dX3_exchangeBlankets_33 e22 ?_
  refine r_iload_n X 3 dX3_exchangeBlankets_34 rfl rfl ?_
  obtain ⟨g23, e24, E⟩ := gb_some E
  refine r_put X dX3_exchangeBlankets_35 f_X3_94 rfl rfl e24 ?_
  refine r_aload_n X 0 dX3_exchangeBlankets_38 rfl rfl ?_
  obtain ⟨u28, e29, E⟩ := gb_some E
  obtain ⟨r25, g26, e27, E⟩ := cb_some E
  refine r_callV0 X hl0 (ci := 3) dX3_exchangeBlankets_39 y_X3_measure m_X3_48 rfl rfl e29 (t_x3_measure (l := l) (G := G) e27) rfl rfl (Nat.le_of_ble_eq_true rfl) (by decide) ?_
  cases E
  exact r_vret X hr dX3_exchangeBlankets_42 (by decide) (by decide)
theorem t_x3_exchangeBlankets {l : Launch} {G : GG} {p : Nat} {b0 : Int32} {b1 : Int32} {g : AH} {r : Unit} {g1 : AH} (E : x3_exchangeBlankets p b0 b1 g = some (r, g1)) : Ct l G yX3_exchangeBlankets cX3_exchangeBlankets 4 none ⟨4, 0, 0, 128⟩ [.ref p, .int b0, .int b1] g none g1 :=
  ct_of (L0 := [(0, .ref p), (1, .int b0), (2, .int b1)]) y_X3_exchangeBlankets rfl (Nat.le_of_ble_eq_true rfl) fun M hl0 X hr hnm => t_x3_exchangeBlankets_b X hl0 hr hnm E
set_option maxHeartbeats 4000000 in
set_option maxRecDepth 100000 in
theorem t_x3_moveTo_j44 {l : Launch} {G : GG} {M : MC} (X : CX M G cX3_moveTo 4 RX3 ⟨4, 0, 0, 128⟩) (hl0 : M.2.1 = l) (hr : (mM M).sig.returnType = (some .int)) (hnm : (mM M).name = yX3_moveTo.name) {a0 : Nat} {a1 : Int32} {a2 : Int32} {a3 : Int32} {g : AH} {r : Int32} {g1 : AH} (E : x3_moveTo_j44 a0 a1 a2 a3 g = some (r, g1)) : WW M G 4 (RQ M G (some (.int r)) g1 0 0) 0 0 g 44 [(0, .ref a0), (1, .int a1), (2, .int a2), (3, .int a3)] [] := by
  unfold x3_moveTo_j44 at E
  refine r_aload_n X 0 dX3_moveTo_44 rfl rfl ?_
  obtain ⟨x1, e2, E⟩ := gb_some E
  refine r_getR X dX3_moveTo_45 f_X3_29 e2 ?_
  refine r_iload_n X 1 dX3_moveTo_48 rfl rfl ?_
  obtain ⟨x3, e4, E⟩ := gb_some E
  refine r_aald X 4 (by decide) rfl dX3_moveTo_49 e4 ?_
  refine r_iload_n X 2 dX3_moveTo_50 rfl rfl ?_
  obtain ⟨g5, e6, E⟩ := gb_some E
  refine r_put X dX3_moveTo_51 f_X3_104 rfl rfl e6 ?_
  refine r_aload_n X 0 dX3_moveTo_54 rfl rfl ?_
  obtain ⟨u10, e11, E⟩ := gb_some E
  obtain ⟨r7, g8, e9, E⟩ := cb_some E
  refine r_callV0 X hl0 (ci := 3) dX3_moveTo_55 y_X3_measure m_X3_48 rfl rfl e11 (t_x3_measure (l := l) (G := G) e9) rfl rfl (Nat.le_of_ble_eq_true rfl) (by decide) ?_
  refine r_iload_n X 3 dX3_moveTo_58 rfl rfl ?_
  cases E
  exact r_iret X hr dX3_moveTo_59 (by decide) (by decide)
set_option maxHeartbeats 4000000 in
set_option maxRecDepth 100000 in
theorem t_x3_moveTo_j27 {l : Launch} {G : GG} {M : MC} (X : CX M G cX3_moveTo 4 RX3 ⟨4, 0, 0, 128⟩) (hl0 : M.2.1 = l) (hr : (mM M).sig.returnType = (some .int)) (hnm : (mM M).name = yX3_moveTo.name) {a0 : Nat} {a1 : Int32} {a2 : Int32} {a3 : Int32} {g : AH} {r : Int32} {g1 : AH} (E : x3_moveTo_j27 a0 a1 a2 a3 g = some (r, g1)) : WW M G 4 (RQ M G (some (.int r)) g1 0 0) 0 0 g 27 [(0, .ref a0), (1, .int a1), (2, .int a2), (3, .int a3)] [] := by
  unfold x3_moveTo_j27 at E
  refine r_aload_n X 0 dX3_moveTo_27 rfl rfl ?_
  refine r_iload_n X 2 dX3_moveTo_28 rfl rfl ?_
  obtain ⟨u4, e5, E⟩ := gb_some E
  obtain ⟨r1, g2, e3, E⟩ := cb_some E
  refine r_callV0 X hl0 (ci := 3) dX3_moveTo_29 y_X3_hasBunk m_X3_114 rfl rfl e5 (t_x3_hasBunk (l := l) (G := G) e3) rfl rfl (Nat.le_of_ble_eq_true rfl) (by decide) ?_
  refine r_if_eq X 44 dX3_moveTo_32 (by decide) (fun c6 => ?_) (fun c6 => ?_)
  · rw [if_pos c6] at E
    exact r_pick (by rfl : lpick [(0, .ref a0), (1, .int a1), (2, .int a2), (3, .int a3)] [0, 1, 2, 3] = _) (t_x3_moveTo_j44 X hl0 hr hnm E)
  · rw [if_neg c6] at E
    refine r_aload_n X 0 dX3_moveTo_35 rfl rfl ?_
    obtain ⟨x7, e8, E⟩ := gb_some E
    refine r_getR X dX3_moveTo_36 f_X3_21 e8 ?_
    refine r_iload_n X 2 dX3_moveTo_39 rfl rfl ?_
    refine r_iconst X (v := 2) dX3_moveTo_40 (by decide) ?_
    refine r_iadd X dX3_moveTo_41 ?_
    refine r_iload_n X 1 dX3_moveTo_42 rfl rfl ?_
    obtain ⟨g9, e10, E⟩ := gb_some E
    refine r_iast X dX3_moveTo_43 e10 ?_
    exact r_pick (by rfl : lpick [(0, .ref a0), (1, .int a1), (2, .int a2), (3, .int a3)] [0, 1, 2, 3] = _) (t_x3_moveTo_j44 X hl0 hr hnm E)
set_option maxHeartbeats 4000000 in
set_option maxRecDepth 100000 in
theorem t_x3_moveTo_b {l : Launch} {G : GG} {M : MC} (X : CX M G cX3_moveTo 4 RX3 ⟨4, 0, 0, 128⟩) (hl0 : M.2.1 = l) (hr : (mM M).sig.returnType = (some .int)) (hnm : (mM M).name = yX3_moveTo.name) {p : Nat} {b0 : Int32} {b1 : Int32} {g : AH} {r : Int32} {g1 : AH} (E : x3_moveTo p b0 b1 g = some (r, g1)) : WW M G 4 (RQ M G (some (.int r)) g1 0 0) 0 0 g 0 [(0, .ref p), (1, .int b0), (2, .int b1)] [] := by
  unfold x3_moveTo at E
  refine r_aload_n X 0 dX3_moveTo_0 rfl rfl ?_
  obtain ⟨x1, e2, E⟩ := gb_some E
  refine r_getR X dX3_moveTo_1 f_X3_29 e2 ?_
  refine r_iload_n X 1 dX3_moveTo_4 rfl rfl ?_
  obtain ⟨x3, e4, E⟩ := gb_some E
  refine r_aald X 4 (by decide) rfl dX3_moveTo_5 e4 ?_
  obtain ⟨x5, e6, E⟩ := gb_some E
  refine r_getI X dX3_moveTo_6 f_X3_104 e6 ?_
  refine r_istore_n X 3 (L1 := [(3, .int x5), (0, .ref p), (1, .int b0), (2, .int b1)]) dX3_moveTo_9 rfl (by decide) rfl ?_
  refine r_aload_n X 0 dX3_moveTo_10 rfl rfl ?_
  refine r_iload_n X 3 dX3_moveTo_11 rfl rfl ?_
  obtain ⟨u10, e11, E⟩ := gb_some E
  obtain ⟨r7, g8, e9, E⟩ := cb_some E
  refine r_callV0 X hl0 (ci := 3) dX3_moveTo_12 y_X3_hasBunk m_X3_114 rfl rfl e11 (t_x3_hasBunk (l := l) (G := G) e9) rfl rfl (Nat.le_of_ble_eq_true rfl) (by decide) ?_
  refine r_if_eq X 27 dX3_moveTo_15 (by decide) (fun c12 => ?_) (fun c12 => ?_)
  · rw [if_pos c12] at E
    exact r_pick (by rfl : lpick [(3, .int x5), (0, .ref p), (1, .int b0), (2, .int b1)] [1, 2, 3, 0] = _) (t_x3_moveTo_j27 X hl0 hr hnm E)
  · rw [if_neg c12] at E
    refine r_aload_n X 0 dX3_moveTo_18 rfl rfl ?_
    obtain ⟨x13, e14, E⟩ := gb_some E
    refine r_getR X dX3_moveTo_19 f_X3_21 e14 ?_
    refine r_iload_n X 3 dX3_moveTo_22 rfl rfl ?_
    refine r_iconst X (v := 2) dX3_moveTo_23 (by decide) ?_
    refine r_iadd X dX3_moveTo_24 ?_
    refine r_iconst X (v := (-1)) dX3_moveTo_25 (by decide) ?_
    obtain ⟨g15, e16, E⟩ := gb_some E
    refine r_iast X dX3_moveTo_26 e16 ?_
    exact r_pick (by rfl : lpick [(3, .int x5), (0, .ref p), (1, .int b0), (2, .int b1)] [1, 2, 3, 0] = _) (t_x3_moveTo_j27 X hl0 hr hnm E)
theorem t_x3_moveTo {l : Launch} {G : GG} {p : Nat} {b0 : Int32} {b1 : Int32} {g : AH} {r : Int32} {g1 : AH} (E : x3_moveTo p b0 b1 g = some (r, g1)) : Ct l G yX3_moveTo cX3_moveTo 4 (some .int) ⟨4, 0, 0, 128⟩ [.ref p, .int b0, .int b1] g (some (.int r)) g1 :=
  ct_of (L0 := [(0, .ref p), (1, .int b0), (2, .int b1)]) y_X3_moveTo rfl (Nat.le_of_ble_eq_true rfl) fun M hl0 X hr hnm => t_x3_moveTo_b X hl0 hr hnm E
set_option maxHeartbeats 4000000 in
set_option maxRecDepth 100000 in
theorem t_x3_changeRate_b {l : Launch} {G : GG} {M : MC} (X : CX M G cX3_changeRate 3 RX3 ⟨1, 0, 0, 60⟩) (hl0 : M.2.1 = l) (hr : (mM M).sig.returnType = (some .int)) (hnm : (mM M).name = yX3_changeRate.name) {p : Nat} {b0 : Int32} {g : AH} {r : Int32} {g1 : AH} (E : x3_changeRate p b0 g = some (r, g1)) : WW M G 3 (RQ M G (some (.int r)) g1 0 0) 0 0 g 0 [(0, .ref p), (1, .int b0)] [] := by
  unfold x3_changeRate at E
  refine r_aload_n X 0 dX3_changeRate_0 rfl rfl ?_
  obtain ⟨x1, e2, E⟩ := gb_some E
  refine r_getI X dX3_changeRate_1 f_X3_57 e2 ?_
  refine r_istore_n X 2 (L1 := [(2, .int x1), (0, .ref p), (1, .int b0)]) dX3_changeRate_4 rfl (by decide) rfl ?_
  refine r_aload_n X 0 dX3_changeRate_5 rfl rfl ?_
  refine r_iload_n X 1 dX3_changeRate_6 rfl rfl ?_
  obtain ⟨g3, e4, E⟩ := gb_some E
  refine r_put X dX3_changeRate_7 f_X3_57 rfl rfl e4 ?_
  refine r_iload_n X 2 dX3_changeRate_10 rfl rfl ?_
  cases E
  exact r_iret X hr dX3_changeRate_11 (by decide) (by decide)
theorem t_x3_changeRate {l : Launch} {G : GG} {p : Nat} {b0 : Int32} {g : AH} {r : Int32} {g1 : AH} (E : x3_changeRate p b0 g = some (r, g1)) : Ct l G yX3_changeRate cX3_changeRate 3 (some .int) ⟨1, 0, 0, 60⟩ [.ref p, .int b0] g (some (.int r)) g1 :=
  ct_of (L0 := [(0, .ref p), (1, .int b0)]) y_X3_changeRate rfl (Nat.le_of_ble_eq_true rfl) fun M hl0 X hr hnm => t_x3_changeRate_b X hl0 hr hnm E
set_option maxHeartbeats 4000000 in
set_option maxRecDepth 100000 in
theorem t_x3_addLogs_b {l : Launch} {G : GG} {M : MC} (X : CX M G cX3_addLogs 2 RX3 ⟨1, 0, 0, 60⟩) (hl0 : M.2.1 = l) (hr : (mM M).sig.returnType = (some .int)) (hnm : (mM M).name = yX3_addLogs.name) {p : Nat} {b0 : Int32} {g : AH} {r : Int32} {g1 : AH} (E : x3_addLogs p b0 g = some (r, g1)) : WW M G 2 (RQ M G (some (.int r)) g1 0 0) 0 0 g 0 [(0, .ref p), (1, .int b0)] [] := by
  unfold x3_addLogs at E
  refine r_aload_n X 0 dX3_addLogs_0 rfl rfl ?_
  refine r_dup X dX3_addLogs_1 rfl ?_
  obtain ⟨x1, e2, E⟩ := gb_some E
  refine r_getI X dX3_addLogs_2 f_X3_34 e2 ?_
  refine r_iload_n X 1 dX3_addLogs_5 rfl rfl ?_
  refine r_iadd X dX3_addLogs_6 ?_
  obtain ⟨g3, e4, E⟩ := gb_some E
  refine r_put X dX3_addLogs_7 f_X3_34 rfl rfl e4 ?_
  refine r_aload_n X 0 dX3_addLogs_10 rfl rfl ?_
  refine r_dup X dX3_addLogs_11 rfl ?_
  obtain ⟨x5, e6, E⟩ := gb_some E
  refine r_getI X dX3_addLogs_12 f_X3_38 e6 ?_
  refine r_iload_n X 1 dX3_addLogs_15 rfl rfl ?_
  refine r_iadd X dX3_addLogs_16 ?_
  obtain ⟨g7, e8, E⟩ := gb_some E
  refine r_put X dX3_addLogs_17 f_X3_38 rfl rfl e8 ?_
  refine r_aload_n X 0 dX3_addLogs_20 rfl rfl ?_
  obtain ⟨x9, e10, E⟩ := gb_some E
  refine r_getI X dX3_addLogs_21 f_X3_34 e10 ?_
  cases E
  exact r_iret X hr dX3_addLogs_24 (by decide) (by decide)
theorem t_x3_addLogs {l : Launch} {G : GG} {p : Nat} {b0 : Int32} {g : AH} {r : Int32} {g1 : AH} (E : x3_addLogs p b0 g = some (r, g1)) : Ct l G yX3_addLogs cX3_addLogs 2 (some .int) ⟨1, 0, 0, 60⟩ [.ref p, .int b0] g (some (.int r)) g1 :=
  ct_of (L0 := [(0, .ref p), (1, .int b0)]) y_X3_addLogs rfl (Nat.le_of_ble_eq_true rfl) fun M hl0 X hr hnm => t_x3_addLogs_b X hl0 hr hnm E
set_option maxHeartbeats 4000000 in
set_option maxRecDepth 100000 in
theorem t_x3_payBack_b {l : Launch} {G : GG} {M : MC} (X : CX M G cX3_payBack 3 RX3 ⟨1, 0, 0, 60⟩) (hl0 : M.2.1 = l) (hr : (mM M).sig.returnType = (some .int)) (hnm : (mM M).name = yX3_payBack.name) {p : Nat} {b0 : Int32} {b1 : Int32} {g : AH} {r : Int32} {g1 : AH} (E : x3_payBack p b0 b1 g = some (r, g1)) : WW M G 3 (RQ M G (some (.int r)) g1 0 0) 0 0 g 0 [(0, .ref p), (1, .int b0), (2, .int b1)] [] := by
  unfold x3_payBack at E
  refine r_aload_n X 0 dX3_payBack_0 rfl rfl ?_
  obtain ⟨x1, e2, E⟩ := gb_some E
  refine r_getR X dX3_payBack_1 f_X3_29 e2 ?_
  refine r_iload_n X 1 dX3_payBack_4 rfl rfl ?_
  obtain ⟨x3, e4, E⟩ := gb_some E
  refine r_aald X 4 (by decide) rfl dX3_payBack_5 e4 ?_
  refine r_dup X dX3_payBack_6 rfl ?_
  obtain ⟨x5, e6, E⟩ := gb_some E
  refine r_getI X dX3_payBack_7 f_X3_188 e6 ?_
  refine r_iload_n X 2 dX3_payBack_10 rfl rfl ?_
  refine r_isub X dX3_payBack_11 ?_
  obtain ⟨g7, e8, E⟩ := gb_some E
  refine r_put X dX3_payBack_12 f_X3_188 rfl rfl e8 ?_
  refine r_aload_n X 0 dX3_payBack_15 rfl rfl ?_
  obtain ⟨x9, e10, E⟩ := gb_some E
  refine r_getR X dX3_payBack_16 f_X3_29 e10 ?_
  refine r_iload_n X 1 dX3_payBack_19 rfl rfl ?_
  obtain ⟨x11, e12, E⟩ := gb_some E
  refine r_aald X 4 (by decide) rfl dX3_payBack_20 e12 ?_
  refine r_dup X dX3_payBack_21 rfl ?_
  obtain ⟨x13, e14, E⟩ := gb_some E
  refine r_getI X dX3_payBack_22 f_X3_191 e14 ?_
  refine r_iload_n X 2 dX3_payBack_25 rfl rfl ?_
  refine r_isub X dX3_payBack_26 ?_
  obtain ⟨g15, e16, E⟩ := gb_some E
  refine r_put X dX3_payBack_27 f_X3_191 rfl rfl e16 ?_
  refine r_aload_n X 0 dX3_payBack_30 rfl rfl ?_
  refine r_dup X dX3_payBack_31 rfl ?_
  obtain ⟨x17, e18, E⟩ := gb_some E
  refine r_getI X dX3_payBack_32 f_X3_60 e18 ?_
  refine r_iload_n X 2 dX3_payBack_35 rfl rfl ?_
  refine r_iadd X dX3_payBack_36 ?_
  obtain ⟨g19, e20, E⟩ := gb_some E
  refine r_put X dX3_payBack_37 f_X3_60 rfl rfl e20 ?_
  refine r_aload_n X 0 dX3_payBack_40 rfl rfl ?_
  obtain ⟨x21, e22, E⟩ := gb_some E
  refine r_getR X dX3_payBack_41 f_X3_29 e22 ?_
  refine r_iload_n X 1 dX3_payBack_44 rfl rfl ?_
  obtain ⟨x23, e24, E⟩ := gb_some E
  refine r_aald X 4 (by decide) rfl dX3_payBack_45 e24 ?_
  obtain ⟨x25, e26, E⟩ := gb_some E
  refine r_getI X dX3_payBack_46 f_X3_191 e26 ?_
  cases E
  exact r_iret X hr dX3_payBack_49 (by decide) (by decide)
theorem t_x3_payBack {l : Launch} {G : GG} {p : Nat} {b0 : Int32} {b1 : Int32} {g : AH} {r : Int32} {g1 : AH} (E : x3_payBack p b0 b1 g = some (r, g1)) : Ct l G yX3_payBack cX3_payBack 3 (some .int) ⟨1, 0, 0, 60⟩ [.ref p, .int b0, .int b1] g (some (.int r)) g1 :=
  ct_of (L0 := [(0, .ref p), (1, .int b0), (2, .int b1)]) y_X3_payBack rfl (Nat.le_of_ble_eq_true rfl) fun M hl0 X hr hnm => t_x3_payBack_b X hl0 hr hnm E
set_option maxHeartbeats 4000000 in
set_option maxRecDepth 100000 in
theorem t_x3_burnLogs_j22 {l : Launch} {G : GG} {M : MC} (X : CX M G cX3_burnLogs 2 RX3 ⟨1, 0, 0, 60⟩) (hl0 : M.2.1 = l) (hr : (mM M).sig.returnType = none) (hnm : (mM M).name = yX3_burnLogs.name) {a0 : Nat} {s0 : Int32} {g : AH} {r : Unit} {g1 : AH} (E : x3_burnLogs_j22 a0 s0 g = some (r, g1)) : WW M G 2 (RQ M G none g1 0 0) 0 0 g 22 [(0, .ref a0)] [.int s0] := by
  unfold x3_burnLogs_j22 at E
  refine r_istore_n X 1 (L1 := [(1, .int s0), (0, .ref a0)]) dX3_burnLogs_22 rfl (by decide) rfl ?_
  refine r_aload_n X 0 dX3_burnLogs_23 rfl rfl ?_
  refine r_dup X dX3_burnLogs_24 rfl ?_
  obtain ⟨x1, e2, E⟩ := gb_some E
  refine r_getI X dX3_burnLogs_25 f_X3_34 e2 ?_
  refine r_iload_n X 1 dX3_burnLogs_28 rfl rfl ?_
  refine r_isub X dX3_burnLogs_29 ?_
  obtain ⟨g3, e4, E⟩ := gb_some E
  refine r_put X dX3_burnLogs_30 f_X3_34 rfl rfl e4 ?_
  refine r_aload_n X 0 dX3_burnLogs_33 rfl rfl ?_
  refine r_dup X dX3_burnLogs_34 rfl ?_
  obtain ⟨x5, e6, E⟩ := gb_some E
  refine r_getI X dX3_burnLogs_35 f_X3_63 e6 ?_
  refine r_iload_n X 1 dX3_burnLogs_38 rfl rfl ?_
  refine r_iadd X dX3_burnLogs_39 ?_
  obtain ⟨g7, e8, E⟩ := gb_some E
  refine r_put X dX3_burnLogs_40 f_X3_63 rfl rfl e8 ?_
  refine r_aload_n X 0 dX3_burnLogs_43 rfl rfl ?_
  refine r_dup X dX3_burnLogs_44 rfl ?_
  obtain ⟨x9, e10, E⟩ := gb_some E
  refine r_getI X dX3_burnLogs_45 f_X3_66 e10 ?_
  refine r_iload_n X 1 dX3_burnLogs_48 rfl rfl ?_
  refine r_iadd X dX3_burnLogs_49 ?_
  obtain ⟨g11, e12, E⟩ := gb_some E
  refine r_put X dX3_burnLogs_50 f_X3_66 rfl rfl e12 ?_
  refine r_aload_n X 0 dX3_burnLogs_53 rfl rfl ?_
  refine r_aload_n X 0 dX3_burnLogs_54 rfl rfl ?_
  obtain ⟨x13, e14, E⟩ := gb_some E
  refine r_getI X dX3_burnLogs_55 f_X3_54 e14 ?_
  refine r_iconst X (v := 2) dX3_burnLogs_58 (by decide) ?_
  refine r_idiv X dX3_burnLogs_59 (by decide) ?_
  refine r_iconst X (v := 4) dX3_burnLogs_60 (by decide) ?_
  refine r_iload_n X 1 dX3_burnLogs_61 rfl rfl ?_
  refine r_imul X dX3_burnLogs_62 ?_
  refine r_iadd X dX3_burnLogs_63 ?_
  obtain ⟨g16, e17, E⟩ := gb_some E
  refine r_put X dX3_burnLogs_64 f_X3_54 rfl rfl e17 ?_
  cases E
  exact r_vret X hr dX3_burnLogs_67 (by decide) (by decide)
set_option maxHeartbeats 4000000 in
set_option maxRecDepth 100000 in
theorem t_x3_burnLogs_b {l : Launch} {G : GG} {M : MC} (X : CX M G cX3_burnLogs 2 RX3 ⟨1, 0, 0, 60⟩) (hl0 : M.2.1 = l) (hr : (mM M).sig.returnType = none) (hnm : (mM M).name = yX3_burnLogs.name) {p : Nat} {g : AH} {r : Unit} {g1 : AH} (E : x3_burnLogs p g = some (r, g1)) : WW M G 2 (RQ M G none g1 0 0) 0 0 g 0 [(0, .ref p)] [] := by
  unfold x3_burnLogs at E
  refine r_aload_n X 0 dX3_burnLogs_0 rfl rfl ?_
  obtain ⟨x1, e2, E⟩ := gb_some E
  refine r_getI X dX3_burnLogs_1 f_X3_57 e2 ?_
  refine r_aload_n X 0 dX3_burnLogs_4 rfl rfl ?_
  obtain ⟨x3, e4, E⟩ := gb_some E
  refine r_getI X dX3_burnLogs_5 f_X3_34 e4 ?_
  refine r_icmp_ge X 18 dX3_burnLogs_8 (by decide) (fun c5 => ?_) (fun c5 => ?_)
  · rw [if_pos c5] at E
    refine r_aload_n X 0 dX3_burnLogs_18 rfl rfl ?_
    obtain ⟨x6, e7, E⟩ := gb_some E
    refine r_getI X dX3_burnLogs_19 f_X3_34 e7 ?_
    exact r_pick (by rfl : lpick [(0, .ref p)] [0] = _) (t_x3_burnLogs_j22 X hl0 hr hnm E)
  · rw [if_neg c5] at E
    refine r_aload_n X 0 dX3_burnLogs_11 rfl rfl ?_
    obtain ⟨x8, e9, E⟩ := gb_some E
    refine r_getI X dX3_burnLogs_12 f_X3_57 e9 ?_
    refine r_goto X 22 dX3_burnLogs_15 (by decide) ?_
    exact r_pick (by rfl : lpick [(0, .ref p)] [0] = _) (t_x3_burnLogs_j22 X hl0 hr hnm E)
theorem t_x3_burnLogs {l : Launch} {G : GG} {p : Nat} {g : AH} {r : Unit} {g1 : AH} (E : x3_burnLogs p g = some (r, g1)) : Ct l G yX3_burnLogs cX3_burnLogs 2 none ⟨1, 0, 0, 60⟩ [.ref p] g none g1 :=
  ct_of (L0 := [(0, .ref p)]) y_X3_burnLogs rfl (Nat.le_of_ble_eq_true rfl) fun M hl0 X hr hnm => t_x3_burnLogs_b X hl0 hr hnm E
set_option maxHeartbeats 4000000 in
set_option maxRecDepth 100000 in
theorem t_x3_noteWhatHappens_l2 {l : Launch} {G : GG} {M : MC} (X : CX M G cX3_noteWhatHappens 2 RX3 ⟨3, 0, 0, 106⟩) (hl0 : M.2.1 = l) (hr : (mM M).sig.returnType = none) (hnm : (mM M).name = yX3_noteWhatHappens.name) {Q : State → Prop} {kc ks : Nat} {s9 : ((Int32) ⊕ (Unit))} {g1 : AH} {a0 : Nat} {s0 : Int32} (hc : ∀ s1, s9 = .inl s1 → WW M G 2 Q kc ks g1 2 [(0, .ref a0), (1, .int s1)] []) (hx : ∀ t, s9 = .inr t → WW M G 2 Q kc ks g1 35 [] []) {g : AH} (E : x3_noteWhatHappens_l2 a0 s0 g = some (s9, g1)) : WW M G 2 Q kc ks g 2 [(0, .ref a0), (1, .int s0)] [] := by
  unfold x3_noteWhatHappens_l2 at E
  refine r_iload_n X 1 dX3_noteWhatHappens_2 rfl rfl ?_
  refine r_aload_n X 0 dX3_noteWhatHappens_3 rfl rfl ?_
  obtain ⟨x1, e2, E⟩ := gb_some E
  refine r_getI X dX3_noteWhatHappens_4 f_X3_78 e2 ?_
  refine r_icmp_ge X 35 dX3_noteWhatHappens_7 (by decide) (fun c3 => ?_) (fun c3 => ?_)
  · rw [if_pos c3] at E
    cases E
    exact r_pick (by rfl : lpick [(0, .ref a0), (1, .int s0)] [] = _) (hx _ rfl)
  · rw [if_neg c3] at E
    refine r_aload_n X 0 dX3_noteWhatHappens_10 rfl rfl ?_
    obtain ⟨x4, e5, E⟩ := gb_some E
    refine r_getR X dX3_noteWhatHappens_11 f_X3_29 e5 ?_
    refine r_iload_n X 1 dX3_noteWhatHappens_14 rfl rfl ?_
    obtain ⟨x6, e7, E⟩ := gb_some E
    refine r_aald X 4 (by decide) rfl dX3_noteWhatHappens_15 e7 ?_
    obtain ⟨x8, e9, E⟩ := gb_some E
    refine r_getR X dX3_noteWhatHappens_16 f_X3_194 e9 ?_
    refine r_aload_n X 0 dX3_noteWhatHappens_19 rfl rfl ?_
    refine r_iload_n X 1 dX3_noteWhatHappens_20 rfl rfl ?_
    obtain ⟨u13, e14, E⟩ := gb_some E
    obtain ⟨r10, g11, e12, E⟩ := cb_some E
    refine r_callV0 X hl0 (ci := 3) dX3_noteWhatHappens_21 y_X3_activityNow m_X3_175 rfl rfl e14 (t_x3_activityNow (l := l) (G := G) e12) rfl rfl (Nat.le_of_ble_eq_true rfl) (by decide) ?_
    refine r_dup2 X dX3_noteWhatHappens_24 rfl rfl ?_
    obtain ⟨x15, e16, E⟩ := gb_some E
    refine r_iald X dX3_noteWhatHappens_25 e16 ?_
    refine r_iconst X (v := 1) dX3_noteWhatHappens_26 (by decide) ?_
    refine r_iadd X dX3_noteWhatHappens_27 ?_
    obtain ⟨g17, e18, E⟩ := gb_some E
    refine r_iast X dX3_noteWhatHappens_28 e18 ?_
    refine r_iinc X (v := (s0 + 1)) (L1 := [(1, .int (s0 + 1)), (0, .ref a0)]) dX3_noteWhatHappens_29 rfl rfl (by decide) rfl ?_
    refine r_goto X 2 dX3_noteWhatHappens_32 (by decide) ?_
    cases E
    exact r_pick (by rfl : lpick [(1, .int (s0 + 1)), (0, .ref a0)] [1, 0] = _) (hc _ rfl)
set_option maxHeartbeats 4000000 in
theorem t_x3_noteWhatHappens_l2_r {l : Launch} {G : GG} {M : MC} (X : CX M G cX3_noteWhatHappens 2 RX3 ⟨3, 0, 0, 106⟩) (hl0 : M.2.1 = l) (hr : (mM M).sig.returnType = none) (hnm : (mM M).name = yX3_noteWhatHappens.name) {Q : State → Prop} {kc ks : Nat} {a0 : Nat} : ∀ (n : Nat) (s0 : Int32) (g : AH) (t : (Unit)) (g1 : AH), loopX (x3_noteWhatHappens_l2 a0) n s0 g = some (t, g1) → WW M G 2 Q kc ks g1 35 [] [] → WW M G 2 Q kc ks g 2 [(0, .ref a0), (1, .int s0)] [] :=
  loop_cps (K := fun t g1 => WW M G 2 Q kc ks g1 35 [] []) (fun _ s0 g => WW M G 2 Q kc ks g 2 [(0, .ref a0), (1, .int s0)] []) (fun n s0 g st g1 E hc hx => t_x3_noteWhatHappens_l2 X hl0 hr hnm hc hx E)
set_option maxHeartbeats 4000000 in
set_option maxRecDepth 100000 in
theorem t_x3_noteWhatHappens_b {l : Launch} {G : GG} {M : MC} (X : CX M G cX3_noteWhatHappens 2 RX3 ⟨3, 0, 0, 106⟩) (hl0 : M.2.1 = l) (hr : (mM M).sig.returnType = none) (hnm : (mM M).name = yX3_noteWhatHappens.name) {p : Nat} {g : AH} {r : Unit} {g1 : AH} (E : x3_noteWhatHappens p g = some (r, g1)) : WW M G 2 (RQ M G none g1 0 0) 0 0 g 0 [(0, .ref p)] [] := by
  unfold x3_noteWhatHappens at E
  refine r_iconst X (v := 0) dX3_noteWhatHappens_0 (by decide) ?_
  refine r_istore_n X 1 (L1 := [(1, .int 0), (0, .ref p)]) dX3_noteWhatHappens_1 rfl (by decide) rfl ?_
  obtain ⟨t1, g2, e3, E⟩ := cb_some E
  refine r_pick (by rfl : lpick [(1, .int 0), (0, .ref p)] [1, 0] = _) (t_x3_noteWhatHappens_l2_r X hl0 hr hnm _ _ _ _ _ e3 ?_)
  cases E
  exact r_vret X hr dX3_noteWhatHappens_35 (by decide) (by decide)
theorem t_x3_noteWhatHappens {l : Launch} {G : GG} {p : Nat} {g : AH} {r : Unit} {g1 : AH} (E : x3_noteWhatHappens p g = some (r, g1)) : Ct l G yX3_noteWhatHappens cX3_noteWhatHappens 2 none ⟨3, 0, 0, 106⟩ [.ref p] g none g1 :=
  ct_of (L0 := [(0, .ref p)]) y_X3_noteWhatHappens rfl (Nat.le_of_ble_eq_true rfl) fun M hl0 X hr hnm => t_x3_noteWhatHappens_b X hl0 hr hnm E
set_option maxHeartbeats 4000000 in
set_option maxRecDepth 100000 in
theorem t_x1_payOut_j16 {l : Launch} {G : GG} {M : MC} (X : CX M G cX1_payOut 3 RX1 ⟨1, 0, 0, 60⟩) (hl0 : M.2.1 = l) (hr : (mM M).sig.returnType = (some .int)) (hnm : (mM M).name = yX1_payOut.name) {a0 : Nat} {a1 : Int32} {s0 : Int32} {g : AH} {r : Int32} {g1 : AH} (E : x1_payOut_j16 a0 a1 s0 g = some (r, g1)) : WW M G 3 (RQ M G (some (.int r)) g1 0 0) 0 0 g 16 [(0, .ref a0), (1, .int a1)] [.int s0] := by
  unfold x1_payOut_j16 at E
  refine r_istore_n X 2 (L1 := [(2, .int s0), (0, .ref a0), (1, .int a1)]) dX1_payOut_16 rfl (by decide) rfl ?_
  refine r_aload_n X 0 dX1_payOut_17 rfl rfl ?_
  refine r_dup X dX1_payOut_18 rfl ?_
  obtain ⟨x1, e2, E⟩ := gb_some E
  refine r_getI X dX1_payOut_19 f_X1_28 e2 ?_
  refine r_iload_n X 2 dX1_payOut_22 rfl rfl ?_
  refine r_isub X dX1_payOut_23 ?_
  obtain ⟨g3, e4, E⟩ := gb_some E
  refine r_put X dX1_payOut_24 f_X1_28 rfl rfl e4 ?_
  refine r_aload_n X 0 dX1_payOut_27 rfl rfl ?_
  refine r_dup X dX1_payOut_28 rfl ?_
  obtain ⟨x5, e6, E⟩ := gb_some E
  refine r_getI X dX1_payOut_29 f_X1_31 e6 ?_
  refine r_iload_n X 1 dX1_payOut_32 rfl rfl ?_
  refine r_iload_n X 2 dX1_payOut_33 rfl rfl ?_
  refine r_isub X dX1_payOut_34 ?_
  refine r_iadd X dX1_payOut_35 ?_
  obtain ⟨g7, e8, E⟩ := gb_some E
  refine r_put X dX1_payOut_36 f_X1_31 rfl rfl e8 ?_
  refine r_iload_n X 2 dX1_payOut_39 rfl rfl ?_
  cases E
  exact r_iret X hr dX1_payOut_40 (by decide) (by decide)
set_option maxHeartbeats 4000000 in
set_option maxRecDepth 100000 in
theorem t_x1_payOut_b {l : Launch} {G : GG} {M : MC} (X : CX M G cX1_payOut 3 RX1 ⟨1, 0, 0, 60⟩) (hl0 : M.2.1 = l) (hr : (mM M).sig.returnType = (some .int)) (hnm : (mM M).name = yX1_payOut.name) {p : Nat} {b0 : Int32} {g : AH} {r : Int32} {g1 : AH} (E : x1_payOut p b0 g = some (r, g1)) : WW M G 3 (RQ M G (some (.int r)) g1 0 0) 0 0 g 0 [(0, .ref p), (1, .int b0)] [] := by
  unfold x1_payOut at E
  refine r_iload_n X 1 dX1_payOut_0 rfl rfl ?_
  refine r_aload_n X 0 dX1_payOut_1 rfl rfl ?_
  obtain ⟨x1, e2, E⟩ := gb_some E
  refine r_getI X dX1_payOut_2 f_X1_28 e2 ?_
  refine r_icmp_ge X 12 dX1_payOut_5 (by decide) (fun c3 => ?_) (fun c3 => ?_)
  · rw [if_pos c3] at E
    refine r_aload_n X 0 dX1_payOut_12 rfl rfl ?_
    obtain ⟨x4, e5, E⟩ := gb_some E
    refine r_getI X dX1_payOut_13 f_X1_28 e5 ?_
    exact r_pick (by rfl : lpick [(0, .ref p), (1, .int b0)] [0, 1] = _) (t_x1_payOut_j16 X hl0 hr hnm E)
  · rw [if_neg c3] at E
    refine r_iload_n X 1 dX1_payOut_8 rfl rfl ?_
    refine r_goto X 16 dX1_payOut_9 (by decide) ?_
    exact r_pick (by rfl : lpick [(0, .ref p), (1, .int b0)] [0, 1] = _) (t_x1_payOut_j16 X hl0 hr hnm E)
theorem t_x1_payOut {l : Launch} {G : GG} {p : Nat} {b0 : Int32} {g : AH} {r : Int32} {g1 : AH} (E : x1_payOut p b0 g = some (r, g1)) : Ct l G yX1_payOut cX1_payOut 3 (some .int) ⟨1, 0, 0, 60⟩ [.ref p, .int b0] g (some (.int r)) g1 :=
  ct_of (L0 := [(0, .ref p), (1, .int b0)]) y_X1_payOut rfl (Nat.le_of_ble_eq_true rfl) fun M hl0 X hr hnm => t_x1_payOut_b X hl0 hr hnm E
set_option maxHeartbeats 4000000 in
set_option maxRecDepth 100000 in
theorem t_x3_payForNight_l2 {l : Launch} {G : GG} {M : MC} (X : CX M G cX3_payForNight 2 RX3 ⟨2, 0, 0, 82⟩) (hl0 : M.2.1 = l) (hr : (mM M).sig.returnType = none) (hnm : (mM M).name = yX3_payForNight.name) {Q : State → Prop} {kc ks : Nat} {s9 : ((Int32) ⊕ (Unit))} {g1 : AH} {a0 : Nat} {s0 : Int32} (hc : ∀ s1, s9 = .inl s1 → WW M G 2 Q kc ks g1 2 [(0, .ref a0), (1, .int s1)] []) (hx : ∀ t, s9 = .inr t → WW M G 2 Q kc ks g1 35 [] []) {g : AH} (E : x3_payForNight_l2 a0 s0 g = some (s9, g1)) : WW M G 2 Q kc ks g 2 [(0, .ref a0), (1, .int s0)] [] := by
  unfold x3_payForNight_l2 at E
  refine r_iload_n X 1 dX3_payForNight_2 rfl rfl ?_
  refine r_aload_n X 0 dX3_payForNight_3 rfl rfl ?_
  obtain ⟨x1, e2, E⟩ := gb_some E
  refine r_getI X dX3_payForNight_4 f_X3_78 e2 ?_
  refine r_icmp_ge X 35 dX3_payForNight_7 (by decide) (fun c3 => ?_) (fun c3 => ?_)
  · rw [if_pos c3] at E
    cases E
    exact r_pick (by rfl : lpick [(0, .ref a0), (1, .int s0)] [] = _) (hx _ rfl)
  · rw [if_neg c3] at E
    refine r_aload_n X 0 dX3_payForNight_10 rfl rfl ?_
    refine r_dup X dX3_payForNight_11 rfl ?_
    obtain ⟨x4, e5, E⟩ := gb_some E
    refine r_getI X dX3_payForNight_12 f_X3_60 e5 ?_
    refine r_aload_n X 0 dX3_payForNight_15 rfl rfl ?_
    obtain ⟨x6, e7, E⟩ := gb_some E
    refine r_getR X dX3_payForNight_16 f_X3_29 e7 ?_
    refine r_iload_n X 1 dX3_payForNight_19 rfl rfl ?_
    obtain ⟨x8, e9, E⟩ := gb_some E
    refine r_aald X 4 (by decide) rfl dX3_payForNight_20 e9 ?_
    refine r_iconst X (v := 3) dX3_payForNight_21 (by decide) ?_
    obtain ⟨u13, e14, E⟩ := gb_some E
    obtain ⟨r10, g11, e12, E⟩ := cb_some E
    refine r_callV0 X hl0 (ci := 1) dX3_payForNight_22 y_X1_payOut m_X3_215 rfl rfl e14 (t_x1_payOut (l := l) (G := G) e12) rfl rfl (Nat.le_of_ble_eq_true rfl) (by decide) ?_
    refine r_iadd X dX3_payForNight_25 ?_
    obtain ⟨g15, e16, E⟩ := gb_some E
    refine r_put X dX3_payForNight_26 f_X3_60 rfl rfl e16 ?_
    refine r_iinc X (v := (s0 + 1)) (L1 := [(1, .int (s0 + 1)), (0, .ref a0)]) dX3_payForNight_29 rfl rfl (by decide) rfl ?_
    refine r_goto X 2 dX3_payForNight_32 (by decide) ?_
    cases E
    exact r_pick (by rfl : lpick [(1, .int (s0 + 1)), (0, .ref a0)] [1, 0] = _) (hc _ rfl)
set_option maxHeartbeats 4000000 in
theorem t_x3_payForNight_l2_r {l : Launch} {G : GG} {M : MC} (X : CX M G cX3_payForNight 2 RX3 ⟨2, 0, 0, 82⟩) (hl0 : M.2.1 = l) (hr : (mM M).sig.returnType = none) (hnm : (mM M).name = yX3_payForNight.name) {Q : State → Prop} {kc ks : Nat} {a0 : Nat} : ∀ (n : Nat) (s0 : Int32) (g : AH) (t : (Unit)) (g1 : AH), loopX (x3_payForNight_l2 a0) n s0 g = some (t, g1) → WW M G 2 Q kc ks g1 35 [] [] → WW M G 2 Q kc ks g 2 [(0, .ref a0), (1, .int s0)] [] :=
  loop_cps (K := fun t g1 => WW M G 2 Q kc ks g1 35 [] []) (fun _ s0 g => WW M G 2 Q kc ks g 2 [(0, .ref a0), (1, .int s0)] []) (fun n s0 g st g1 E hc hx => t_x3_payForNight_l2 X hl0 hr hnm hc hx E)
set_option maxHeartbeats 4000000 in
set_option maxRecDepth 100000 in
theorem t_x3_payForNight_b {l : Launch} {G : GG} {M : MC} (X : CX M G cX3_payForNight 2 RX3 ⟨2, 0, 0, 82⟩) (hl0 : M.2.1 = l) (hr : (mM M).sig.returnType = none) (hnm : (mM M).name = yX3_payForNight.name) {p : Nat} {g : AH} {r : Unit} {g1 : AH} (E : x3_payForNight p g = some (r, g1)) : WW M G 2 (RQ M G none g1 0 0) 0 0 g 0 [(0, .ref p)] [] := by
  unfold x3_payForNight at E
  refine r_iconst X (v := 0) dX3_payForNight_0 (by decide) ?_
  refine r_istore_n X 1 (L1 := [(1, .int 0), (0, .ref p)]) dX3_payForNight_1 rfl (by decide) rfl ?_
  obtain ⟨t1, g2, e3, E⟩ := cb_some E
  refine r_pick (by rfl : lpick [(1, .int 0), (0, .ref p)] [1, 0] = _) (t_x3_payForNight_l2_r X hl0 hr hnm _ _ _ _ _ e3 ?_)
  cases E
  exact r_vret X hr dX3_payForNight_35 (by decide) (by decide)
theorem t_x3_payForNight {l : Launch} {G : GG} {p : Nat} {g : AH} {r : Unit} {g1 : AH} (E : x3_payForNight p g = some (r, g1)) : Ct l G yX3_payForNight cX3_payForNight 2 none ⟨2, 0, 0, 82⟩ [.ref p] g none g1 :=
  ct_of (L0 := [(0, .ref p)]) y_X3_payForNight rfl (Nat.le_of_ble_eq_true rfl) fun M hl0 X hr hnm => t_x3_payForNight_b X hl0 hr hnm E
set_option maxHeartbeats 4000000 in
set_option maxRecDepth 100000 in
theorem t_x3_partOfLogs_j32 {l : Launch} {G : GG} {M : MC} (X : CX M G cX3_partOfLogs 4 RX3 ⟨1, 0, 0, 60⟩) (hl0 : M.2.1 = l) (hr : (mM M).sig.returnType = (some .int)) (hnm : (mM M).name = yX3_partOfLogs.name) {a0 : Nat} {a2 : Int32} {s0 : Int32} {g : AH} {r : Int32} {g1 : AH} (E : x3_partOfLogs_j32 a0 a2 s0 g = some (r, g1)) : WW M G 4 (RQ M G (some (.int r)) g1 0 0) 0 0 g 32 [(0, .ref a0), (2, .int a2)] [.int s0] := by
  unfold x3_partOfLogs_j32 at E
  refine r_istore_n X 3 (L1 := [(3, .int s0), (0, .ref a0), (2, .int a2)]) dX3_partOfLogs_32 rfl (by decide) rfl ?_
  refine r_iload_n X 2 dX3_partOfLogs_33 rfl rfl ?_
  refine r_aload_n X 0 dX3_partOfLogs_34 rfl rfl ?_
  obtain ⟨x1, e2, E⟩ := gb_some E
  refine r_getI X dX3_partOfLogs_35 f_X3_78 e2 ?_
  by_cases c3 : x1 = 0
  · rw [if_pos c3] at E; cases E
  rw [if_neg c3] at E
  refine r_idiv X dX3_partOfLogs_38 c3 ?_
  refine r_iload_n X 3 dX3_partOfLogs_39 rfl rfl ?_
  refine r_iadd X dX3_partOfLogs_40 ?_
  cases E
  exact r_iret X hr dX3_partOfLogs_41 (by decide) (by decide)
set_option maxHeartbeats 4000000 in
set_option maxRecDepth 100000 in
theorem t_x3_partOfLogs_b {l : Launch} {G : GG} {M : MC} (X : CX M G cX3_partOfLogs 4 RX3 ⟨1, 0, 0, 60⟩) (hl0 : M.2.1 = l) (hr : (mM M).sig.returnType = (some .int)) (hnm : (mM M).name = yX3_partOfLogs.name) {p : Nat} {b0 : Int32} {g : AH} {r : Int32} {g1 : AH} (E : x3_partOfLogs p b0 g = some (r, g1)) : WW M G 4 (RQ M G (some (.int r)) g1 0 0) 0 0 g 0 [(0, .ref p), (1, .int b0)] [] := by
  unfold x3_partOfLogs at E
  refine r_aload_n X 0 dX3_partOfLogs_0 rfl rfl ?_
  obtain ⟨x1, e2, E⟩ := gb_some E
  refine r_getI X dX3_partOfLogs_1 f_X3_78 e2 ?_
  refine r_iconst X (v := 1) dX3_partOfLogs_4 (by decide) ?_
  refine r_icmp_ge X 10 dX3_partOfLogs_5 (by decide) (fun c3 => ?_) (fun c3 => ?_)
  · rw [if_pos c3] at E
    refine r_iconst X (v := 2) dX3_partOfLogs_10 (by decide) ?_
    refine r_aload_n X 0 dX3_partOfLogs_11 rfl rfl ?_
    obtain ⟨x4, e5, E⟩ := gb_some E
    refine r_getI X dX3_partOfLogs_12 f_X3_66 e5 ?_
    refine r_imul X dX3_partOfLogs_15 ?_
    refine r_istore_n X 2 (L1 := [(2, .int (2 * x4)), (0, .ref p), (1, .int b0)]) dX3_partOfLogs_16 rfl (by decide) rfl ?_
    refine r_iload_n X 1 dX3_partOfLogs_17 rfl rfl ?_
    refine r_iload_n X 2 dX3_partOfLogs_18 rfl rfl ?_
    refine r_aload_n X 0 dX3_partOfLogs_19 rfl rfl ?_
    obtain ⟨x6, e7, E⟩ := gb_some E
    refine r_getI X dX3_partOfLogs_20 f_X3_78 e7 ?_
    by_cases c8 : x6 = 0
    · rw [if_pos c8] at E; cases E
    rw [if_neg c8] at E
    refine r_irem X dX3_partOfLogs_23 c8 ?_
    refine r_icmp_ge X 31 dX3_partOfLogs_24 (by decide) (fun c9 => ?_) (fun c9 => ?_)
    · rw [if_pos c9] at E
      refine r_iconst X (v := 0) dX3_partOfLogs_31 (by decide) ?_
      exact r_pick (by rfl : lpick [(2, .int (2 * x4)), (0, .ref p), (1, .int b0)] [1, 0] = _) (t_x3_partOfLogs_j32 X hl0 hr hnm E)
    · rw [if_neg c9] at E
      refine r_iconst X (v := 1) dX3_partOfLogs_27 (by decide) ?_
      refine r_goto X 32 dX3_partOfLogs_28 (by decide) ?_
      exact r_pick (by rfl : lpick [(2, .int (2 * x4)), (0, .ref p), (1, .int b0)] [1, 0] = _) (t_x3_partOfLogs_j32 X hl0 hr hnm E)
  · rw [if_neg c3] at E
    refine r_iconst X (v := 0) dX3_partOfLogs_8 (by decide) ?_
    cases E
    exact r_iret X hr dX3_partOfLogs_9 (by decide) (by decide)
theorem t_x3_partOfLogs {l : Launch} {G : GG} {p : Nat} {b0 : Int32} {g : AH} {r : Int32} {g1 : AH} (E : x3_partOfLogs p b0 g = some (r, g1)) : Ct l G yX3_partOfLogs cX3_partOfLogs 4 (some .int) ⟨1, 0, 0, 60⟩ [.ref p, .int b0] g (some (.int r)) g1 :=
  ct_of (L0 := [(0, .ref p), (1, .int b0)]) y_X3_partOfLogs rfl (Nat.le_of_ble_eq_true rfl) fun M hl0 X hr hnm => t_x3_partOfLogs_b X hl0 hr hnm E
set_option maxHeartbeats 4000000 in
set_option maxRecDepth 100000 in
theorem t_x3_payForLogs_l2 {l : Launch} {G : GG} {M : MC} (X : CX M G cX3_payForLogs 2 RX3 ⟨2, 0, 0, 83⟩) (hl0 : M.2.1 = l) (hr : (mM M).sig.returnType = none) (hnm : (mM M).name = yX3_payForLogs.name) {Q : State → Prop} {kc ks : Nat} {s9 : ((Int32) ⊕ (Unit))} {g1 : AH} {a0 : Nat} {s0 : Int32} (hc : ∀ s1, s9 = .inl s1 → WW M G 2 Q kc ks g1 2 [(0, .ref a0), (1, .int s1)] []) (hx : ∀ t, s9 = .inr t → WW M G 2 Q kc ks g1 39 [(0, .ref a0)] []) {g : AH} (E : x3_payForLogs_l2 a0 s0 g = some (s9, g1)) : WW M G 2 Q kc ks g 2 [(0, .ref a0), (1, .int s0)] [] := by
  unfold x3_payForLogs_l2 at E
  refine r_iload_n X 1 dX3_payForLogs_2 rfl rfl ?_
  refine r_aload_n X 0 dX3_payForLogs_3 rfl rfl ?_
  obtain ⟨x1, e2, E⟩ := gb_some E
  refine r_getI X dX3_payForLogs_4 f_X3_78 e2 ?_
  refine r_icmp_ge X 39 dX3_payForLogs_7 (by decide) (fun c3 => ?_) (fun c3 => ?_)
  · rw [if_pos c3] at E
    cases E
    exact r_pick (by rfl : lpick [(0, .ref a0), (1, .int s0)] [0] = _) (hx _ rfl)
  · rw [if_neg c3] at E
    refine r_aload_n X 0 dX3_payForLogs_10 rfl rfl ?_
    refine r_dup X dX3_payForLogs_11 rfl ?_
    obtain ⟨x4, e5, E⟩ := gb_some E
    refine r_getI X dX3_payForLogs_12 f_X3_60 e5 ?_
    refine r_aload_n X 0 dX3_payForLogs_15 rfl rfl ?_
    obtain ⟨x6, e7, E⟩ := gb_some E
    refine r_getR X dX3_payForLogs_16 f_X3_29 e7 ?_
    refine r_iload_n X 1 dX3_payForLogs_19 rfl rfl ?_
    obtain ⟨x8, e9, E⟩ := gb_some E
    refine r_aald X 4 (by decide) rfl dX3_payForLogs_20 e9 ?_
    refine r_aload_n X 0 dX3_payForLogs_21 rfl rfl ?_
    refine r_iload_n X 1 dX3_payForLogs_22 rfl rfl ?_
    obtain ⟨u13, e14, E⟩ := gb_some E
    obtain ⟨r10, g11, e12, E⟩ := cb_some E
    refine r_callV0 X hl0 (ci := 3) dX3_payForLogs_23 y_X3_partOfLogs m_X3_218 rfl rfl e14 (t_x3_partOfLogs (l := l) (G := G) e12) rfl rfl (Nat.le_of_ble_eq_true rfl) (by decide) ?_
    obtain ⟨u18, e19, E⟩ := gb_some E
    obtain ⟨r15, g16, e17, E⟩ := cb_some E
    refine r_callV0 X hl0 (ci := 1) dX3_payForLogs_26 y_X1_payOut m_X3_215 rfl rfl e19 (t_x1_payOut (l := l) (G := G) e17) rfl rfl (Nat.le_of_ble_eq_true rfl) (by decide) ?_
    refine r_iadd X dX3_payForLogs_29 ?_
    obtain ⟨g20, e21, E⟩ := gb_some E
    refine r_put X dX3_payForLogs_30 f_X3_60 rfl rfl e21 ?_
    refine r_iinc X (v := (s0 + 1)) (L1 := [(1, .int (s0 + 1)), (0, .ref a0)]) dX3_payForLogs_33 rfl rfl (by decide) rfl ?_
    refine r_goto X 2 dX3_payForLogs_36 (by decide) ?_
    cases E
    exact r_pick (by rfl : lpick [(1, .int (s0 + 1)), (0, .ref a0)] [1, 0] = _) (hc _ rfl)
set_option maxHeartbeats 4000000 in
theorem t_x3_payForLogs_l2_r {l : Launch} {G : GG} {M : MC} (X : CX M G cX3_payForLogs 2 RX3 ⟨2, 0, 0, 83⟩) (hl0 : M.2.1 = l) (hr : (mM M).sig.returnType = none) (hnm : (mM M).name = yX3_payForLogs.name) {Q : State → Prop} {kc ks : Nat} {a0 : Nat} : ∀ (n : Nat) (s0 : Int32) (g : AH) (t : (Unit)) (g1 : AH), loopX (x3_payForLogs_l2 a0) n s0 g = some (t, g1) → WW M G 2 Q kc ks g1 39 [(0, .ref a0)] [] → WW M G 2 Q kc ks g 2 [(0, .ref a0), (1, .int s0)] [] :=
  loop_cps (K := fun t g1 => WW M G 2 Q kc ks g1 39 [(0, .ref a0)] []) (fun _ s0 g => WW M G 2 Q kc ks g 2 [(0, .ref a0), (1, .int s0)] []) (fun n s0 g st g1 E hc hx => t_x3_payForLogs_l2 X hl0 hr hnm hc hx E)
set_option maxHeartbeats 4000000 in
set_option maxRecDepth 100000 in
theorem t_x3_payForLogs_b {l : Launch} {G : GG} {M : MC} (X : CX M G cX3_payForLogs 2 RX3 ⟨2, 0, 0, 83⟩) (hl0 : M.2.1 = l) (hr : (mM M).sig.returnType = none) (hnm : (mM M).name = yX3_payForLogs.name) {p : Nat} {g : AH} {r : Unit} {g1 : AH} (E : x3_payForLogs p g = some (r, g1)) : WW M G 2 (RQ M G none g1 0 0) 0 0 g 0 [(0, .ref p)] [] := by
  unfold x3_payForLogs at E
  refine r_iconst X (v := 0) dX3_payForLogs_0 (by decide) ?_
  refine r_istore_n X 1 (L1 := [(1, .int 0), (0, .ref p)]) dX3_payForLogs_1 rfl (by decide) rfl ?_
  obtain ⟨t1, g2, e3, E⟩ := cb_some E
  refine r_pick (by rfl : lpick [(1, .int 0), (0, .ref p)] [1, 0] = _) (t_x3_payForLogs_l2_r X hl0 hr hnm _ _ _ _ _ e3 ?_)
  refine r_aload_n X 0 dX3_payForLogs_39 rfl rfl ?_
  refine r_iconst X (v := 0) dX3_payForLogs_40 (by decide) ?_
  obtain ⟨g4, e5, E⟩ := gb_some E
  refine r_put X dX3_payForLogs_41 f_X3_66 rfl rfl e5 ?_
  cases E
  exact r_vret X hr dX3_payForLogs_44 (by decide) (by decide)
theorem t_x3_payForLogs {l : Launch} {G : GG} {p : Nat} {g : AH} {r : Unit} {g1 : AH} (E : x3_payForLogs p g = some (r, g1)) : Ct l G yX3_payForLogs cX3_payForLogs 2 none ⟨2, 0, 0, 83⟩ [.ref p] g none g1 :=
  ct_of (L0 := [(0, .ref p)]) y_X3_payForLogs rfl (Nat.le_of_ble_eq_true rfl) fun M hl0 X hr hnm => t_x3_payForLogs_b X hl0 hr hnm E
set_option maxHeartbeats 4000000 in
set_option maxRecDepth 100000 in
theorem t_x1_feeForBlanket_b {l : Launch} {G : GG} {M : MC} (X : CX M G cX1_feeForBlanket 1 RX1 ⟨1, 0, 0, 60⟩) (hl0 : M.2.1 = l) (hr : (mM M).sig.returnType = (some .int)) (hnm : (mM M).name = yX1_feeForBlanket.name) {p : Nat} {g : AH} {r : Int32} {g1 : AH} (E : x1_feeForBlanket p g = some (r, g1)) : WW M G 1 (RQ M G (some (.int r)) g1 0 0) 0 0 g 0 [(0, .ref p)] [] := by
  unfold x1_feeForBlanket at E
  refine r_aload_n X 0 dX1_feeForBlanket_0 rfl rfl ?_
  obtain ⟨x1, e2, E⟩ := gb_some E
  refine r_getI X dX1_feeForBlanket_1 f_X1_34 e2 ?_
  refine r_iconst X (v := 2) dX1_feeForBlanket_4 (by decide) ?_
  refine r_iadd X dX1_feeForBlanket_5 ?_
  refine r_iconst X (v := 3) dX1_feeForBlanket_6 (by decide) ?_
  refine r_idiv X dX1_feeForBlanket_7 (by decide) ?_
  cases E
  exact r_iret X hr dX1_feeForBlanket_8 (by decide) (by decide)
theorem t_x1_feeForBlanket {l : Launch} {G : GG} {p : Nat} {g : AH} {r : Int32} {g1 : AH} (E : x1_feeForBlanket p g = some (r, g1)) : Ct l G yX1_feeForBlanket cX1_feeForBlanket 1 (some .int) ⟨1, 0, 0, 60⟩ [.ref p] g (some (.int r)) g1 :=
  ct_of (L0 := [(0, .ref p)]) y_X1_feeForBlanket rfl (Nat.le_of_ble_eq_true rfl) fun M hl0 X hr hnm => t_x1_feeForBlanket_b X hl0 hr hnm E
set_option maxHeartbeats 4000000 in
set_option maxRecDepth 100000 in
theorem t_x3_payForBlankets_l4 {l : Launch} {G : GG} {M : MC} (X : CX M G cX3_payForBlankets 5 RX3 ⟨2, 0, 0, 82⟩) (hl0 : M.2.1 = l) (hr : (mM M).sig.returnType = none) (hnm : (mM M).name = yX3_payForBlankets.name) {Q : State → Prop} {kc ks : Nat} {s9 : ((Int32 × Int32) ⊕ (Int32))} {g1 : AH} {a0 : Nat} {s0 : Int32 × Int32} (hc : ∀ s1, s9 = .inl s1 → WW M G 5 Q kc ks g1 4 [(0, .ref a0), (1, .int s1.1), (2, .int s1.2)] []) (hx : ∀ t, s9 = .inr t → WW M G 5 Q kc ks g1 39 [(0, .ref a0), (1, .int t)] []) {g : AH} (E : x3_payForBlankets_l4 a0 s0 g = some (s9, g1)) : WW M G 5 Q kc ks g 4 [(0, .ref a0), (1, .int s0.1), (2, .int s0.2)] [] := by
  unfold x3_payForBlankets_l4 at E
  refine r_iload_n X 2 dX3_payForBlankets_4 rfl rfl ?_
  refine r_aload_n X 0 dX3_payForBlankets_5 rfl rfl ?_
  obtain ⟨x1, e2, E⟩ := gb_some E
  refine r_getI X dX3_payForBlankets_6 f_X3_78 e2 ?_
  refine r_icmp_ge X 39 dX3_payForBlankets_9 (by decide) (fun c3 => ?_) (fun c3 => ?_)
  · rw [if_pos c3] at E
    cases E
    exact r_pick (by rfl : lpick [(0, .ref a0), (1, .int s0.1), (2, .int s0.2)] [0, 1] = _) (hx _ rfl)
  · rw [if_neg c3] at E
    refine r_iload_n X 1 dX3_payForBlankets_12 rfl rfl ?_
    refine r_aload_n X 0 dX3_payForBlankets_13 rfl rfl ?_
    obtain ⟨x4, e5, E⟩ := gb_some E
    refine r_getR X dX3_payForBlankets_14 f_X3_29 e5 ?_
    refine r_iload_n X 2 dX3_payForBlankets_17 rfl rfl ?_
    obtain ⟨x6, e7, E⟩ := gb_some E
    refine r_aald X 4 (by decide) rfl dX3_payForBlankets_18 e7 ?_
    refine r_aload_n X 0 dX3_payForBlankets_19 rfl rfl ?_
    obtain ⟨x8, e9, E⟩ := gb_some E
    refine r_getR X dX3_payForBlankets_20 f_X3_29 e9 ?_
    refine r_iload_n X 2 dX3_payForBlankets_23 rfl rfl ?_
    obtain ⟨x10, e11, E⟩ := gb_some E
    refine r_aald X 4 (by decide) rfl dX3_payForBlankets_24 e11 ?_
    obtain ⟨u15, e16, E⟩ := gb_some E
    obtain ⟨r12, g13, e14, E⟩ := cb_some E
    refine r_callV0 X hl0 (ci := 1) dX3_payForBlankets_25 y_X1_feeForBlanket m_X3_221 rfl rfl e16 (t_x1_feeForBlanket (l := l) (G := G) e14) rfl rfl (Nat.le_of_ble_eq_true rfl) (by decide) ?_
    obtain ⟨u20, e21, E⟩ := gb_some E
    obtain ⟨r17, g18, e19, E⟩ := cb_some E
    refine r_callV0 X hl0 (ci := 1) dX3_payForBlankets_28 y_X1_payOut m_X3_215 rfl rfl e21 (t_x1_payOut (l := l) (G := G) e19) rfl rfl (Nat.le_of_ble_eq_true rfl) (by decide) ?_
    refine r_iadd X dX3_payForBlankets_31 ?_
    refine r_istore_n X 1 (L1 := [(1, .int (s0.1 + r17)), (0, .ref a0), (2, .int s0.2)]) dX3_payForBlankets_32 rfl (by decide) rfl ?_
    refine r_iinc X (v := (s0.2 + 1)) (L1 := [(2, .int (s0.2 + 1)), (1, .int (s0.1 + r17)), (0, .ref a0)]) dX3_payForBlankets_33 rfl rfl (by decide) rfl ?_
    refine r_goto X 4 dX3_payForBlankets_36 (by decide) ?_
    cases E
    exact r_pick (by rfl : lpick [(2, .int (s0.2 + 1)), (1, .int (s0.1 + r17)), (0, .ref a0)] [2, 1, 0] = _) (hc _ rfl)
set_option maxHeartbeats 4000000 in
theorem t_x3_payForBlankets_l4_r {l : Launch} {G : GG} {M : MC} (X : CX M G cX3_payForBlankets 5 RX3 ⟨2, 0, 0, 82⟩) (hl0 : M.2.1 = l) (hr : (mM M).sig.returnType = none) (hnm : (mM M).name = yX3_payForBlankets.name) {Q : State → Prop} {kc ks : Nat} {a0 : Nat} : ∀ (n : Nat) (s0 : Int32 × Int32) (g : AH) (t : (Int32)) (g1 : AH), loopX (x3_payForBlankets_l4 a0) n s0 g = some (t, g1) → WW M G 5 Q kc ks g1 39 [(0, .ref a0), (1, .int t)] [] → WW M G 5 Q kc ks g 4 [(0, .ref a0), (1, .int s0.1), (2, .int s0.2)] [] :=
  loop_cps (K := fun t g1 => WW M G 5 Q kc ks g1 39 [(0, .ref a0), (1, .int t)] []) (fun _ s0 g => WW M G 5 Q kc ks g 4 [(0, .ref a0), (1, .int s0.1), (2, .int s0.2)] []) (fun n s0 g st g1 E hc hx => t_x3_payForBlankets_l4 X hl0 hr hnm hc hx E)
set_option maxHeartbeats 4000000 in
set_option maxRecDepth 100000 in
theorem t_x3_payForBlankets_j99_60 {l : Launch} {G : GG} {M : MC} (X : CX M G cX3_payForBlankets 5 RX3 ⟨2, 0, 0, 82⟩) (hl0 : M.2.1 = l) (hr : (mM M).sig.returnType = none) (hnm : (mM M).name = yX3_payForBlankets.name) {Q : State → Prop} {kc ks : Nat} {s9 : ((Int32) ⊕ (Unit))} {g1 : AH} {a0 : Nat} {a1 : Int32} {a2 : Int32} {a3 : Int32} {a4 : Int32} (hc : ∀ s1, s9 = .inl s1 → WW M G 5 Q kc ks g1 60 [(0, .ref a0), (1, .int a1), (2, .int a2), (3, .int a3), (4, .int s1)] []) (hx : ∀ t, s9 = .inr t → WW M G 5 Q kc ks g1 105 [(0, .ref a0), (1, .int a1), (2, .int a2), (3, .int a3)] []) {g : AH} (E : x3_payForBlankets_j99_60 a0 a1 a2 a3 a4 g = some (s9, g1)) : WW M G 5 Q kc ks g 99 [(0, .ref a0), (1, .int a1), (2, .int a2), (3, .int a3), (4, .int a4)] [] := by
  unfold x3_payForBlankets_j99_60 at E
  refine r_iinc X (v := (a4 + 1)) (L1 := [(4, .int (a4 + 1)), (0, .ref a0), (1, .int a1), (2, .int a2), (3, .int a3)]) dX3_payForBlankets_99 rfl rfl (by decide) rfl ?_
  refine r_goto X 60 dX3_payForBlankets_102 (by decide) ?_
  cases E
  exact r_pick (by rfl : lpick [(4, .int (a4 + 1)), (0, .ref a0), (1, .int a1), (2, .int a2), (3, .int a3)] [1, 2, 3, 4, 0] = _) (hc _ rfl)
set_option maxHeartbeats 4000000 in
set_option maxRecDepth 100000 in
theorem t_x3_payForBlankets_l60 {l : Launch} {G : GG} {M : MC} (X : CX M G cX3_payForBlankets 5 RX3 ⟨2, 0, 0, 82⟩) (hl0 : M.2.1 = l) (hr : (mM M).sig.returnType = none) (hnm : (mM M).name = yX3_payForBlankets.name) {Q : State → Prop} {kc ks : Nat} {s9 : ((Int32) ⊕ (Unit))} {g1 : AH} {a0 : Nat} {a1 : Int32} {a2 : Int32} {a3 : Int32} {s0 : Int32} (hc : ∀ s1, s9 = .inl s1 → WW M G 5 Q kc ks g1 60 [(0, .ref a0), (1, .int a1), (2, .int a2), (3, .int a3), (4, .int s1)] []) (hx : ∀ t, s9 = .inr t → WW M G 5 Q kc ks g1 105 [(0, .ref a0), (1, .int a1), (2, .int a2), (3, .int a3)] []) {g : AH} (E : x3_payForBlankets_l60 a0 a1 a2 a3 s0 g = some (s9, g1)) : WW M G 5 Q kc ks g 60 [(0, .ref a0), (1, .int a1), (2, .int a2), (3, .int a3), (4, .int s0)] [] := by
  unfold x3_payForBlankets_l60 at E
  refine r_iload X dX3_payForBlankets_60 rfl ?_
  refine r_aload_n X 0 dX3_payForBlankets_62 rfl rfl ?_
  obtain ⟨x1, e2, E⟩ := gb_some E
  refine r_getI X dX3_payForBlankets_63 f_X3_78 e2 ?_
  refine r_icmp_ge X 105 dX3_payForBlankets_66 (by decide) (fun c3 => ?_) (fun c3 => ?_)
  · rw [if_pos c3] at E
    cases E
    exact r_pick (by rfl : lpick [(0, .ref a0), (1, .int a1), (2, .int a2), (3, .int a3), (4, .int s0)] [0, 1, 2, 3] = _) (hx _ rfl)
  · rw [if_neg c3] at E
    refine r_aload_n X 0 dX3_payForBlankets_69 rfl rfl ?_
    obtain ⟨x4, e5, E⟩ := gb_some E
    refine r_getR X dX3_payForBlankets_70 f_X3_29 e5 ?_
    refine r_iload X dX3_payForBlankets_73 rfl ?_
    obtain ⟨x6, e7, E⟩ := gb_some E
    refine r_aald X 4 (by decide) rfl dX3_payForBlankets_75 e7 ?_
    obtain ⟨x8, e9, E⟩ := gb_some E
    refine r_getI X dX3_payForBlankets_76 f_X3_94 e9 ?_
    refine r_iconst X (v := (-1)) dX3_payForBlankets_79 (by decide) ?_
    refine r_icmp_ne X 99 dX3_payForBlankets_80 (by decide) (fun c10 => ?_) (fun c10 => ?_)
    · rw [if_neg c10] at E
      exact r_pick (by rfl : lpick [(0, .ref a0), (1, .int a1), (2, .int a2), (3, .int a3), (4, .int s0)] [0, 1, 2, 3, 4] = _) (t_x3_payForBlankets_j99_60 X hl0 hr hnm hc hx E)
    · rw [if_pos c10] at E
      refine r_aload_n X 0 dX3_payForBlankets_83 rfl rfl ?_
      obtain ⟨x11, e12, E⟩ := gb_some E
      refine r_getR X dX3_payForBlankets_84 f_X3_29 e12 ?_
      refine r_iload X dX3_payForBlankets_87 rfl ?_
      obtain ⟨x13, e14, E⟩ := gb_some E
      refine r_aald X 4 (by decide) rfl dX3_payForBlankets_89 e14 ?_
      refine r_dup X dX3_payForBlankets_90 rfl ?_
      obtain ⟨x15, e16, E⟩ := gb_some E
      refine r_getI X dX3_payForBlankets_91 f_X3_188 e16 ?_
      refine r_iload_n X 3 dX3_payForBlankets_94 rfl rfl ?_
      refine r_iadd X dX3_payForBlankets_95 ?_
      obtain ⟨g17, e18, E⟩ := gb_some E
      refine r_put X dX3_payForBlankets_96 f_X3_188 rfl rfl e18 ?_
      exact r_pick (by rfl : lpick [(0, .ref a0), (1, .int a1), (2, .int a2), (3, .int a3), (4, .int s0)] [0, 1, 2, 3, 4] = _) (t_x3_payForBlankets_j99_60 X hl0 hr hnm hc hx E)
set_option maxHeartbeats 4000000 in
theorem t_x3_payForBlankets_l60_r {l : Launch} {G : GG} {M : MC} (X : CX M G cX3_payForBlankets 5 RX3 ⟨2, 0, 0, 82⟩) (hl0 : M.2.1 = l) (hr : (mM M).sig.returnType = none) (hnm : (mM M).name = yX3_payForBlankets.name) {Q : State → Prop} {kc ks : Nat} {a0 : Nat} {a1 : Int32} {a2 : Int32} {a3 : Int32} : ∀ (n : Nat) (s0 : Int32) (g : AH) (t : (Unit)) (g1 : AH), loopX (x3_payForBlankets_l60 a0 a1 a2 a3) n s0 g = some (t, g1) → WW M G 5 Q kc ks g1 105 [(0, .ref a0), (1, .int a1), (2, .int a2), (3, .int a3)] [] → WW M G 5 Q kc ks g 60 [(0, .ref a0), (1, .int a1), (2, .int a2), (3, .int a3), (4, .int s0)] [] :=
  loop_cps (K := fun t g1 => WW M G 5 Q kc ks g1 105 [(0, .ref a0), (1, .int a1), (2, .int a2), (3, .int a3)] []) (fun _ s0 g => WW M G 5 Q kc ks g 60 [(0, .ref a0), (1, .int a1), (2, .int a2), (3, .int a3), (4, .int s0)] []) (fun n s0 g st g1 E hc hx => t_x3_payForBlankets_l60 X hl0 hr hnm hc hx E)
set_option maxHeartbeats 4000000 in
set_option maxRecDepth 100000 in
theorem t_x3_payForBlankets_j56 {l : Launch} {G : GG} {M : MC} (X : CX M G cX3_payForBlankets 5 RX3 ⟨2, 0, 0, 82⟩) (hl0 : M.2.1 = l) (hr : (mM M).sig.returnType = none) (hnm : (mM M).name = yX3_payForBlankets.name) {a0 : Nat} {a1 : Int32} {a2 : Int32} {s0 : Int32} {g : AH} {r : Unit} {g1 : AH} (E : x3_payForBlankets_j56 a0 a1 a2 s0 g = some (r, g1)) : WW M G 5 (RQ M G none g1 0 0) 0 0 g 56 [(0, .ref a0), (1, .int a1), (2, .int a2)] [.int s0] := by
  unfold x3_payForBlankets_j56 at E
  refine r_istore_n X 3 (L1 := [(3, .int s0), (0, .ref a0), (1, .int a1), (2, .int a2)]) dX3_payForBlankets_56 rfl (by decide) rfl ?_
  refine r_iconst X (v := 0) dX3_payForBlankets_57 (by decide) ?_
  refine r_istore X (L1 := [(4, .int 0), (3, .int s0), (0, .ref a0), (1, .int a1), (2, .int a2)]) dX3_payForBlankets_58 (by decide) rfl ?_
  obtain ⟨t1, g2, e3, E⟩ := cb_some E
  refine r_pick (by rfl : lpick [(4, .int 0), (3, .int s0), (0, .ref a0), (1, .int a1), (2, .int a2)] [2, 3, 4, 1, 0] = _) (t_x3_payForBlankets_l60_r X hl0 hr hnm _ _ _ _ _ e3 ?_)
  refine r_aload_n X 0 dX3_payForBlankets_105 rfl rfl ?_
  refine r_dup X dX3_payForBlankets_106 rfl ?_
  obtain ⟨x4, e5, E⟩ := gb_some E
  refine r_getI X dX3_payForBlankets_107 f_X3_60 e5 ?_
  refine r_iload_n X 1 dX3_payForBlankets_110 rfl rfl ?_
  refine r_iload_n X 3 dX3_payForBlankets_111 rfl rfl ?_
  refine r_iload_n X 2 dX3_payForBlankets_112 rfl rfl ?_
  refine r_imul X dX3_payForBlankets_113 ?_
  refine r_isub X dX3_payForBlankets_114 ?_
  refine r_iadd X dX3_payForBlankets_115 ?_
  obtain ⟨g6, e7, E⟩ := gb_some E
  refine r_put X dX3_payForBlankets_116 f_X3_60 rfl rfl e7 ?_
  cases E
  exact r_vret X hr dX3_payForBlankets_119 (by decide) (by decide)
set_option maxHeartbeats 4000000 in
set_option maxRecDepth 100000 in
theorem t_x3_payForBlankets_b {l : Launch} {G : GG} {M : MC} (X : CX M G cX3_payForBlankets 5 RX3 ⟨2, 0, 0, 82⟩) (hl0 : M.2.1 = l) (hr : (mM M).sig.returnType = none) (hnm : (mM M).name = yX3_payForBlankets.name) {p : Nat} {g : AH} {r : Unit} {g1 : AH} (E : x3_payForBlankets p g = some (r, g1)) : WW M G 5 (RQ M G none g1 0 0) 0 0 g 0 [(0, .ref p)] [] := by
  unfold x3_payForBlankets at E
  refine r_iconst X (v := 0) dX3_payForBlankets_0 (by decide) ?_
  refine r_istore_n X 1 (L1 := [(1, .int 0), (0, .ref p)]) dX3_payForBlankets_1 rfl (by decide) rfl ?_
  refine r_iconst X (v := 0) dX3_payForBlankets_2 (by decide) ?_
  refine r_istore_n X 2 (L1 := [(2, .int 0), (1, .int 0), (0, .ref p)]) dX3_payForBlankets_3 rfl (by decide) rfl ?_
  obtain ⟨t1, g2, e3, E⟩ := cb_some E
  refine r_pick (by rfl : lpick [(2, .int 0), (1, .int 0), (0, .ref p)] [2, 1, 0] = _) (t_x3_payForBlankets_l4_r X hl0 hr hnm _ _ _ _ _ e3 ?_)
  refine r_aload_n X 0 dX3_payForBlankets_39 rfl rfl ?_
  obtain ⟨u7, e8, E⟩ := gb_some E
  obtain ⟨r4, g5, e6, E⟩ := cb_some E
  refine r_callV0 X hl0 (ci := 3) dX3_payForBlankets_40 y_X3_hikersWithoutBlanket m_X3_140 rfl rfl e8 (t_x3_hikersWithoutBlanket (l := l) (G := G) e6) rfl rfl (Nat.le_of_ble_eq_true rfl) (by decide) ?_
  refine r_istore_n X 2 (L1 := [(2, .int r4), (0, .ref p), (1, .int t1)]) dX3_payForBlankets_43 rfl (by decide) rfl ?_
  refine r_iload_n X 2 dX3_payForBlankets_44 rfl rfl ?_
  refine r_iconst X (v := 1) dX3_payForBlankets_45 (by decide) ?_
  refine r_icmp_ge X 53 dX3_payForBlankets_46 (by decide) (fun c9 => ?_) (fun c9 => ?_)
  · rw [if_pos c9] at E
    refine r_iload_n X 1 dX3_payForBlankets_53 rfl rfl ?_
    refine r_iload_n X 2 dX3_payForBlankets_54 rfl rfl ?_
    by_cases c10 : r4 = 0
    · rw [if_pos c10] at E; cases E
    rw [if_neg c10] at E
    refine r_idiv X dX3_payForBlankets_55 c10 ?_
    exact r_pick (by rfl : lpick [(2, .int r4), (0, .ref p), (1, .int t1)] [1, 2, 0] = _) (t_x3_payForBlankets_j56 X hl0 hr hnm E)
  · rw [if_neg c9] at E
    refine r_iconst X (v := 0) dX3_payForBlankets_49 (by decide) ?_
    refine r_goto X 56 dX3_payForBlankets_50 (by decide) ?_
    exact r_pick (by rfl : lpick [(2, .int r4), (0, .ref p), (1, .int t1)] [1, 2, 0] = _) (t_x3_payForBlankets_j56 X hl0 hr hnm E)
theorem t_x3_payForBlankets {l : Launch} {G : GG} {p : Nat} {g : AH} {r : Unit} {g1 : AH} (E : x3_payForBlankets p g = some (r, g1)) : Ct l G yX3_payForBlankets cX3_payForBlankets 5 none ⟨2, 0, 0, 82⟩ [.ref p] g none g1 :=
  ct_of (L0 := [(0, .ref p)]) y_X3_payForBlankets rfl (Nat.le_of_ble_eq_true rfl) fun M hl0 X hr hnm => t_x3_payForBlankets_b X hl0 hr hnm E
set_option maxHeartbeats 4000000 in
set_option maxRecDepth 100000 in
theorem t_x3_endHour_b {l : Launch} {G : GG} {M : MC} (X : CX M G cX3_endHour 1 RX3 ⟨3, 0, 0, 106⟩) (hl0 : M.2.1 = l) (hr : (mM M).sig.returnType = none) (hnm : (mM M).name = yX3_endHour.name) {p : Nat} {g : AH} {r : Unit} {g1 : AH} (E : x3_endHour p g = some (r, g1)) : WW M G 1 (RQ M G none g1 0 0) 0 0 g 0 [(0, .ref p)] [] := by
  unfold x3_endHour at E
  refine r_aload_n X 0 dX3_endHour_0 rfl rfl ?_
  refine r_dup X dX3_endHour_1 rfl ?_
  obtain ⟨x1, e2, E⟩ := gb_some E
  refine r_getI X dX3_endHour_2 f_X3_51 e2 ?_
  refine r_iconst X (v := 1) dX3_endHour_5 (by decide) ?_
  refine r_iadd X dX3_endHour_6 ?_
  obtain ⟨g3, e4, E⟩ := gb_some E
  refine r_put X dX3_endHour_7 f_X3_51 rfl rfl e4 ?_
  refine r_aload_n X 0 dX3_endHour_10 rfl rfl ?_
  obtain ⟨x5, e6, E⟩ := gb_some E
  refine r_getI X dX3_endHour_11 f_X3_51 e6 ?_
  refine r_bipush X (v := 8) dX3_endHour_14 (by decide) ?_
  refine r_irem X dX3_endHour_16 (by decide) ?_
  refine r_if_ne X 32 dX3_endHour_17 (by decide) (fun c8 => ?_) (fun c8 => ?_)
  · rw [if_neg c8] at E
    cases E
    exact r_vret X hr dX3_endHour_32 (by decide) (by decide)
  · rw [if_pos c8] at E
    refine r_aload_n X 0 dX3_endHour_20 rfl rfl ?_
    obtain ⟨u12, e13, E⟩ := gb_some E
    obtain ⟨r9, g10, e11, E⟩ := cb_some E
    refine r_callV0 X hl0 (ci := 3) dX3_endHour_21 y_X3_payForNight m_X3_206 rfl rfl e13 (t_x3_payForNight (l := l) (G := G) e11) rfl rfl (Nat.le_of_ble_eq_true rfl) (by decide) ?_
    refine r_aload_n X 0 dX3_endHour_24 rfl rfl ?_
    obtain ⟨u17, e18, E⟩ := gb_some E
    obtain ⟨r14, g15, e16, E⟩ := cb_some E
    refine r_callV0 X hl0 (ci := 3) dX3_endHour_25 y_X3_payForLogs m_X3_209 rfl rfl e18 (t_x3_payForLogs (l := l) (G := G) e16) rfl rfl (Nat.le_of_ble_eq_true rfl) (by decide) ?_
    refine r_aload_n X 0 dX3_endHour_28 rfl rfl ?_
    obtain ⟨u22, e23, E⟩ := gb_some E
    obtain ⟨r19, g20, e21, E⟩ := cb_some E
    refine r_callV0 X hl0 (ci := 3) dX3_endHour_29 y_X3_payForBlankets m_X3_212 rfl rfl e23 (t_x3_payForBlankets (l := l) (G := G) e21) rfl rfl (Nat.le_of_ble_eq_true rfl) (by decide) ?_
    cases E
    exact r_vret X hr dX3_endHour_32 (by decide) (by decide)
theorem t_x3_endHour {l : Launch} {G : GG} {p : Nat} {g : AH} {r : Unit} {g1 : AH} (E : x3_endHour p g = some (r, g1)) : Ct l G yX3_endHour cX3_endHour 1 none ⟨3, 0, 0, 106⟩ [.ref p] g none g1 :=
  ct_of (L0 := [(0, .ref p)]) y_X3_endHour rfl (Nat.le_of_ble_eq_true rfl) fun M hl0 X hr hnm => t_x3_endHour_b X hl0 hr hnm E
set_option maxHeartbeats 4000000 in
set_option maxRecDepth 100000 in
theorem t_x3_passTime_l7 {l : Launch} {G : GG} {M : MC} (X : CX M G cX3_passTime 4 RX3 ⟨4, 0, 0, 128⟩) (hl0 : M.2.1 = l) (hr : (mM M).sig.returnType = (some .int)) (hnm : (mM M).name = yX3_passTime.name) {Q : State → Prop} {kc ks : Nat} {s9 : ((Int32) ⊕ (Unit))} {g1 : AH} {a0 : Nat} {a1 : Int32} {a2 : Int32} {s0 : Int32} (hc : ∀ s1, s9 = .inl s1 → WW M G 4 Q kc ks g1 7 [(0, .ref a0), (1, .int a1), (2, .int a2), (3, .int s1)] []) (hx : ∀ t, s9 = .inr t → WW M G 4 Q kc ks g1 34 [(0, .ref a0), (2, .int a2)] []) {g : AH} (E : x3_passTime_l7 a0 a1 a2 s0 g = some (s9, g1)) : WW M G 4 Q kc ks g 7 [(0, .ref a0), (1, .int a1), (2, .int a2), (3, .int s0)] [] := by
  unfold x3_passTime_l7 at E
  refine r_iload_n X 3 dX3_passTime_7 rfl rfl ?_
  refine r_iload_n X 1 dX3_passTime_8 rfl rfl ?_
  refine r_icmp_ge X 34 dX3_passTime_9 (by decide) (fun c1 => ?_) (fun c1 => ?_)
  · rw [if_pos c1] at E
    cases E
    exact r_pick (by rfl : lpick [(0, .ref a0), (1, .int a1), (2, .int a2), (3, .int s0)] [0, 2] = _) (hx _ rfl)
  · rw [if_neg c1] at E
    refine r_aload_n X 0 dX3_passTime_12 rfl rfl ?_
    obtain ⟨u5, e6, E⟩ := gb_some E
    obtain ⟨r2, g3, e4, E⟩ := cb_some E
    refine r_callV0 X hl0 (ci := 3) dX3_passTime_13 y_X3_burnLogs m_X3_197 rfl rfl e6 (t_x3_burnLogs (l := l) (G := G) e4) rfl rfl (Nat.le_of_ble_eq_true rfl) (by decide) ?_
    refine r_aload_n X 0 dX3_passTime_16 rfl rfl ?_
    obtain ⟨u10, e11, E⟩ := gb_some E
    obtain ⟨r7, g8, e9, E⟩ := cb_some E
    refine r_callV0 X hl0 (ci := 3) dX3_passTime_17 y_X3_measure m_X3_48 rfl rfl e11 (t_x3_measure (l := l) (G := G) e9) rfl rfl (Nat.le_of_ble_eq_true rfl) (by decide) ?_
    refine r_aload_n X 0 dX3_passTime_20 rfl rfl ?_
    obtain ⟨u15, e16, E⟩ := gb_some E
    obtain ⟨r12, g13, e14, E⟩ := cb_some E
    refine r_callV0 X hl0 (ci := 3) dX3_passTime_21 y_X3_noteWhatHappens m_X3_200 rfl rfl e16 (t_x3_noteWhatHappens (l := l) (G := G) e14) rfl rfl (Nat.le_of_ble_eq_true rfl) (by decide) ?_
    refine r_aload_n X 0 dX3_passTime_24 rfl rfl ?_
    obtain ⟨u20, e21, E⟩ := gb_some E
    obtain ⟨r17, g18, e19, E⟩ := cb_some E
    refine r_callV0 X hl0 (ci := 3) dX3_passTime_25 y_X3_endHour m_X3_203 rfl rfl e21 (t_x3_endHour (l := l) (G := G) e19) rfl rfl (Nat.le_of_ble_eq_true rfl) (by decide) ?_
    refine r_iinc X (v := (s0 + 1)) (L1 := [(3, .int (s0 + 1)), (0, .ref a0), (1, .int a1), (2, .int a2)]) dX3_passTime_28 rfl rfl (by decide) rfl ?_
    refine r_goto X 7 dX3_passTime_31 (by decide) ?_
    cases E
    exact r_pick (by rfl : lpick [(3, .int (s0 + 1)), (0, .ref a0), (1, .int a1), (2, .int a2)] [1, 2, 3, 0] = _) (hc _ rfl)
set_option maxHeartbeats 4000000 in
theorem t_x3_passTime_l7_r {l : Launch} {G : GG} {M : MC} (X : CX M G cX3_passTime 4 RX3 ⟨4, 0, 0, 128⟩) (hl0 : M.2.1 = l) (hr : (mM M).sig.returnType = (some .int)) (hnm : (mM M).name = yX3_passTime.name) {Q : State → Prop} {kc ks : Nat} {a0 : Nat} {a1 : Int32} {a2 : Int32} : ∀ (n : Nat) (s0 : Int32) (g : AH) (t : (Unit)) (g1 : AH), loopX (x3_passTime_l7 a0 a1 a2) n s0 g = some (t, g1) → WW M G 4 Q kc ks g1 34 [(0, .ref a0), (2, .int a2)] [] → WW M G 4 Q kc ks g 7 [(0, .ref a0), (1, .int a1), (2, .int a2), (3, .int s0)] [] :=
  loop_cps (K := fun t g1 => WW M G 4 Q kc ks g1 34 [(0, .ref a0), (2, .int a2)] []) (fun _ s0 g => WW M G 4 Q kc ks g 7 [(0, .ref a0), (1, .int a1), (2, .int a2), (3, .int s0)] []) (fun n s0 g st g1 E hc hx => t_x3_passTime_l7 X hl0 hr hnm hc hx E)
set_option maxHeartbeats 4000000 in
set_option maxRecDepth 100000 in
theorem t_x3_passTime_b {l : Launch} {G : GG} {M : MC} (X : CX M G cX3_passTime 4 RX3 ⟨4, 0, 0, 128⟩) (hl0 : M.2.1 = l) (hr : (mM M).sig.returnType = (some .int)) (hnm : (mM M).name = yX3_passTime.name) {p : Nat} {b0 : Int32} {g : AH} {r : Int32} {g1 : AH} (E : x3_passTime p b0 g = some (r, g1)) : WW M G 4 (RQ M G (some (.int r)) g1 0 0) 0 0 g 0 [(0, .ref p), (1, .int b0)] [] := by
  unfold x3_passTime at E
  refine r_aload_n X 0 dX3_passTime_0 rfl rfl ?_
  obtain ⟨x1, e2, E⟩ := gb_some E
  refine r_getI X dX3_passTime_1 f_X3_60 e2 ?_
  refine r_istore_n X 2 (L1 := [(2, .int x1), (0, .ref p), (1, .int b0)]) dX3_passTime_4 rfl (by decide) rfl ?_
  refine r_iconst X (v := 0) dX3_passTime_5 (by decide) ?_
  refine r_istore_n X 3 (L1 := [(3, .int 0), (2, .int x1), (0, .ref p), (1, .int b0)]) dX3_passTime_6 rfl (by decide) rfl ?_
  obtain ⟨t3, g4, e5, E⟩ := cb_some E
  refine r_pick (by rfl : lpick [(3, .int 0), (2, .int x1), (0, .ref p), (1, .int b0)] [2, 3, 1, 0] = _) (t_x3_passTime_l7_r X hl0 hr hnm _ _ _ _ _ e5 ?_)
  refine r_aload_n X 0 dX3_passTime_34 rfl rfl ?_
  obtain ⟨u9, e10, E⟩ := gb_some E
  obtain ⟨r6, g7, e8, E⟩ := cb_some E
  refine r_callV0 X hl0 (ci := 3) dX3_passTime_35 y_X3_measure m_X3_48 rfl rfl e10 (t_x3_measure (l := l) (G := G) e8) rfl rfl (Nat.le_of_ble_eq_true rfl) (by decide) ?_
  refine r_aload_n X 0 dX3_passTime_38 rfl rfl ?_
  obtain ⟨x11, e12, E⟩ := gb_some E
  refine r_getI X dX3_passTime_39 f_X3_60 e12 ?_
  refine r_iload_n X 2 dX3_passTime_42 rfl rfl ?_
  refine r_isub X dX3_passTime_43 ?_
  cases E
  exact r_iret X hr dX3_passTime_44 (by decide) (by decide)
theorem t_x3_passTime {l : Launch} {G : GG} {p : Nat} {b0 : Int32} {g : AH} {r : Int32} {g1 : AH} (E : x3_passTime p b0 g = some (r, g1)) : Ct l G yX3_passTime cX3_passTime 4 (some .int) ⟨4, 0, 0, 128⟩ [.ref p, .int b0] g (some (.int r)) g1 :=
  ct_of (L0 := [(0, .ref p), (1, .int b0)]) y_X3_passTime rfl (Nat.le_of_ble_eq_true rfl) fun M hl0 X hr hnm => t_x3_passTime_b X hl0 hr hnm E
set_option maxHeartbeats 4000000 in
set_option maxRecDepth 100000 in
theorem t_x3_perform_b {l : Launch} {G : GG} {M : MC} (X : CX M G cX3_perform 4 RX3 ⟨5, 0, 0, 151⟩) (hl0 : M.2.1 = l) (hr : (mM M).sig.returnType = (some .int)) (hnm : (mM M).name = yX3_perform.name) {p : Nat} {b0 : Int32} {b1 : Int32} {b2 : Int32} {g : AH} {r : Int32} {g1 : AH} (E : x3_perform p b0 b1 b2 g = some (r, g1)) : WW M G 4 (RQ M G (some (.int r)) g1 0 0) 0 0 g 0 [(0, .ref p), (1, .int b0), (2, .int b1), (3, .int b2)] [] := by
  unfold x3_perform at E
  refine r_iload_n X 1 dX3_perform_0 rfl rfl ?_
  by_cases c1 : b0 = 0
  · rw [if_pos c1] at E
    refine r_tswI X 0 48 dX3_perform_1 c1 (by decide) (by decide) rfl (by decide) ?_
    refine r_aload_n X 0 dX3_perform_48 rfl rfl ?_
    refine r_iload_n X 2 dX3_perform_49 rfl rfl ?_
    refine r_iload_n X 3 dX3_perform_50 rfl rfl ?_
    obtain ⟨u5, e6, E⟩ := gb_some E
    obtain ⟨r2, g3, e4, E⟩ := cb_some E
    refine r_callV0 X hl0 (ci := 3) dX3_perform_51 y_X3_giveBlanket m_X3_251 rfl rfl e6 (t_x3_giveBlanket (l := l) (G := G) e4) rfl rfl (Nat.le_of_ble_eq_true rfl) (by decide) ?_
    refine r_pop X dX3_perform_54 rfl ?_
    refine r_aload_n X 0 dX3_perform_55 rfl rfl ?_
    obtain ⟨x7, e8, E⟩ := gb_some E
    refine r_getR X dX3_perform_56 f_X3_29 e8 ?_
    refine r_iload_n X 2 dX3_perform_59 rfl rfl ?_
    obtain ⟨x9, e10, E⟩ := gb_some E
    refine r_aald X 4 (by decide) rfl dX3_perform_60 e10 ?_
    obtain ⟨x11, e12, E⟩ := gb_some E
    refine r_getI X dX3_perform_61 f_X3_111 e12 ?_
    cases E
    exact r_iret X hr dX3_perform_64 (by decide) (by decide)
  rw [if_neg c1] at E
  by_cases c13 : b0 = 1
  · rw [if_pos c13] at E
    refine r_tswI X 1 65 dX3_perform_1 c13 (by decide) (by decide) rfl (by decide) ?_
    refine r_aload_n X 0 dX3_perform_65 rfl rfl ?_
    refine r_iload_n X 2 dX3_perform_66 rfl rfl ?_
    refine r_iconst X (v := (-1)) dX3_perform_67 (by decide) ?_
    obtain ⟨u17, e18, E⟩ := gb_some E
    obtain ⟨r14, g15, e16, E⟩ := cb_some E
    refine r_callV0 X hl0 (ci := 3) dX3_perform_68 y_X3_giveBlanket m_X3_251 rfl rfl e18 (t_x3_giveBlanket (l := l) (G := G) e16) rfl rfl (Nat.le_of_ble_eq_true rfl) (by decide) ?_
    cases E
    exact r_iret X hr dX3_perform_71 (by decide) (by decide)
  rw [if_neg c13] at E
  by_cases c19 : b0 = 2
  · rw [if_pos c19] at E
    refine r_tswI X 2 72 dX3_perform_1 c19 (by decide) (by decide) rfl (by decide) ?_
    refine r_aload_n X 0 dX3_perform_72 rfl rfl ?_
    refine r_iload_n X 2 dX3_perform_73 rfl rfl ?_
    refine r_iload_n X 3 dX3_perform_74 rfl rfl ?_
    obtain ⟨u23, e24, E⟩ := gb_some E
    obtain ⟨r20, g21, e22, E⟩ := cb_some E
    refine r_callV0 X hl0 (ci := 3) dX3_perform_75 y_X3_exchangeBlankets m_X3_254 rfl rfl e24 (t_x3_exchangeBlankets (l := l) (G := G) e22) rfl rfl (Nat.le_of_ble_eq_true rfl) (by decide) ?_
    refine r_aload_n X 0 dX3_perform_78 rfl rfl ?_
    obtain ⟨u28, e29, E⟩ := gb_some E
    obtain ⟨r25, g26, e27, E⟩ := cb_some E
    refine r_callV0 X hl0 (ci := 3) dX3_perform_79 y_X3_coldCount m_X3_258 rfl rfl e29 (t_x3_coldCount (l := l) (G := G) e27) rfl rfl (Nat.le_of_ble_eq_true rfl) (by decide) ?_
    cases E
    exact r_iret X hr dX3_perform_82 (by decide) (by decide)
  rw [if_neg c19] at E
  by_cases c30 : b0 = 3
  · rw [if_pos c30] at E
    refine r_tswI X 3 83 dX3_perform_1 c30 (by decide) (by decide) rfl (by decide) ?_
    refine r_aload_n X 0 dX3_perform_83 rfl rfl ?_
    refine r_iload_n X 2 dX3_perform_84 rfl rfl ?_
    refine r_iload_n X 3 dX3_perform_85 rfl rfl ?_
    obtain ⟨u34, e35, E⟩ := gb_some E
    obtain ⟨r31, g32, e33, E⟩ := cb_some E
    refine r_callV0 X hl0 (ci := 3) dX3_perform_86 y_X3_moveTo m_X3_261 rfl rfl e35 (t_x3_moveTo (l := l) (G := G) e33) rfl rfl (Nat.le_of_ble_eq_true rfl) (by decide) ?_
    refine r_pop X dX3_perform_89 rfl ?_
    refine r_aload_n X 0 dX3_perform_90 rfl rfl ?_
    refine r_iload_n X 3 dX3_perform_91 rfl rfl ?_
    obtain ⟨u39, e40, E⟩ := gb_some E
    obtain ⟨r36, g37, e38, E⟩ := cb_some E
    refine r_callV0 X hl0 (ci := 3) dX3_perform_92 y_X3_noiseAt m_X3_124 rfl rfl e40 (t_x3_noiseAt (l := l) (G := G) e38) rfl rfl (Nat.le_of_ble_eq_true rfl) (by decide) ?_
    cases E
    exact r_iret X hr dX3_perform_95 (by decide) (by decide)
  rw [if_neg c30] at E
  by_cases c41 : b0 = 4
  · rw [if_pos c41] at E
    refine r_tswI X 4 96 dX3_perform_1 c41 (by decide) (by decide) rfl (by decide) ?_
    refine r_aload_n X 0 dX3_perform_96 rfl rfl ?_
    refine r_iload_n X 2 dX3_perform_97 rfl rfl ?_
    refine r_iconst X (v := (-1)) dX3_perform_98 (by decide) ?_
    obtain ⟨u45, e46, E⟩ := gb_some E
    obtain ⟨r42, g43, e44, E⟩ := cb_some E
    refine r_callV0 X hl0 (ci := 3) dX3_perform_99 y_X3_moveTo m_X3_261 rfl rfl e46 (t_x3_moveTo (l := l) (G := G) e44) rfl rfl (Nat.le_of_ble_eq_true rfl) (by decide) ?_
    cases E
    exact r_iret X hr dX3_perform_102 (by decide) (by decide)
  rw [if_neg c41] at E
  by_cases c47 : b0 = 5
  · rw [if_pos c47] at E
    refine r_tswI X 5 103 dX3_perform_1 c47 (by decide) (by decide) rfl (by decide) ?_
    refine r_aload_n X 0 dX3_perform_103 rfl rfl ?_
    refine r_iload_n X 2 dX3_perform_104 rfl rfl ?_
    obtain ⟨u51, e52, E⟩ := gb_some E
    obtain ⟨r48, g49, e50, E⟩ := cb_some E
    refine r_callV0 X hl0 (ci := 3) dX3_perform_105 y_X3_changeRate m_X3_264 rfl rfl e52 (t_x3_changeRate (l := l) (G := G) e50) rfl rfl (Nat.le_of_ble_eq_true rfl) (by decide) ?_
    cases E
    exact r_iret X hr dX3_perform_108 (by decide) (by decide)
  rw [if_neg c47] at E
  by_cases c53 : b0 = 6
  · rw [if_pos c53] at E
    refine r_tswI X 6 109 dX3_perform_1 c53 (by decide) (by decide) rfl (by decide) ?_
    refine r_aload_n X 0 dX3_perform_109 rfl rfl ?_
    refine r_iload_n X 2 dX3_perform_110 rfl rfl ?_
    obtain ⟨u57, e58, E⟩ := gb_some E
    obtain ⟨r54, g55, e56, E⟩ := cb_some E
    refine r_callV0 X hl0 (ci := 3) dX3_perform_111 y_X3_addLogs m_X3_267 rfl rfl e58 (t_x3_addLogs (l := l) (G := G) e56) rfl rfl (Nat.le_of_ble_eq_true rfl) (by decide) ?_
    cases E
    exact r_iret X hr dX3_perform_114 (by decide) (by decide)
  rw [if_neg c53] at E
  by_cases c59 : b0 = 7
  · rw [if_pos c59] at E
    refine r_tswI X 7 115 dX3_perform_1 c59 (by decide) (by decide) rfl (by decide) ?_
    refine r_aload_n X 0 dX3_perform_115 rfl rfl ?_
    refine r_iload_n X 2 dX3_perform_116 rfl rfl ?_
    refine r_iload_n X 3 dX3_perform_117 rfl rfl ?_
    obtain ⟨u63, e64, E⟩ := gb_some E
    obtain ⟨r60, g61, e62, E⟩ := cb_some E
    refine r_callV0 X hl0 (ci := 3) dX3_perform_118 y_X3_payBack m_X3_270 rfl rfl e64 (t_x3_payBack (l := l) (G := G) e62) rfl rfl (Nat.le_of_ble_eq_true rfl) (by decide) ?_
    cases E
    exact r_iret X hr dX3_perform_121 (by decide) (by decide)
  rw [if_neg c59] at E
  refine r_tswD X 122 dX3_perform_1 (tsw_out (fun k h1 h2 => by
    rcases (by omega : k = 0 ∨ k = 1 ∨ k = 2 ∨ k = 3 ∨ k = 4 ∨ k = 5 ∨ k = 6 ∨ k = 7) with rfl | rfl | rfl | rfl | rfl | rfl | rfl | rfl
    · exact c1
    · exact c13
    · exact c19
    · exact c30
    · exact c41
    · exact c47
    · exact c53
    · exact c59
    )) (by decide) ?_
  refine r_aload_n X 0 dX3_perform_122 rfl rfl ?_
  refine r_iload_n X 2 dX3_perform_123 rfl rfl ?_
  obtain ⟨u68, e69, E⟩ := gb_some E
  obtain ⟨r65, g66, e67, E⟩ := cb_some E
  refine r_callV0 X hl0 (ci := 3) dX3_perform_124 y_X3_passTime m_X3_273 rfl rfl e69 (t_x3_passTime (l := l) (G := G) e67) rfl rfl (Nat.le_of_ble_eq_true rfl) (by decide) ?_
  cases E
  exact r_iret X hr dX3_perform_127 (by decide) (by decide)
theorem t_x3_perform {l : Launch} {G : GG} {p : Nat} {b0 : Int32} {b1 : Int32} {b2 : Int32} {g : AH} {r : Int32} {g1 : AH} (E : x3_perform p b0 b1 b2 g = some (r, g1)) : Ct l G yX3_perform cX3_perform 4 (some .int) ⟨5, 0, 0, 151⟩ [.ref p, .int b0, .int b1, .int b2] g (some (.int r)) g1 :=
  ct_of (L0 := [(0, .ref p), (1, .int b0), (2, .int b1), (3, .int b2)]) y_X3_perform rfl (Nat.le_of_ble_eq_true rfl) fun M hl0 X hr hnm => t_x3_perform_b X hl0 hr hnm E
set_option maxHeartbeats 4000000 in
set_option maxRecDepth 100000 in
theorem t_x8_act_b {l : Launch} {G : GG} {M : MC} (X : CX M G cX8_act 4 RX8 ⟨8, 3, 18, 220⟩) (hl0 : M.2.1 = l) (hr : (mM M).sig.returnType = (some .int)) (hnm : (mM M).name = yX8_act.name) (hnt : ∀ x ∈ (mC M).exceptionTable.toList, False) (hst : l.stackTraces = false) {p : Nat} {b0 : Int32} {b1 : Int32} {b2 : Int32} {g : AH} {o : (Int32 ⊕ String)} {g1 : AH} (E : x8_act p b0 b1 b2 g = some (o, g1)) : WW M G 4 (RX M G (ovI o) g1 3 18) 0 0 g 0 [(0, .ref p), (1, .int b0), (2, .int b1), (3, .int b2)] [] := by
  unfold x8_act at E
  refine r_aload_n X 0 dX8_act_0 rfl rfl ?_
  obtain ⟨x1, e2, E⟩ := gb_some E
  refine r_getR X dX8_act_1 f_X8_10 e2 ?_
  refine r_iload_n X 1 dX8_act_4 rfl rfl ?_
  refine r_iload_n X 2 dX8_act_5 rfl rfl ?_
  refine r_iload_n X 3 dX8_act_6 rfl rfl ?_
  obtain ⟨u6, e7, E⟩ := gb_some E
  obtain ⟨r3, g4, e5, E⟩ := cb_some E
  refine r_callV0 X hl0 (ci := 3) dX8_act_7 y_X3_faultOf m_X8_136 rfl rfl e7 (t_x3_faultOf (l := l) (G := G) e5) rfl rfl (Nat.le_of_ble_eq_true rfl) (by decide) ?_
  obtain ⟨r8, g9, e10, E⟩ := cb_some E
  rcases r8 with v11 | w12
  · rw [Sum.elim_inl] at E
    refine r_callSX X hl0 dX8_act_10 y_X8_refuse m_X8_342 (t_x8_refuse (l := l) hst (G := G) e10) rfl rfl (Nat.le_of_ble_eq_true rfl) (by decide) ?_
    refine r_aload_n X 0 dX8_act_13 rfl rfl ?_
    obtain ⟨x13, e14, E⟩ := gb_some E
    refine r_getR X dX8_act_14 f_X8_29 e14 ?_
    refine r_aload_n X 0 dX8_act_17 rfl rfl ?_
    obtain ⟨x15, e16, E⟩ := gb_some E
    refine r_getR X dX8_act_18 f_X8_10 e16 ?_
    obtain ⟨u20, e21, E⟩ := gb_some E
    obtain ⟨r17, g18, e19, E⟩ := cb_some E
    refine r_callV0 X hl0 (ci := 2) dX8_act_21 y_X2_keep m_X8_140 rfl rfl e21 (t_x2_keep (l := l) (G := G) e19) rfl rfl (Nat.le_of_ble_eq_true rfl) (by decide) ?_
    refine r_aload_n X 0 dX8_act_24 rfl rfl ?_
    obtain ⟨x22, e23, E⟩ := gb_some E
    refine r_getR X dX8_act_25 f_X8_10 e23 ?_
    refine r_iload_n X 1 dX8_act_28 rfl rfl ?_
    refine r_iload_n X 2 dX8_act_29 rfl rfl ?_
    refine r_iload_n X 3 dX8_act_30 rfl rfl ?_
    obtain ⟨u27, e28, E⟩ := gb_some E
    obtain ⟨r24, g25, e26, E⟩ := cb_some E
    refine r_callV0 X hl0 (ci := 3) dX8_act_31 y_X3_perform m_X8_143 rfl rfl e28 (t_x3_perform (l := l) (G := G) e26) rfl rfl (Nat.le_of_ble_eq_true rfl) (by decide) ?_
    cases E
    exact r_ret (r_iret X hr dX8_act_34 (by decide) (by decide))
  · rw [Sum.elim_inr] at E
    cases E
    exact r_thrS X hl0 hnt dX8_act_10 y_X8_refuse m_X8_342 (t_x8_refuse (l := l) hst (G := G) e10) rfl rfl (Nat.le_of_ble_eq_true rfl) (by decide) (by decide) (by decide)
theorem t_x8_act {l : Launch} (hst : l.stackTraces = false) {G : GG} {p : Nat} {b0 : Int32} {b1 : Int32} {b2 : Int32} {g : AH} {o : (Int32 ⊕ String)} {g1 : AH} (E : x8_act p b0 b1 b2 g = some (o, g1)) : CtX l G yX8_act cX8_act 4 (some .int) ⟨8, 3, 18, 220⟩ [.ref p, .int b0, .int b1, .int b2] g (ovI o) g1 :=
  ctX_of (L0 := [(0, .ref p), (1, .int b0), (2, .int b1), (3, .int b2)]) y_X8_act rfl (Nat.le_of_ble_eq_true rfl) fun M hl0 X hr hnm hnt => t_x8_act_b X hl0 hr hnm hnt hst E
set_option maxHeartbeats 4000000 in
set_option maxRecDepth 100000 in
theorem t_x8_takeBlanket_b {l : Launch} {G : GG} {M : MC} (X : CX M G cX8_takeBlanket 3 RX8 ⟨9, 3, 18, 243⟩) (hl0 : M.2.1 = l) (hr : (mM M).sig.returnType = (some .int)) (hnm : (mM M).name = yX8_takeBlanket.name) (hnt : ∀ x ∈ (mC M).exceptionTable.toList, False) (hst : l.stackTraces = false) {p : Nat} {b0 : Int32} {b1 : Int32} {g : AH} {o : (Int32 ⊕ String)} {g1 : AH} (E : x8_takeBlanket p b0 b1 g = some (o, g1)) : WW M G 3 (RX M G (ovI o) g1 3 18) 0 0 g 0 [(0, .ref p), (1, .int b0), (2, .int b1)] [] := by
  unfold x8_takeBlanket at E
  refine r_aload_n X 0 dX8_takeBlanket_0 rfl rfl ?_
  refine r_iconst X (v := 0) dX8_takeBlanket_1 (by decide) ?_
  refine r_iload_n X 1 dX8_takeBlanket_2 rfl rfl ?_
  refine r_iload_n X 2 dX8_takeBlanket_3 rfl rfl ?_
  obtain ⟨u4, e5, E⟩ := gb_some E
  obtain ⟨r1, g2, e3, E⟩ := cb_some E
  rcases r1 with v6 | w7
  · rw [Sum.elim_inl] at E
    refine r_callVX X hl0 (ci := 8) dX8_takeBlanket_4 y_X8_act m_X8_339 rfl rfl e5 (t_x8_act (l := l) hst (G := G) e3) rfl rfl (Nat.le_of_ble_eq_true rfl) (by decide) ?_
    cases E
    exact r_ret (r_iret X hr dX8_takeBlanket_7 (by decide) (by decide))
  · rw [Sum.elim_inr] at E
    cases E
    exact r_thrV X hl0 hnt (ci := 8) dX8_takeBlanket_4 y_X8_act m_X8_339 rfl rfl e5 (t_x8_act (l := l) hst (G := G) e3) rfl rfl (Nat.le_of_ble_eq_true rfl) (by decide) (by decide) (by decide)
theorem t_x8_takeBlanket {l : Launch} (hst : l.stackTraces = false) {G : GG} {p : Nat} {b0 : Int32} {b1 : Int32} {g : AH} {o : (Int32 ⊕ String)} {g1 : AH} (E : x8_takeBlanket p b0 b1 g = some (o, g1)) : CtX l G yX8_takeBlanket cX8_takeBlanket 3 (some .int) ⟨9, 3, 18, 243⟩ [.ref p, .int b0, .int b1] g (ovI o) g1 :=
  ctX_of (L0 := [(0, .ref p), (1, .int b0), (2, .int b1)]) y_X8_takeBlanket rfl (Nat.le_of_ble_eq_true rfl) fun M hl0 X hr hnm hnt => t_x8_takeBlanket_b X hl0 hr hnm hnt hst E
set_option maxHeartbeats 4000000 in
set_option maxRecDepth 100000 in
theorem t_x8_returnBlanket_b {l : Launch} {G : GG} {M : MC} (X : CX M G cX8_returnBlanket 2 RX8 ⟨9, 3, 18, 243⟩) (hl0 : M.2.1 = l) (hr : (mM M).sig.returnType = (some .int)) (hnm : (mM M).name = yX8_returnBlanket.name) (hnt : ∀ x ∈ (mC M).exceptionTable.toList, False) (hst : l.stackTraces = false) {p : Nat} {b0 : Int32} {g : AH} {o : (Int32 ⊕ String)} {g1 : AH} (E : x8_returnBlanket p b0 g = some (o, g1)) : WW M G 2 (RX M G (ovI o) g1 3 18) 0 0 g 0 [(0, .ref p), (1, .int b0)] [] := by
  unfold x8_returnBlanket at E
  refine r_aload_n X 0 dX8_returnBlanket_0 rfl rfl ?_
  refine r_iconst X (v := 1) dX8_returnBlanket_1 (by decide) ?_
  refine r_iload_n X 1 dX8_returnBlanket_2 rfl rfl ?_
  refine r_iconst X (v := 0) dX8_returnBlanket_3 (by decide) ?_
  obtain ⟨u4, e5, E⟩ := gb_some E
  obtain ⟨r1, g2, e3, E⟩ := cb_some E
  rcases r1 with v6 | w7
  · rw [Sum.elim_inl] at E
    refine r_callVX X hl0 (ci := 8) dX8_returnBlanket_4 y_X8_act m_X8_339 rfl rfl e5 (t_x8_act (l := l) hst (G := G) e3) rfl rfl (Nat.le_of_ble_eq_true rfl) (by decide) ?_
    cases E
    exact r_ret (r_iret X hr dX8_returnBlanket_7 (by decide) (by decide))
  · rw [Sum.elim_inr] at E
    cases E
    exact r_thrV X hl0 hnt (ci := 8) dX8_returnBlanket_4 y_X8_act m_X8_339 rfl rfl e5 (t_x8_act (l := l) hst (G := G) e3) rfl rfl (Nat.le_of_ble_eq_true rfl) (by decide) (by decide) (by decide)
theorem t_x8_returnBlanket {l : Launch} (hst : l.stackTraces = false) {G : GG} {p : Nat} {b0 : Int32} {g : AH} {o : (Int32 ⊕ String)} {g1 : AH} (E : x8_returnBlanket p b0 g = some (o, g1)) : CtX l G yX8_returnBlanket cX8_returnBlanket 2 (some .int) ⟨9, 3, 18, 243⟩ [.ref p, .int b0] g (ovI o) g1 :=
  ctX_of (L0 := [(0, .ref p), (1, .int b0)]) y_X8_returnBlanket rfl (Nat.le_of_ble_eq_true rfl) fun M hl0 X hr hnm hnt => t_x8_returnBlanket_b X hl0 hr hnm hnt hst E
set_option maxHeartbeats 4000000 in
set_option maxRecDepth 100000 in
theorem t_x8_swapBlankets_b {l : Launch} {G : GG} {M : MC} (X : CX M G cX8_swapBlankets 3 RX8 ⟨9, 3, 18, 243⟩) (hl0 : M.2.1 = l) (hr : (mM M).sig.returnType = (some .int)) (hnm : (mM M).name = yX8_swapBlankets.name) (hnt : ∀ x ∈ (mC M).exceptionTable.toList, False) (hst : l.stackTraces = false) {p : Nat} {b0 : Int32} {b1 : Int32} {g : AH} {o : (Int32 ⊕ String)} {g1 : AH} (E : x8_swapBlankets p b0 b1 g = some (o, g1)) : WW M G 3 (RX M G (ovI o) g1 3 18) 0 0 g 0 [(0, .ref p), (1, .int b0), (2, .int b1)] [] := by
  unfold x8_swapBlankets at E
  refine r_aload_n X 0 dX8_swapBlankets_0 rfl rfl ?_
  refine r_iconst X (v := 2) dX8_swapBlankets_1 (by decide) ?_
  refine r_iload_n X 1 dX8_swapBlankets_2 rfl rfl ?_
  refine r_iload_n X 2 dX8_swapBlankets_3 rfl rfl ?_
  obtain ⟨u4, e5, E⟩ := gb_some E
  obtain ⟨r1, g2, e3, E⟩ := cb_some E
  rcases r1 with v6 | w7
  · rw [Sum.elim_inl] at E
    refine r_callVX X hl0 (ci := 8) dX8_swapBlankets_4 y_X8_act m_X8_339 rfl rfl e5 (t_x8_act (l := l) hst (G := G) e3) rfl rfl (Nat.le_of_ble_eq_true rfl) (by decide) ?_
    cases E
    exact r_ret (r_iret X hr dX8_swapBlankets_7 (by decide) (by decide))
  · rw [Sum.elim_inr] at E
    cases E
    exact r_thrV X hl0 hnt (ci := 8) dX8_swapBlankets_4 y_X8_act m_X8_339 rfl rfl e5 (t_x8_act (l := l) hst (G := G) e3) rfl rfl (Nat.le_of_ble_eq_true rfl) (by decide) (by decide) (by decide)
theorem t_x8_swapBlankets {l : Launch} (hst : l.stackTraces = false) {G : GG} {p : Nat} {b0 : Int32} {b1 : Int32} {g : AH} {o : (Int32 ⊕ String)} {g1 : AH} (E : x8_swapBlankets p b0 b1 g = some (o, g1)) : CtX l G yX8_swapBlankets cX8_swapBlankets 3 (some .int) ⟨9, 3, 18, 243⟩ [.ref p, .int b0, .int b1] g (ovI o) g1 :=
  ctX_of (L0 := [(0, .ref p), (1, .int b0), (2, .int b1)]) y_X8_swapBlankets rfl (Nat.le_of_ble_eq_true rfl) fun M hl0 X hr hnm hnt => t_x8_swapBlankets_b X hl0 hr hnm hnt hst E
set_option maxHeartbeats 4000000 in
set_option maxRecDepth 100000 in
theorem t_x8_lieDown_b {l : Launch} {G : GG} {M : MC} (X : CX M G cX8_lieDown 3 RX8 ⟨9, 3, 18, 243⟩) (hl0 : M.2.1 = l) (hr : (mM M).sig.returnType = (some .int)) (hnm : (mM M).name = yX8_lieDown.name) (hnt : ∀ x ∈ (mC M).exceptionTable.toList, False) (hst : l.stackTraces = false) {p : Nat} {b0 : Int32} {b1 : Int32} {g : AH} {o : (Int32 ⊕ String)} {g1 : AH} (E : x8_lieDown p b0 b1 g = some (o, g1)) : WW M G 3 (RX M G (ovI o) g1 3 18) 0 0 g 0 [(0, .ref p), (1, .int b0), (2, .int b1)] [] := by
  unfold x8_lieDown at E
  refine r_aload_n X 0 dX8_lieDown_0 rfl rfl ?_
  refine r_iconst X (v := 3) dX8_lieDown_1 (by decide) ?_
  refine r_iload_n X 1 dX8_lieDown_2 rfl rfl ?_
  refine r_iload_n X 2 dX8_lieDown_3 rfl rfl ?_
  obtain ⟨u4, e5, E⟩ := gb_some E
  obtain ⟨r1, g2, e3, E⟩ := cb_some E
  rcases r1 with v6 | w7
  · rw [Sum.elim_inl] at E
    refine r_callVX X hl0 (ci := 8) dX8_lieDown_4 y_X8_act m_X8_339 rfl rfl e5 (t_x8_act (l := l) hst (G := G) e3) rfl rfl (Nat.le_of_ble_eq_true rfl) (by decide) ?_
    cases E
    exact r_ret (r_iret X hr dX8_lieDown_7 (by decide) (by decide))
  · rw [Sum.elim_inr] at E
    cases E
    exact r_thrV X hl0 hnt (ci := 8) dX8_lieDown_4 y_X8_act m_X8_339 rfl rfl e5 (t_x8_act (l := l) hst (G := G) e3) rfl rfl (Nat.le_of_ble_eq_true rfl) (by decide) (by decide) (by decide)
theorem t_x8_lieDown {l : Launch} (hst : l.stackTraces = false) {G : GG} {p : Nat} {b0 : Int32} {b1 : Int32} {g : AH} {o : (Int32 ⊕ String)} {g1 : AH} (E : x8_lieDown p b0 b1 g = some (o, g1)) : CtX l G yX8_lieDown cX8_lieDown 3 (some .int) ⟨9, 3, 18, 243⟩ [.ref p, .int b0, .int b1] g (ovI o) g1 :=
  ctX_of (L0 := [(0, .ref p), (1, .int b0), (2, .int b1)]) y_X8_lieDown rfl (Nat.le_of_ble_eq_true rfl) fun M hl0 X hr hnm hnt => t_x8_lieDown_b X hl0 hr hnm hnt hst E
set_option maxHeartbeats 4000000 in
set_option maxRecDepth 100000 in
theorem t_x8_getUp_b {l : Launch} {G : GG} {M : MC} (X : CX M G cX8_getUp 2 RX8 ⟨9, 3, 18, 243⟩) (hl0 : M.2.1 = l) (hr : (mM M).sig.returnType = (some .int)) (hnm : (mM M).name = yX8_getUp.name) (hnt : ∀ x ∈ (mC M).exceptionTable.toList, False) (hst : l.stackTraces = false) {p : Nat} {b0 : Int32} {g : AH} {o : (Int32 ⊕ String)} {g1 : AH} (E : x8_getUp p b0 g = some (o, g1)) : WW M G 2 (RX M G (ovI o) g1 3 18) 0 0 g 0 [(0, .ref p), (1, .int b0)] [] := by
  unfold x8_getUp at E
  refine r_aload_n X 0 dX8_getUp_0 rfl rfl ?_
  refine r_iconst X (v := 4) dX8_getUp_1 (by decide) ?_
  refine r_iload_n X 1 dX8_getUp_2 rfl rfl ?_
  refine r_iconst X (v := 0) dX8_getUp_3 (by decide) ?_
  obtain ⟨u4, e5, E⟩ := gb_some E
  obtain ⟨r1, g2, e3, E⟩ := cb_some E
  rcases r1 with v6 | w7
  · rw [Sum.elim_inl] at E
    refine r_callVX X hl0 (ci := 8) dX8_getUp_4 y_X8_act m_X8_339 rfl rfl e5 (t_x8_act (l := l) hst (G := G) e3) rfl rfl (Nat.le_of_ble_eq_true rfl) (by decide) ?_
    cases E
    exact r_ret (r_iret X hr dX8_getUp_7 (by decide) (by decide))
  · rw [Sum.elim_inr] at E
    cases E
    exact r_thrV X hl0 hnt (ci := 8) dX8_getUp_4 y_X8_act m_X8_339 rfl rfl e5 (t_x8_act (l := l) hst (G := G) e3) rfl rfl (Nat.le_of_ble_eq_true rfl) (by decide) (by decide) (by decide)
theorem t_x8_getUp {l : Launch} (hst : l.stackTraces = false) {G : GG} {p : Nat} {b0 : Int32} {g : AH} {o : (Int32 ⊕ String)} {g1 : AH} (E : x8_getUp p b0 g = some (o, g1)) : CtX l G yX8_getUp cX8_getUp 2 (some .int) ⟨9, 3, 18, 243⟩ [.ref p, .int b0] g (ovI o) g1 :=
  ctX_of (L0 := [(0, .ref p), (1, .int b0)]) y_X8_getUp rfl (Nat.le_of_ble_eq_true rfl) fun M hl0 X hr hnm hnt => t_x8_getUp_b X hl0 hr hnm hnt hst E
set_option maxHeartbeats 4000000 in
set_option maxRecDepth 100000 in
theorem t_x8_setRate_b {l : Launch} {G : GG} {M : MC} (X : CX M G cX8_setRate 2 RX8 ⟨9, 3, 18, 243⟩) (hl0 : M.2.1 = l) (hr : (mM M).sig.returnType = (some .int)) (hnm : (mM M).name = yX8_setRate.name) (hnt : ∀ x ∈ (mC M).exceptionTable.toList, False) (hst : l.stackTraces = false) {p : Nat} {b0 : Int32} {g : AH} {o : (Int32 ⊕ String)} {g1 : AH} (E : x8_setRate p b0 g = some (o, g1)) : WW M G 2 (RX M G (ovI o) g1 3 18) 0 0 g 0 [(0, .ref p), (1, .int b0)] [] := by
  unfold x8_setRate at E
  refine r_aload_n X 0 dX8_setRate_0 rfl rfl ?_
  refine r_iconst X (v := 5) dX8_setRate_1 (by decide) ?_
  refine r_iload_n X 1 dX8_setRate_2 rfl rfl ?_
  refine r_iconst X (v := 0) dX8_setRate_3 (by decide) ?_
  obtain ⟨u4, e5, E⟩ := gb_some E
  obtain ⟨r1, g2, e3, E⟩ := cb_some E
  rcases r1 with v6 | w7
  · rw [Sum.elim_inl] at E
    refine r_callVX X hl0 (ci := 8) dX8_setRate_4 y_X8_act m_X8_339 rfl rfl e5 (t_x8_act (l := l) hst (G := G) e3) rfl rfl (Nat.le_of_ble_eq_true rfl) (by decide) ?_
    cases E
    exact r_ret (r_iret X hr dX8_setRate_7 (by decide) (by decide))
  · rw [Sum.elim_inr] at E
    cases E
    exact r_thrV X hl0 hnt (ci := 8) dX8_setRate_4 y_X8_act m_X8_339 rfl rfl e5 (t_x8_act (l := l) hst (G := G) e3) rfl rfl (Nat.le_of_ble_eq_true rfl) (by decide) (by decide) (by decide)
theorem t_x8_setRate {l : Launch} (hst : l.stackTraces = false) {G : GG} {p : Nat} {b0 : Int32} {g : AH} {o : (Int32 ⊕ String)} {g1 : AH} (E : x8_setRate p b0 g = some (o, g1)) : CtX l G yX8_setRate cX8_setRate 2 (some .int) ⟨9, 3, 18, 243⟩ [.ref p, .int b0] g (ovI o) g1 :=
  ctX_of (L0 := [(0, .ref p), (1, .int b0)]) y_X8_setRate rfl (Nat.le_of_ble_eq_true rfl) fun M hl0 X hr hnm hnt => t_x8_setRate_b X hl0 hr hnm hnt hst E
set_option maxHeartbeats 4000000 in
set_option maxRecDepth 100000 in
theorem t_x8_fetchLogs_b {l : Launch} {G : GG} {M : MC} (X : CX M G cX8_fetchLogs 2 RX8 ⟨9, 3, 18, 243⟩) (hl0 : M.2.1 = l) (hr : (mM M).sig.returnType = (some .int)) (hnm : (mM M).name = yX8_fetchLogs.name) (hnt : ∀ x ∈ (mC M).exceptionTable.toList, False) (hst : l.stackTraces = false) {p : Nat} {b0 : Int32} {g : AH} {o : (Int32 ⊕ String)} {g1 : AH} (E : x8_fetchLogs p b0 g = some (o, g1)) : WW M G 2 (RX M G (ovI o) g1 3 18) 0 0 g 0 [(0, .ref p), (1, .int b0)] [] := by
  unfold x8_fetchLogs at E
  refine r_aload_n X 0 dX8_fetchLogs_0 rfl rfl ?_
  refine r_bipush X (v := 6) dX8_fetchLogs_1 (by decide) ?_
  refine r_iload_n X 1 dX8_fetchLogs_3 rfl rfl ?_
  refine r_iconst X (v := 0) dX8_fetchLogs_4 (by decide) ?_
  obtain ⟨u4, e5, E⟩ := gb_some E
  obtain ⟨r1, g2, e3, E⟩ := cb_some E
  rcases r1 with v6 | w7
  · rw [Sum.elim_inl] at E
    refine r_callVX X hl0 (ci := 8) dX8_fetchLogs_5 y_X8_act m_X8_339 rfl rfl e5 (t_x8_act (l := l) hst (G := G) e3) rfl rfl (Nat.le_of_ble_eq_true rfl) (by decide) ?_
    cases E
    exact r_ret (r_iret X hr dX8_fetchLogs_8 (by decide) (by decide))
  · rw [Sum.elim_inr] at E
    cases E
    exact r_thrV X hl0 hnt (ci := 8) dX8_fetchLogs_5 y_X8_act m_X8_339 rfl rfl e5 (t_x8_act (l := l) hst (G := G) e3) rfl rfl (Nat.le_of_ble_eq_true rfl) (by decide) (by decide) (by decide)
theorem t_x8_fetchLogs {l : Launch} (hst : l.stackTraces = false) {G : GG} {p : Nat} {b0 : Int32} {g : AH} {o : (Int32 ⊕ String)} {g1 : AH} (E : x8_fetchLogs p b0 g = some (o, g1)) : CtX l G yX8_fetchLogs cX8_fetchLogs 2 (some .int) ⟨9, 3, 18, 243⟩ [.ref p, .int b0] g (ovI o) g1 :=
  ctX_of (L0 := [(0, .ref p), (1, .int b0)]) y_X8_fetchLogs rfl (Nat.le_of_ble_eq_true rfl) fun M hl0 X hr hnm hnt => t_x8_fetchLogs_b X hl0 hr hnm hnt hst E
set_option maxHeartbeats 4000000 in
set_option maxRecDepth 100000 in
theorem t_x8_payDebt_b {l : Launch} {G : GG} {M : MC} (X : CX M G cX8_payDebt 3 RX8 ⟨9, 3, 18, 243⟩) (hl0 : M.2.1 = l) (hr : (mM M).sig.returnType = (some .int)) (hnm : (mM M).name = yX8_payDebt.name) (hnt : ∀ x ∈ (mC M).exceptionTable.toList, False) (hst : l.stackTraces = false) {p : Nat} {b0 : Int32} {b1 : Int32} {g : AH} {o : (Int32 ⊕ String)} {g1 : AH} (E : x8_payDebt p b0 b1 g = some (o, g1)) : WW M G 3 (RX M G (ovI o) g1 3 18) 0 0 g 0 [(0, .ref p), (1, .int b0), (2, .int b1)] [] := by
  unfold x8_payDebt at E
  refine r_aload_n X 0 dX8_payDebt_0 rfl rfl ?_
  refine r_bipush X (v := 7) dX8_payDebt_1 (by decide) ?_
  refine r_iload_n X 1 dX8_payDebt_3 rfl rfl ?_
  refine r_iload_n X 2 dX8_payDebt_4 rfl rfl ?_
  obtain ⟨u4, e5, E⟩ := gb_some E
  obtain ⟨r1, g2, e3, E⟩ := cb_some E
  rcases r1 with v6 | w7
  · rw [Sum.elim_inl] at E
    refine r_callVX X hl0 (ci := 8) dX8_payDebt_5 y_X8_act m_X8_339 rfl rfl e5 (t_x8_act (l := l) hst (G := G) e3) rfl rfl (Nat.le_of_ble_eq_true rfl) (by decide) ?_
    cases E
    exact r_ret (r_iret X hr dX8_payDebt_8 (by decide) (by decide))
  · rw [Sum.elim_inr] at E
    cases E
    exact r_thrV X hl0 hnt (ci := 8) dX8_payDebt_5 y_X8_act m_X8_339 rfl rfl e5 (t_x8_act (l := l) hst (G := G) e3) rfl rfl (Nat.le_of_ble_eq_true rfl) (by decide) (by decide) (by decide)
theorem t_x8_payDebt {l : Launch} (hst : l.stackTraces = false) {G : GG} {p : Nat} {b0 : Int32} {b1 : Int32} {g : AH} {o : (Int32 ⊕ String)} {g1 : AH} (E : x8_payDebt p b0 b1 g = some (o, g1)) : CtX l G yX8_payDebt cX8_payDebt 3 (some .int) ⟨9, 3, 18, 243⟩ [.ref p, .int b0, .int b1] g (ovI o) g1 :=
  ctX_of (L0 := [(0, .ref p), (1, .int b0), (2, .int b1)]) y_X8_payDebt rfl (Nat.le_of_ble_eq_true rfl) fun M hl0 X hr hnm hnt => t_x8_payDebt_b X hl0 hr hnm hnt hst E
set_option maxHeartbeats 4000000 in
set_option maxRecDepth 100000 in
theorem t_x8_passHours_b {l : Launch} {G : GG} {M : MC} (X : CX M G cX8_passHours 2 RX8 ⟨9, 3, 18, 243⟩) (hl0 : M.2.1 = l) (hr : (mM M).sig.returnType = (some .int)) (hnm : (mM M).name = yX8_passHours.name) (hnt : ∀ x ∈ (mC M).exceptionTable.toList, False) (hst : l.stackTraces = false) {p : Nat} {b0 : Int32} {g : AH} {o : (Int32 ⊕ String)} {g1 : AH} (E : x8_passHours p b0 g = some (o, g1)) : WW M G 2 (RX M G (ovI o) g1 3 18) 0 0 g 0 [(0, .ref p), (1, .int b0)] [] := by
  unfold x8_passHours at E
  refine r_aload_n X 0 dX8_passHours_0 rfl rfl ?_
  refine r_bipush X (v := 8) dX8_passHours_1 (by decide) ?_
  refine r_iload_n X 1 dX8_passHours_3 rfl rfl ?_
  refine r_iconst X (v := 0) dX8_passHours_4 (by decide) ?_
  obtain ⟨u4, e5, E⟩ := gb_some E
  obtain ⟨r1, g2, e3, E⟩ := cb_some E
  rcases r1 with v6 | w7
  · rw [Sum.elim_inl] at E
    refine r_callVX X hl0 (ci := 8) dX8_passHours_5 y_X8_act m_X8_339 rfl rfl e5 (t_x8_act (l := l) hst (G := G) e3) rfl rfl (Nat.le_of_ble_eq_true rfl) (by decide) ?_
    cases E
    exact r_ret (r_iret X hr dX8_passHours_8 (by decide) (by decide))
  · rw [Sum.elim_inr] at E
    cases E
    exact r_thrV X hl0 hnt (ci := 8) dX8_passHours_5 y_X8_act m_X8_339 rfl rfl e5 (t_x8_act (l := l) hst (G := G) e3) rfl rfl (Nat.le_of_ble_eq_true rfl) (by decide) (by decide) (by decide)
theorem t_x8_passHours {l : Launch} (hst : l.stackTraces = false) {G : GG} {p : Nat} {b0 : Int32} {g : AH} {o : (Int32 ⊕ String)} {g1 : AH} (E : x8_passHours p b0 g = some (o, g1)) : CtX l G yX8_passHours cX8_passHours 2 (some .int) ⟨9, 3, 18, 243⟩ [.ref p, .int b0] g (ovI o) g1 :=
  ctX_of (L0 := [(0, .ref p), (1, .int b0)]) y_X8_passHours rfl (Nat.le_of_ble_eq_true rfl) fun M hl0 X hr hnm hnt => t_x8_passHours_b X hl0 hr hnm hnt hst E
set_option maxHeartbeats 4000000 in
set_option maxRecDepth 100000 in
theorem t_x1_init_b {l : Launch} {G : GG} {M : MC} (X : CX M G cX1_init 1 RX1 ⟨3, 1, 4, 150⟩) (hl0 : M.2.1 = l) (hr : (mM M).sig.returnType = none) (hnm : (mM M).name = yX1_init.name) {p : Nat} {g : AH} {r : Unit} {g1 : AH} (E : x1_init p g = some (r, g1)) : WW M G 1 (RQ M G none g1 1 4) 0 0 g 0 [(0, .ref p)] [] := by
  unfold x1_init at E
  refine r_aload_n X 0 dX1_init_0 rfl rfl ?_
  refine r_objInit X dX1_init_1 m_X1_3 (by decide) (Nat.le_of_ble_eq_true rfl) ?_
  refine r_aload_n X 0 dX1_init_4 rfl rfl ?_
  refine r_iconst X (v := (-1)) dX1_init_5 (by decide) ?_
  obtain ⟨g1, e2, E⟩ := gb_some E
  refine r_put X dX1_init_6 f_X1_9 rfl rfl e2 ?_
  refine r_aload_n X 0 dX1_init_9 rfl rfl ?_
  refine r_iconst X (v := (-1)) dX1_init_10 (by decide) ?_
  obtain ⟨g3, e4, E⟩ := gb_some E
  refine r_put X dX1_init_11 f_X1_15 rfl rfl e4 ?_
  refine r_aload_n X 0 dX1_init_14 rfl rfl ?_
  refine r_iconst X (v := 4) dX1_init_15 (by decide) ?_
  obtain ⟨x5, g6, e7, E⟩ := cb_some E
  refine r_newarr X 0 4 dX1_init_16 (by decide) rfl a_int (fun _ _ => rfl) (by decide) (by decide) (by decide) e7 ?_
  obtain ⟨g8, e9, E⟩ := gb_some E
  refine r_putF X dX1_init_18 f_X1_18 hnm (by intro C T N h; cases h; rfl) rfl rfl e9 ?_
  cases E
  exact r_vret X hr dX1_init_21 (by decide) (by decide)
theorem t_x1_init {l : Launch} {G : GG} {p : Nat} {g : AH} {r : Unit} {g1 : AH} (E : x1_init p g = some (r, g1)) : Ct l G yX1_init cX1_init 1 none ⟨3, 1, 4, 150⟩ [.ref p] g none g1 :=
  ct_of (L0 := [(0, .ref p)]) y_X1_init rfl (Nat.le_of_ble_eq_true rfl) fun M hl0 X hr hnm => t_x1_init_b X hl0 hr hnm E
set_option maxHeartbeats 4000000 in
set_option maxRecDepth 100000 in
theorem t_x3_init_l55 {l : Launch} {G : GG} {M : MC} (X : CX M G cX3_init 2 RX3 ⟨4, 28, 221, 170⟩) (hl0 : M.2.1 = l) (hr : (mM M).sig.returnType = none) (hnm : (mM M).name = yX3_init.name) {Q : State → Prop} {kc ks : Nat} {s9 : ((Int32) ⊕ (Unit))} {g1 : AH} {a0 : Nat} {s0 : Int32} {Kc Ks : Nat} (hkc : kc + 2 ≤ Kc ∧ Kc ≤ 28) (hks : ks + 13 ≤ Ks ∧ Ks ≤ 221) (hc : ∀ s1, s9 = .inl s1 → WW M G 2 Q (kc + 2) (ks + 13) g1 55 [(0, .ref a0), (1, .int s1)] []) (hx : ∀ t, s9 = .inr t → WW M G 2 Q Kc Ks g1 83 [(0, .ref a0)] []) {g : AH} (E : x3_init_l55 a0 s0 g = some (s9, g1)) : WW M G 2 Q kc ks g 55 [(0, .ref a0), (1, .int s0)] [] := by
  unfold x3_init_l55 at E
  refine r_iload_n X 1 dX3_init_55 rfl rfl ?_
  refine r_aload_n X 0 dX3_init_56 rfl rfl ?_
  obtain ⟨x1, e2, E⟩ := gb_some E
  refine r_getR X dX3_init_57 f_X3_29 e2 ?_
  obtain ⟨x3, e4, E⟩ := gb_some E
  refine r_alen X 4 (by decide) dX3_init_60 e4 ?_
  refine r_icmp_ge X 83 dX3_init_61 (by decide) (fun c5 => ?_) (fun c5 => ?_)
  · rw [if_pos c5] at E
    cases E
    exact r_widen X ⟨by (try dsimp only); omega, hkc.2⟩ ⟨by (try dsimp only); omega, hks.2⟩ <| r_pick (by rfl : lpick [(0, .ref a0), (1, .int s0)] [0] = _) (hx _ rfl)
  · rw [if_neg c5] at E
    refine r_aload_n X 0 dX3_init_64 rfl rfl ?_
    obtain ⟨x6, e7, E⟩ := gb_some E
    refine r_getR X dX3_init_65 f_X3_29 e7 ?_
    refine r_iload_n X 1 dX3_init_68 rfl rfl ?_
    obtain ⟨x8, g9, e10, E⟩ := cb_some E
    refine r_new X (ci := 1) dX3_init_69 rfl tyX1_ok flc1 k_X3_27 n_X1 ⟨by show _ + 1 ≤ 28; (try dsimp only); omega, by show _ + 9 ≤ 221; (try dsimp only); omega⟩ e10 ?_
    refine r_dup X dX3_init_72 rfl ?_
    obtain ⟨r11, g12, e13, E⟩ := cb_some E
    refine r_callIN X hl0 dX3_init_73 y_X1_init (List.mem_of_getElem? (i := 8) rfl) (t_x1_init (l := l) (G := G) e13) rfl rfl (Nat.le_of_ble_eq_true rfl) ⟨by decide, by show _ + 1 ≤ 28; (try dsimp only); omega, by show _ + 4 ≤ 221; (try dsimp only); omega⟩ ?_
    obtain ⟨g14, e15, E⟩ := gb_some E
    refine r_aast X 4 1 (by decide) rfl rfl dX3_init_76 e15 ?_
    refine r_iinc X (v := (s0 + 1)) (L1 := [(1, .int (s0 + 1)), (0, .ref a0)]) dX3_init_77 rfl rfl (by decide) rfl ?_
    refine r_goto X 55 dX3_init_80 (by decide) ?_
    cases E
    exact r_widen X ⟨by (try dsimp only); omega, Nat.le_trans hkc.1 hkc.2⟩ ⟨by (try dsimp only); omega, Nat.le_trans hks.1 hks.2⟩ <| r_pick (by rfl : lpick [(1, .int (s0 + 1)), (0, .ref a0)] [1, 0] = _) (hc _ rfl)
set_option maxHeartbeats 4000000 in
theorem t_x3_init_l55_r {l : Launch} {G : GG} {M : MC} (X : CX M G cX3_init 2 RX3 ⟨4, 28, 221, 170⟩) (hl0 : M.2.1 = l) (hr : (mM M).sig.returnType = none) (hnm : (mM M).name = yX3_init.name) {Q : State → Prop} {Kc Ks : Nat} (hKc : Kc ≤ 28) (hKs : Ks ≤ 221) {a0 : Nat} : ∀ (n : Nat) (s0 : Int32) (g : AH) (t : (Unit)) (g1 : AH), loopX (x3_init_l55 a0) n s0 g = some (t, g1) → WW M G 2 Q Kc Ks g1 83 [(0, .ref a0)] [] → ∀ kc ks : Nat, kc + n * 2 ≤ Kc → ks + n * 13 ≤ Ks → WW M G 2 Q kc ks g 55 [(0, .ref a0), (1, .int s0)] [] :=
  loop_cps (K := fun t g1 => WW M G 2 Q Kc Ks g1 83 [(0, .ref a0)] []) (fun n s0 g => ∀ kc ks : Nat, kc + n * 2 ≤ Kc → ks + n * 13 ≤ Ks → WW M G 2 Q kc ks g 55 [(0, .ref a0), (1, .int s0)] []) (fun n s0 g st g1 E hc hx kc ks h1 h2 => by
    have e1 : (n + 1) * 2 = n * 2 + 2 := by omega
    have e2 : (n + 1) * 13 = n * 13 + 13 := by omega
    exact t_x3_init_l55 X hl0 hr hnm ⟨by omega, hKc⟩ ⟨by omega, hKs⟩ (fun s1 e => hc s1 e _ _ (by omega) (by omega)) hx E)
set_option maxHeartbeats 4000000 in
set_option maxRecDepth 100000 in
theorem t_x3_init_l85 {l : Launch} {G : GG} {M : MC} (X : CX M G cX3_init 2 RX3 ⟨4, 28, 221, 170⟩) (hl0 : M.2.1 = l) (hr : (mM M).sig.returnType = none) (hnm : (mM M).name = yX3_init.name) {Q : State → Prop} {kc ks : Nat} {s9 : ((Int32) ⊕ (Unit))} {g1 : AH} {a0 : Nat} {s0 : Int32} (hc : ∀ s1, s9 = .inl s1 → WW M G 2 Q kc ks g1 85 [(0, .ref a0), (1, .int s1)] []) (hx : ∀ t, s9 = .inr t → WW M G 2 Q kc ks g1 107 [] []) {g : AH} (E : x3_init_l85 a0 s0 g = some (s9, g1)) : WW M G 2 Q kc ks g 85 [(0, .ref a0), (1, .int s0)] [] := by
  unfold x3_init_l85 at E
  refine r_iload_n X 1 dX3_init_85 rfl rfl ?_
  refine r_aload_n X 0 dX3_init_86 rfl rfl ?_
  obtain ⟨x1, e2, E⟩ := gb_some E
  refine r_getR X dX3_init_87 f_X3_21 e2 ?_
  obtain ⟨x3, e4, E⟩ := gb_some E
  refine r_alen X 0 (by decide) dX3_init_90 e4 ?_
  refine r_icmp_ge X 107 dX3_init_91 (by decide) (fun c5 => ?_) (fun c5 => ?_)
  · rw [if_pos c5] at E
    cases E
    exact r_pick (by rfl : lpick [(0, .ref a0), (1, .int s0)] [] = _) (hx _ rfl)
  · rw [if_neg c5] at E
    refine r_aload_n X 0 dX3_init_94 rfl rfl ?_
    obtain ⟨x6, e7, E⟩ := gb_some E
    refine r_getR X dX3_init_95 f_X3_21 e7 ?_
    refine r_iload_n X 1 dX3_init_98 rfl rfl ?_
    refine r_iconst X (v := (-1)) dX3_init_99 (by decide) ?_
    obtain ⟨g8, e9, E⟩ := gb_some E
    refine r_iast X dX3_init_100 e9 ?_
    refine r_iinc X (v := (s0 + 1)) (L1 := [(1, .int (s0 + 1)), (0, .ref a0)]) dX3_init_101 rfl rfl (by decide) rfl ?_
    refine r_goto X 85 dX3_init_104 (by decide) ?_
    cases E
    exact r_pick (by rfl : lpick [(1, .int (s0 + 1)), (0, .ref a0)] [1, 0] = _) (hc _ rfl)
set_option maxHeartbeats 4000000 in
theorem t_x3_init_l85_r {l : Launch} {G : GG} {M : MC} (X : CX M G cX3_init 2 RX3 ⟨4, 28, 221, 170⟩) (hl0 : M.2.1 = l) (hr : (mM M).sig.returnType = none) (hnm : (mM M).name = yX3_init.name) {Q : State → Prop} {kc ks : Nat} {a0 : Nat} : ∀ (n : Nat) (s0 : Int32) (g : AH) (t : (Unit)) (g1 : AH), loopX (x3_init_l85 a0) n s0 g = some (t, g1) → WW M G 2 Q kc ks g1 107 [] [] → WW M G 2 Q kc ks g 85 [(0, .ref a0), (1, .int s0)] [] :=
  loop_cps (K := fun t g1 => WW M G 2 Q kc ks g1 107 [] []) (fun _ s0 g => WW M G 2 Q kc ks g 85 [(0, .ref a0), (1, .int s0)] []) (fun n s0 g st g1 E hc hx => t_x3_init_l85 X hl0 hr hnm hc hx E)
set_option maxHeartbeats 4000000 in
set_option maxRecDepth 100000 in
theorem t_x3_init_b {l : Launch} {G : GG} {M : MC} (X : CX M G cX3_init 2 RX3 ⟨4, 28, 221, 170⟩) (hl0 : M.2.1 = l) (hr : (mM M).sig.returnType = none) (hnm : (mM M).name = yX3_init.name) {p : Nat} {g : AH} {r : Unit} {g1 : AH} (E : x3_init p g = some (r, g1)) : WW M G 2 (RQ M G none g1 28 221) 0 0 g 0 [(0, .ref p)] [] := by
  unfold x3_init at E
  refine r_aload_n X 0 dX3_init_0 rfl rfl ?_
  refine r_objInit X dX3_init_1 m_X3_3 (by decide) (Nat.le_of_ble_eq_true rfl) ?_
  refine r_aload_n X 0 dX3_init_4 rfl rfl ?_
  refine r_bipush X (v := 12) dX3_init_5 (by decide) ?_
  obtain ⟨x1, g2, e3, E⟩ := cb_some E
  refine r_newarr X 0 12 dX3_init_7 (by decide) rfl a_int (fun _ _ => rfl) (by decide) (by decide) (by decide) e3 ?_
  obtain ⟨g4, e5, E⟩ := gb_some E
  refine r_putF X dX3_init_9 f_X3_9 hnm (by intro C T N h; cases h; rfl) rfl rfl e5 ?_
  refine r_aload_n X 0 dX3_init_12 rfl rfl ?_
  refine r_bipush X (v := 12) dX3_init_13 (by decide) ?_
  obtain ⟨x6, g7, e8, E⟩ := cb_some E
  refine r_newarr X 0 12 dX3_init_15 (by decide) rfl a_int (fun _ _ => rfl) (by decide) (by decide) (by decide) e8 ?_
  obtain ⟨g9, e10, E⟩ := gb_some E
  refine r_putF X dX3_init_17 f_X3_15 hnm (by intro C T N h; cases h; rfl) rfl rfl e10 ?_
  refine r_aload_n X 0 dX3_init_20 rfl rfl ?_
  refine r_bipush X (v := 12) dX3_init_21 (by decide) ?_
  obtain ⟨x11, g12, e13, E⟩ := cb_some E
  refine r_newarr X 0 12 dX3_init_23 (by decide) rfl a_int (fun _ _ => rfl) (by decide) (by decide) (by decide) e13 ?_
  obtain ⟨g14, e15, E⟩ := gb_some E
  refine r_putF X dX3_init_25 f_X3_18 hnm (by intro C T N h; cases h; rfl) rfl rfl e15 ?_
  refine r_aload_n X 0 dX3_init_28 rfl rfl ?_
  refine r_bipush X (v := 16) dX3_init_29 (by decide) ?_
  obtain ⟨x16, g17, e18, E⟩ := cb_some E
  refine r_newarr X 0 16 dX3_init_31 (by decide) rfl a_int (fun _ _ => rfl) (by decide) (by decide) (by decide) e18 ?_
  obtain ⟨g19, e20, E⟩ := gb_some E
  refine r_putF X dX3_init_33 f_X3_21 hnm (by intro C T N h; cases h; rfl) rfl rfl e20 ?_
  refine r_aload_n X 0 dX3_init_36 rfl rfl ?_
  refine r_bipush X (v := 16) dX3_init_37 (by decide) ?_
  obtain ⟨x21, g22, e23, E⟩ := cb_some E
  refine r_newarr X 0 16 dX3_init_39 (by decide) rfl a_int (fun _ _ => rfl) (by decide) (by decide) (by decide) e23 ?_
  obtain ⟨g24, e25, E⟩ := gb_some E
  refine r_putF X dX3_init_41 f_X3_24 hnm (by intro C T N h; cases h; rfl) rfl rfl e25 ?_
  refine r_aload_n X 0 dX3_init_44 rfl rfl ?_
  refine r_bipush X (v := 10) dX3_init_45 (by decide) ?_
  obtain ⟨x26, g27, e28, E⟩ := cb_some E
  refine r_anew X 4 10 dX3_init_47 (by decide) rfl k_X3_27 X.2.2.2.2.1.2.2.2.1.1 (by decide) (by decide) e28 ?_
  obtain ⟨g29, e30, E⟩ := gb_some E
  refine r_putF X dX3_init_50 f_X3_29 hnm (by intro C T N h; cases h; rfl) rfl rfl e30 ?_
  refine r_iconst X (v := 0) dX3_init_53 (by decide) ?_
  refine r_istore_n X 1 (L1 := [(1, .int 0), (0, .ref p)]) dX3_init_54 rfl (by decide) rfl ?_
  obtain ⟨t31, g32, e33, E⟩ := cb_some E
  refine r_pick (by rfl : lpick [(1, .int 0), (0, .ref p)] [1, 0] = _) (t_x3_init_l55_r (Kc := 28) (Ks := 221) X hl0 hr hnm (by decide) (by decide) _ _ _ _ _ e33 ?_ _ _ (by decide) (by decide))
  refine r_iconst X (v := 0) dX3_init_83 (by decide) ?_
  refine r_istore_n X 1 (L1 := [(1, .int 0), (0, .ref p)]) dX3_init_84 rfl (by decide) rfl ?_
  obtain ⟨t34, g35, e36, E⟩ := cb_some E
  refine r_pick (by rfl : lpick [(1, .int 0), (0, .ref p)] [1, 0] = _) (t_x3_init_l85_r X hl0 hr hnm _ _ _ _ _ e36 ?_)
  cases E
  exact r_vret X hr dX3_init_107 (by decide) (by decide)
theorem t_x3_init {l : Launch} {G : GG} {p : Nat} {g : AH} {r : Unit} {g1 : AH} (E : x3_init p g = some (r, g1)) : Ct l G yX3_init cX3_init 2 none ⟨4, 28, 221, 170⟩ [.ref p] g none g1 :=
  ct_of (L0 := [(0, .ref p)]) y_X3_init rfl (Nat.le_of_ble_eq_true rfl) fun M hl0 X hr hnm => t_x3_init_b X hl0 hr hnm E
set_option maxHeartbeats 4000000 in
set_option maxRecDepth 100000 in
theorem t_x5_init_b {l : Launch} {G : GG} {M : MC} (X : CX M G cX5_init 1 RX5 ⟨5, 29, 240, 191⟩) (hl0 : M.2.1 = l) (hr : (mM M).sig.returnType = none) (hnm : (mM M).name = yX5_init.name) {p : Nat} {g : AH} {r : Unit} {g1 : AH} (E : x5_init p g = some (r, g1)) : WW M G 1 (RQ M G none g1 29 240) 0 0 g 0 [(0, .ref p)] [] := by
  unfold x5_init at E
  refine r_aload_n X 0 dX5_init_0 rfl rfl ?_
  refine r_objInit X dX5_init_1 m_X5_3 (by decide) (Nat.le_of_ble_eq_true rfl) ?_
  refine r_aload_n X 0 dX5_init_4 rfl rfl ?_
  obtain ⟨x1, g2, e3, E⟩ := cb_some E
  refine r_new X (ci := 3) dX5_init_5 rfl tyX3_ok flc3 k_X5_9 n_X3 (by decide) e3 ?_
  refine r_dup X dX5_init_8 rfl ?_
  obtain ⟨r4, g5, e6, E⟩ := cb_some E
  refine r_callI X hl0 dX5_init_9 y_X3_init m_X5_11 (t_x3_init (l := l) (G := G) e6) rfl rfl (Nat.le_of_ble_eq_true rfl) (by decide) ?_
  obtain ⟨g7, e8, E⟩ := gb_some E
  refine r_putF X dX5_init_12 f_X5_12 hnm (by intro C T N h; cases h; rfl) rfl rfl e8 ?_
  cases E
  exact r_vret X hr dX5_init_15 (by decide) (by decide)
theorem t_x5_init {l : Launch} {G : GG} {p : Nat} {g : AH} {r : Unit} {g1 : AH} (E : x5_init p g = some (r, g1)) : Ct l G yX5_init cX5_init 1 none ⟨5, 29, 240, 191⟩ [.ref p] g none g1 :=
  ct_of (L0 := [(0, .ref p)]) y_X5_init rfl (Nat.le_of_ble_eq_true rfl) fun M hl0 X hr hnm => t_x5_init_b X hl0 hr hnm E
set_option maxHeartbeats 4000000 in
set_option maxRecDepth 100000 in
theorem t_x8_newHuts_l15 {l : Launch} {G : GG} {M : MC} (X : CX M G cX8_newHuts 3 RX8 ⟨5, 204, 1686, 191⟩) (hl0 : M.2.1 = l) (hr : (mM M).sig.returnType = (some (.array (.object "HutLedger$Hut")))) (hnm : (mM M).name = yX8_newHuts.name) {Q : State → Prop} {kc ks : Nat} {s9 : ((Int32) ⊕ (Unit))} {g1 : AH} {a1 : Nat} {s0 : Int32} {Kc Ks : Nat} (hkc : kc + 29 ≤ Kc ∧ Kc ≤ 204) (hks : ks + 240 ≤ Ks ∧ Ks ≤ 1686) (hc : ∀ s1, s9 = .inl s1 → WW M G 3 Q (kc + 29) (ks + 240) g1 15 [(1, .ref a1), (2, .int s1)] []) (hx : ∀ t, s9 = .inr t → WW M G 3 Q Kc Ks g1 37 [(1, .ref a1)] []) {g : AH} (E : x8_newHuts_l15 a1 s0 g = some (s9, g1)) : WW M G 3 Q kc ks g 15 [(1, .ref a1), (2, .int s0)] [] := by
  unfold x8_newHuts_l15 at E
  refine r_iload_n X 2 dX8_newHuts_15 rfl rfl ?_
  refine r_aload_n X 1 dX8_newHuts_16 rfl rfl ?_
  obtain ⟨x1, e2, E⟩ := gb_some E
  refine r_alen X 5 (by decide) dX8_newHuts_17 e2 ?_
  refine r_icmp_ge X 37 dX8_newHuts_18 (by decide) (fun c3 => ?_) (fun c3 => ?_)
  · rw [if_pos c3] at E
    cases E
    exact r_widen X ⟨by (try dsimp only); omega, hkc.2⟩ ⟨by (try dsimp only); omega, hks.2⟩ <| r_pick (by rfl : lpick [(1, .ref a1), (2, .int s0)] [0] = _) (hx _ rfl)
  · rw [if_neg c3] at E
    refine r_aload_n X 1 dX8_newHuts_21 rfl rfl ?_
    refine r_iload_n X 2 dX8_newHuts_22 rfl rfl ?_
    obtain ⟨x4, g5, e6, E⟩ := cb_some E
    refine r_new X (ci := 3) dX8_newHuts_23 rfl tyX3_ok flc3 k_X8_7 n_X3 ⟨by show _ + 1 ≤ 204; (try dsimp only); omega, by show _ + 19 ≤ 1686; (try dsimp only); omega⟩ e6 ?_
    refine r_dup X dX8_newHuts_26 rfl ?_
    obtain ⟨r7, g8, e9, E⟩ := cb_some E
    refine r_callI X hl0 dX8_newHuts_27 y_X3_init m_X8_9 (t_x3_init (l := l) (G := G) e9) rfl rfl (Nat.le_of_ble_eq_true rfl) ⟨by decide, by show _ + 28 ≤ 204; (try dsimp only); omega, by show _ + 221 ≤ 1686; (try dsimp only); omega⟩ ?_
    obtain ⟨g10, e11, E⟩ := gb_some E
    refine r_aast X 5 3 (by decide) rfl rfl dX8_newHuts_30 e11 ?_
    refine r_iinc X (v := (s0 + 1)) (L1 := [(2, .int (s0 + 1)), (1, .ref a1)]) dX8_newHuts_31 rfl rfl (by decide) rfl ?_
    refine r_goto X 15 dX8_newHuts_34 (by decide) ?_
    cases E
    exact r_widen X ⟨by (try dsimp only); omega, Nat.le_trans hkc.1 hkc.2⟩ ⟨by (try dsimp only); omega, Nat.le_trans hks.1 hks.2⟩ <| r_pick (by rfl : lpick [(2, .int (s0 + 1)), (1, .ref a1)] [1, 0] = _) (hc _ rfl)
set_option maxHeartbeats 4000000 in
theorem t_x8_newHuts_l15_r {l : Launch} {G : GG} {M : MC} (X : CX M G cX8_newHuts 3 RX8 ⟨5, 204, 1686, 191⟩) (hl0 : M.2.1 = l) (hr : (mM M).sig.returnType = (some (.array (.object "HutLedger$Hut")))) (hnm : (mM M).name = yX8_newHuts.name) {Q : State → Prop} {Kc Ks : Nat} (hKc : Kc ≤ 204) (hKs : Ks ≤ 1686) {a1 : Nat} : ∀ (n : Nat) (s0 : Int32) (g : AH) (t : (Unit)) (g1 : AH), loopX (x8_newHuts_l15 a1) n s0 g = some (t, g1) → WW M G 3 Q Kc Ks g1 37 [(1, .ref a1)] [] → ∀ kc ks : Nat, kc + n * 29 ≤ Kc → ks + n * 240 ≤ Ks → WW M G 3 Q kc ks g 15 [(1, .ref a1), (2, .int s0)] [] :=
  loop_cps (K := fun t g1 => WW M G 3 Q Kc Ks g1 37 [(1, .ref a1)] []) (fun n s0 g => ∀ kc ks : Nat, kc + n * 29 ≤ Kc → ks + n * 240 ≤ Ks → WW M G 3 Q kc ks g 15 [(1, .ref a1), (2, .int s0)] []) (fun n s0 g st g1 E hc hx kc ks h1 h2 => by
    have e1 : (n + 1) * 29 = n * 29 + 29 := by omega
    have e2 : (n + 1) * 240 = n * 240 + 240 := by omega
    exact t_x8_newHuts_l15 X hl0 hr hnm ⟨by omega, hKc⟩ ⟨by omega, hKs⟩ (fun s1 e => hc s1 e _ _ (by omega) (by omega)) hx E)
set_option maxHeartbeats 4000000 in
set_option maxRecDepth 100000 in
theorem t_x8_newHuts_j9 {l : Launch} {G : GG} {M : MC} (X : CX M G cX8_newHuts 3 RX8 ⟨5, 204, 1686, 191⟩) (hl0 : M.2.1 = l) (hr : (mM M).sig.returnType = (some (.array (.object "HutLedger$Hut")))) (hnm : (mM M).name = yX8_newHuts.name) {s0 : Int32} {g : AH} {r : Nat} {g1 : AH} (E : x8_newHuts_j9 s0 g = some (r, g1)) : WW M G 3 (RQ M G (some (.ref r)) g1 204 1686) 0 0 g 9 [] [.int s0] := by
  unfold x8_newHuts_j9 at E
  by_cases c4 : 6 < (s0).toNatClampNeg
  · rw [if_pos c4] at E; cases E
  rw [if_neg c4] at E
  obtain ⟨x1, g2, e3, E⟩ := cb_some E
  refine r_anew X 5 6 dX8_newHuts_9 (by decide) rfl k_X8_7 X.2.2.2.2.1.2.2.2.1.2.1 (Nat.not_lt.mp c4) (by decide) e3 ?_
  refine r_astore_n X 1 (L1 := [(1, .ref x1)]) dX8_newHuts_12 rfl (by decide) rfl ?_
  refine r_iconst X (v := 0) dX8_newHuts_13 (by decide) ?_
  refine r_istore_n X 2 (L1 := [(2, .int 0), (1, .ref x1)]) dX8_newHuts_14 rfl (by decide) rfl ?_
  obtain ⟨t5, g6, e7, E⟩ := cb_some E
  refine r_pick (by rfl : lpick [(2, .int 0), (1, .ref x1)] [1, 0] = _) (t_x8_newHuts_l15_r (Kc := 204) (Ks := 1686) X hl0 hr hnm (by decide) (by decide) _ _ _ _ _ e7 ?_ _ _ (by decide) (by decide))
  refine r_aload_n X 1 dX8_newHuts_37 rfl rfl ?_
  cases E
  exact r_aret X hr (Or.inr ⟨_, rfl⟩) dX8_newHuts_38 (by decide) (by decide)
set_option maxHeartbeats 4000000 in
set_option maxRecDepth 100000 in
theorem t_x8_newHuts_b {l : Launch} {G : GG} {M : MC} (X : CX M G cX8_newHuts 3 RX8 ⟨5, 204, 1686, 191⟩) (hl0 : M.2.1 = l) (hr : (mM M).sig.returnType = (some (.array (.object "HutLedger$Hut")))) (hnm : (mM M).name = yX8_newHuts.name) {b0 : Int32} {g : AH} {r : Nat} {g1 : AH} (E : x8_newHuts b0 g = some (r, g1)) : WW M G 3 (RQ M G (some (.ref r)) g1 204 1686) 0 0 g 0 [(0, .int b0)] [] := by
  unfold x8_newHuts at E
  refine r_iload_n X 0 dX8_newHuts_0 rfl rfl ?_
  refine r_if_ge X 8 dX8_newHuts_1 (by decide) (fun c1 => ?_) (fun c1 => ?_)
  · rw [if_pos c1] at E
    refine r_iload_n X 0 dX8_newHuts_8 rfl rfl ?_
    exact r_widen X (by decide) (by decide) <| r_pick (by rfl : lpick [(0, .int b0)] [] = _) (t_x8_newHuts_j9 X hl0 hr hnm E)
  · rw [if_neg c1] at E
    refine r_iconst X (v := 0) dX8_newHuts_4 (by decide) ?_
    refine r_goto X 9 dX8_newHuts_5 (by decide) ?_
    exact r_widen X (by decide) (by decide) <| r_pick (by rfl : lpick [(0, .int b0)] [] = _) (t_x8_newHuts_j9 X hl0 hr hnm E)
theorem t_x8_newHuts {l : Launch} {G : GG} {b0 : Int32} {g : AH} {r : Nat} {g1 : AH} (E : x8_newHuts b0 g = some (r, g1)) : Ct l G yX8_newHuts cX8_newHuts 3 (some (.array (.object "HutLedger$Hut"))) ⟨5, 204, 1686, 191⟩ [.int b0] g (some (.ref r)) g1 :=
  ct_of (L0 := [(0, .int b0)]) y_X8_newHuts rfl (Nat.le_of_ble_eq_true rfl) fun M hl0 X hr hnm => t_x8_newHuts_b X hl0 hr hnm E
set_option maxHeartbeats 4000000 in
set_option maxRecDepth 100000 in
theorem t_x2_init_b {l : Launch} {G : GG} {M : MC} (X : CX M G cX2_init 1 RX2 ⟨6, 204, 1686, 213⟩) (hl0 : M.2.1 = l) (hr : (mM M).sig.returnType = none) (hnm : (mM M).name = yX2_init.name) {p : Nat} {g : AH} {r : Unit} {g1 : AH} (E : x2_init p g = some (r, g1)) : WW M G 1 (RQ M G none g1 204 1686) 0 0 g 0 [(0, .ref p)] [] := by
  unfold x2_init at E
  refine r_aload_n X 0 dX2_init_0 rfl rfl ?_
  refine r_objInit X dX2_init_1 m_X2_3 (by decide) (Nat.le_of_ble_eq_true rfl) ?_
  refine r_aload_n X 0 dX2_init_4 rfl rfl ?_
  refine r_bipush X (v := 6) dX2_init_5 (by decide) ?_
  obtain ⟨r1, g2, e3, E⟩ := cb_some E
  refine r_callSN X hl0 dX2_init_7 y_X8_newHuts (List.mem_of_getElem? (i := 7) rfl) (t_x8_newHuts (l := l) (G := G) e3) rfl rfl (Nat.le_of_ble_eq_true rfl) (by decide) ?_
  obtain ⟨g4, e5, E⟩ := gb_some E
  refine r_putF X dX2_init_10 f_X2_13 hnm (by intro C T N h; cases h; rfl) rfl rfl e5 ?_
  cases E
  exact r_vret X hr dX2_init_13 (by decide) (by decide)
theorem t_x2_init {l : Launch} {G : GG} {p : Nat} {g : AH} {r : Unit} {g1 : AH} (E : x2_init p g = some (r, g1)) : Ct l G yX2_init cX2_init 1 none ⟨6, 204, 1686, 213⟩ [.ref p] g none g1 :=
  ct_of (L0 := [(0, .ref p)]) y_X2_init rfl (Nat.le_of_ble_eq_true rfl) fun M hl0 X hr hnm => t_x2_init_b X hl0 hr hnm E
set_option maxHeartbeats 4000000 in
set_option maxRecDepth 100000 in
theorem t_x7_init_b {l : Launch} {G : GG} {M : MC} (X : CX M G cX7_init 1 RX7 ⟨3, 1, 500, 150⟩) (hl0 : M.2.1 = l) (hr : (mM M).sig.returnType = none) (hnm : (mM M).name = yX7_init.name) {p : Nat} {g : AH} {r : Unit} {g1 : AH} (E : x7_init p g = some (r, g1)) : WW M G 1 (RQ M G none g1 1 500) 0 0 g 0 [(0, .ref p)] [] := by
  unfold x7_init at E
  refine r_aload_n X 0 dX7_init_0 rfl rfl ?_
  refine r_objInit X dX7_init_1 m_X7_3 (by decide) (Nat.le_of_ble_eq_true rfl) ?_
  refine r_aload_n X 0 dX7_init_4 rfl rfl ?_
  refine r_sipush X (v := 500) dX7_init_5 (by decide) ?_
  obtain ⟨x1, g2, e3, E⟩ := cb_some E
  refine r_newarr X 0 500 dX7_init_8 (by decide) rfl a_int (fun _ _ => rfl) (by decide) (by decide) (by decide) e3 ?_
  obtain ⟨g4, e5, E⟩ := gb_some E
  refine r_putF X dX7_init_10 f_X7_9 hnm (by intro C T N h; cases h; rfl) rfl rfl e5 ?_
  cases E
  exact r_vret X hr dX7_init_13 (by decide) (by decide)
theorem t_x7_init {l : Launch} {G : GG} {p : Nat} {g : AH} {r : Unit} {g1 : AH} (E : x7_init p g = some (r, g1)) : Ct l G yX7_init cX7_init 1 none ⟨3, 1, 500, 150⟩ [.ref p] g none g1 :=
  ct_of (L0 := [(0, .ref p)]) y_X7_init rfl (Nat.le_of_ble_eq_true rfl) fun M hl0 X hr hnm => t_x7_init_b X hl0 hr hnm E
set_option maxHeartbeats 4000000 in
set_option maxRecDepth 100000 in
theorem t_x0_init_b {l : Launch} {G : GG} {M : MC} (X : CX M G cX0_init 1 RX0 ⟨4, 2, 505, 170⟩) (hl0 : M.2.1 = l) (hr : (mM M).sig.returnType = none) (hnm : (mM M).name = yX0_init.name) {p : Nat} {g : AH} {r : Unit} {g1 : AH} (E : x0_init p g = some (r, g1)) : WW M G 1 (RQ M G none g1 2 505) 0 0 g 0 [(0, .ref p)] [] := by
  unfold x0_init at E
  refine r_aload_n X 0 dX0_init_0 rfl rfl ?_
  refine r_objInit X dX0_init_1 m_X0_3 (by decide) (Nat.le_of_ble_eq_true rfl) ?_
  refine r_aload_n X 0 dX0_init_4 rfl rfl ?_
  obtain ⟨x1, g2, e3, E⟩ := cb_some E
  refine r_new X (ci := 7) dX0_init_5 rfl tyX7_ok flc7 k_X0_9 n_X7 (by decide) e3 ?_
  refine r_dup X dX0_init_8 rfl ?_
  obtain ⟨r4, g5, e6, E⟩ := cb_some E
  refine r_callIN X hl0 dX0_init_9 y_X7_init (List.mem_of_getElem? (i := 5) rfl) (t_x7_init (l := l) (G := G) e6) rfl rfl (Nat.le_of_ble_eq_true rfl) (by decide) ?_
  obtain ⟨g7, e8, E⟩ := gb_some E
  refine r_putF X dX0_init_12 f_X0_12 hnm (by intro C T N h; cases h; rfl) rfl rfl e8 ?_
  refine r_aload_n X 0 dX0_init_15 rfl rfl ?_
  refine r_iconst X (v := 0) dX0_init_16 (by decide) ?_
  obtain ⟨g9, e10, E⟩ := gb_some E
  refine r_put X dX0_init_17 f_X0_18 rfl rfl e10 ?_
  refine r_aload_n X 0 dX0_init_20 rfl rfl ?_
  refine r_iconst X (v := (-1)) dX0_init_21 (by decide) ?_
  obtain ⟨g11, e12, E⟩ := gb_some E
  refine r_put X dX0_init_22 f_X0_22 rfl rfl e12 ?_
  cases E
  exact r_vret X hr dX0_init_25 (by decide) (by decide)
theorem t_x0_init {l : Launch} {G : GG} {p : Nat} {g : AH} {r : Unit} {g1 : AH} (E : x0_init p g = some (r, g1)) : Ct l G yX0_init cX0_init 1 none ⟨4, 2, 505, 170⟩ [.ref p] g none g1 :=
  ct_of (L0 := [(0, .ref p)]) y_X0_init rfl (Nat.le_of_ble_eq_true rfl) fun M hl0 X hr hnm => t_x0_init_b X hl0 hr hnm E
set_option maxHeartbeats 4000000 in
set_option maxRecDepth 100000 in
theorem t_x6_init_b {l : Launch} {G : GG} {M : MC} (X : CX M G cX6_init 1 RX6 ⟨3, 3, 90, 150⟩) (hl0 : M.2.1 = l) (hr : (mM M).sig.returnType = none) (hnm : (mM M).name = yX6_init.name) {p : Nat} {g : AH} {r : Unit} {g1 : AH} (E : x6_init p g = some (r, g1)) : WW M G 1 (RQ M G none g1 3 90) 0 0 g 0 [(0, .ref p)] [] := by
  unfold x6_init at E
  refine r_aload_n X 0 dX6_init_0 rfl rfl ?_
  refine r_objInit X dX6_init_1 m_X6_3 (by decide) (Nat.le_of_ble_eq_true rfl) ?_
  refine r_aload_n X 0 dX6_init_4 rfl rfl ?_
  refine r_bipush X (v := 30) dX6_init_5 (by decide) ?_
  obtain ⟨x1, g2, e3, E⟩ := cb_some E
  refine r_newarr X 0 30 dX6_init_7 (by decide) rfl a_int (fun _ _ => rfl) (by decide) (by decide) (by decide) e3 ?_
  obtain ⟨g4, e5, E⟩ := gb_some E
  refine r_putF X dX6_init_9 f_X6_9 hnm (by intro C T N h; cases h; rfl) rfl rfl e5 ?_
  refine r_aload_n X 0 dX6_init_12 rfl rfl ?_
  refine r_bipush X (v := 30) dX6_init_13 (by decide) ?_
  obtain ⟨x6, g7, e8, E⟩ := cb_some E
  refine r_newarr X 0 30 dX6_init_15 (by decide) rfl a_int (fun _ _ => rfl) (by decide) (by decide) (by decide) e8 ?_
  obtain ⟨g9, e10, E⟩ := gb_some E
  refine r_putF X dX6_init_17 f_X6_15 hnm (by intro C T N h; cases h; rfl) rfl rfl e10 ?_
  refine r_aload_n X 0 dX6_init_20 rfl rfl ?_
  refine r_bipush X (v := 30) dX6_init_21 (by decide) ?_
  obtain ⟨x11, g12, e13, E⟩ := cb_some E
  refine r_newarr X 0 30 dX6_init_23 (by decide) rfl a_int (fun _ _ => rfl) (by decide) (by decide) (by decide) e13 ?_
  obtain ⟨g14, e15, E⟩ := gb_some E
  refine r_putF X dX6_init_25 f_X6_18 hnm (by intro C T N h; cases h; rfl) rfl rfl e15 ?_
  cases E
  exact r_vret X hr dX6_init_28 (by decide) (by decide)
theorem t_x6_init {l : Launch} {G : GG} {p : Nat} {g : AH} {r : Unit} {g1 : AH} (E : x6_init p g = some (r, g1)) : Ct l G yX6_init cX6_init 1 none ⟨3, 3, 90, 150⟩ [.ref p] g none g1 :=
  ct_of (L0 := [(0, .ref p)]) y_X6_init rfl (Nat.le_of_ble_eq_true rfl) fun M hl0 X hr hnm => t_x6_init_b X hl0 hr hnm E
set_option maxHeartbeats 4000000 in
set_option maxRecDepth 100000 in
theorem t_x4_init_b {l : Launch} {G : GG} {M : MC} (X : CX M G cX4_init 1 RX4 ⟨3, 1, 400, 150⟩) (hl0 : M.2.1 = l) (hr : (mM M).sig.returnType = none) (hnm : (mM M).name = yX4_init.name) {p : Nat} {g : AH} {r : Unit} {g1 : AH} (E : x4_init p g = some (r, g1)) : WW M G 1 (RQ M G none g1 1 400) 0 0 g 0 [(0, .ref p)] [] := by
  unfold x4_init at E
  refine r_aload_n X 0 dX4_init_0 rfl rfl ?_
  refine r_objInit X dX4_init_1 m_X4_3 (by decide) (Nat.le_of_ble_eq_true rfl) ?_
  refine r_aload_n X 0 dX4_init_4 rfl rfl ?_
  refine r_sipush X (v := 400) dX4_init_5 (by decide) ?_
  obtain ⟨x1, g2, e3, E⟩ := cb_some E
  refine r_newarr X 0 400 dX4_init_8 (by decide) rfl a_int (fun _ _ => rfl) (by decide) (by decide) (by decide) e3 ?_
  obtain ⟨g4, e5, E⟩ := gb_some E
  refine r_putF X dX4_init_10 f_X4_9 hnm (by intro C T N h; cases h; rfl) rfl rfl e5 ?_
  cases E
  exact r_vret X hr dX4_init_13 (by decide) (by decide)
theorem t_x4_init {l : Launch} {G : GG} {p : Nat} {g : AH} {r : Unit} {g1 : AH} (E : x4_init p g = some (r, g1)) : Ct l G yX4_init cX4_init 1 none ⟨3, 1, 400, 150⟩ [.ref p] g none g1 :=
  ct_of (L0 := [(0, .ref p)]) y_X4_init rfl (Nat.le_of_ble_eq_true rfl) fun M hl0 X hr hnm => t_x4_init_b X hl0 hr hnm E
set_option maxHeartbeats 4000000 in
set_option maxRecDepth 100000 in
theorem t_x7_putAll_l2 {l : Launch} {G : GG} {M : MC} (X : CX M G cX7_putAll 3 RX7 ⟨8, 0, 0, 242⟩) (hl0 : M.2.1 = l) (hr : (mM M).sig.returnType = none) (hnm : (mM M).name = yX7_putAll.name) {Q : State → Prop} {kc ks : Nat} {s9 : ((Int32) ⊕ (Unit))} {g1 : AH} {a0 : Nat} {a1 : Nat} {s0 : Int32} (hc : ∀ s1, s9 = .inl s1 → WW M G 3 Q kc ks g1 2 [(0, .ref a0), (1, .ref (G.2.2.1 a1)), (2, .int s1)] []) (hx : ∀ t, s9 = .inr t → WW M G 3 Q kc ks g1 25 [] []) {g : AH} (E : x7_putAll_l2 a0 a1 s0 g = some (s9, g1)) : WW M G 3 Q kc ks g 2 [(0, .ref a0), (1, .ref (G.2.2.1 a1)), (2, .int s0)] [] := by
  unfold x7_putAll_l2 at E
  refine r_iload_n X 2 dX7_putAll_2 rfl rfl ?_
  refine r_aload_n X 1 dX7_putAll_3 rfl rfl ?_
  obtain ⟨x1, e2, E⟩ := gb_some E
  refine r_strLen X hl0 dX7_putAll_4 m_X7_23 e2 (Nat.le_of_ble_eq_true rfl) (by decide) ?_
  refine r_icmp_ge X 25 dX7_putAll_7 (by decide) (fun c3 => ?_) (fun c3 => ?_)
  · rw [if_pos c3] at E
    cases E
    exact r_pick (by rfl : lpick [(0, .ref a0), (1, .ref (G.2.2.1 a1)), (2, .int s0)] [] = _) (hx _ rfl)
  · rw [if_neg c3] at E
    refine r_aload_n X 0 dX7_putAll_10 rfl rfl ?_
    refine r_aload_n X 1 dX7_putAll_11 rfl rfl ?_
    refine r_iload_n X 2 dX7_putAll_12 rfl rfl ?_
    obtain ⟨x4, e5, E⟩ := gb_some E
    refine r_strAt X hl0 dX7_putAll_13 m_X7_28 e5 (Nat.le_of_ble_eq_true rfl) (by decide) ?_
    obtain ⟨u9, e10, E⟩ := gb_some E
    obtain ⟨r6, g7, e8, E⟩ := cb_some E
    refine r_callV0 X hl0 (ci := 7) dX7_putAll_16 y_X7_put m_X7_32 rfl rfl e10 (t_x7_put (l := l) (G := G) e8) rfl rfl (Nat.le_of_ble_eq_true rfl) (by decide) ?_
    refine r_iinc X (v := (s0 + 1)) (L1 := [(2, .int (s0 + 1)), (0, .ref a0), (1, .ref (G.2.2.1 a1))]) dX7_putAll_19 rfl rfl (by decide) rfl ?_
    refine r_goto X 2 dX7_putAll_22 (by decide) ?_
    cases E
    exact r_pick (by rfl : lpick [(2, .int (s0 + 1)), (0, .ref a0), (1, .ref (G.2.2.1 a1))] [1, 2, 0] = _) (hc _ rfl)
set_option maxHeartbeats 4000000 in
theorem t_x7_putAll_l2_r {l : Launch} {G : GG} {M : MC} (X : CX M G cX7_putAll 3 RX7 ⟨8, 0, 0, 242⟩) (hl0 : M.2.1 = l) (hr : (mM M).sig.returnType = none) (hnm : (mM M).name = yX7_putAll.name) {Q : State → Prop} {kc ks : Nat} {a0 : Nat} {a1 : Nat} : ∀ (n : Nat) (s0 : Int32) (g : AH) (t : (Unit)) (g1 : AH), loopX (x7_putAll_l2 a0 a1) n s0 g = some (t, g1) → WW M G 3 Q kc ks g1 25 [] [] → WW M G 3 Q kc ks g 2 [(0, .ref a0), (1, .ref (G.2.2.1 a1)), (2, .int s0)] [] :=
  loop_cps (K := fun t g1 => WW M G 3 Q kc ks g1 25 [] []) (fun _ s0 g => WW M G 3 Q kc ks g 2 [(0, .ref a0), (1, .ref (G.2.2.1 a1)), (2, .int s0)] []) (fun n s0 g st g1 E hc hx => t_x7_putAll_l2 X hl0 hr hnm hc hx E)
set_option maxHeartbeats 4000000 in
set_option maxRecDepth 100000 in
theorem t_x7_putAll_b {l : Launch} {G : GG} {M : MC} (X : CX M G cX7_putAll 3 RX7 ⟨8, 0, 0, 242⟩) (hl0 : M.2.1 = l) (hr : (mM M).sig.returnType = none) (hnm : (mM M).name = yX7_putAll.name) {p : Nat} {b0 : Nat} {g : AH} {r : Unit} {g1 : AH} (E : x7_putAll p b0 g = some (r, g1)) : WW M G 3 (RQ M G none g1 0 0) 0 0 g 0 [(0, .ref p), (1, .ref (G.2.2.1 b0))] [] := by
  unfold x7_putAll at E
  refine r_iconst X (v := 0) dX7_putAll_0 (by decide) ?_
  refine r_istore_n X 2 (L1 := [(2, .int 0), (0, .ref p), (1, .ref (G.2.2.1 b0))]) dX7_putAll_1 rfl (by decide) rfl ?_
  obtain ⟨t1, g2, e3, E⟩ := cb_some E
  refine r_pick (by rfl : lpick [(2, .int 0), (0, .ref p), (1, .ref (G.2.2.1 b0))] [1, 2, 0] = _) (t_x7_putAll_l2_r X hl0 hr hnm _ _ _ _ _ e3 ?_)
  cases E
  exact r_vret X hr dX7_putAll_25 (by decide) (by decide)
theorem t_x7_putAll {l : Launch} {G : GG} {p : Nat} {b0 : Nat} {g : AH} {r : Unit} {g1 : AH} (E : x7_putAll p b0 g = some (r, g1)) : Ct l G yX7_putAll cX7_putAll 3 none ⟨8, 0, 0, 242⟩ [.ref p, .ref (G.2.2.1 b0)] g none g1 :=
  ct_of (L0 := [(0, .ref p), (1, .ref (G.2.2.1 b0))]) y_X7_putAll rfl (Nat.le_of_ble_eq_true rfl) fun M hl0 X hr hnm => t_x7_putAll_b X hl0 hr hnm E
set_option maxHeartbeats 4000000 in
set_option maxRecDepth 100000 in
theorem t_x8_init_b {l : Launch} {G : GG} {M : MC} (X : CX M G cX8_init 1 RX8 ⟨12, 507, 5103, 329⟩) (hl0 : M.2.1 = l) (hr : (mM M).sig.returnType = none) (hnm : (mM M).name = yX8_init.name) {p : Nat} {g : AH} {r : Unit} {g1 : AH} (E : x8_init p g = some (r, g1)) : WW M G 1 (RQ M G none g1 507 5103) 0 0 g 0 [(0, .ref p)] [] := by
  unfold x8_init at E
  refine r_aload_n X 0 dX8_init_0 rfl rfl ?_
  refine r_objInit X dX8_init_1 m_X8_1 (by decide) (Nat.le_of_ble_eq_true rfl) ?_
  refine r_aload_n X 0 dX8_init_4 rfl rfl ?_
  obtain ⟨x1, g2, e3, E⟩ := cb_some E
  refine r_new X (ci := 3) dX8_init_5 rfl tyX3_ok flc3 k_X8_7 n_X3 (by decide) e3 ?_
  refine r_dup X dX8_init_8 rfl ?_
  obtain ⟨r4, g5, e6, E⟩ := cb_some E
  refine r_callI X hl0 dX8_init_9 y_X3_init m_X8_9 (t_x3_init (l := l) (G := G) e6) rfl rfl (Nat.le_of_ble_eq_true rfl) (by decide) ?_
  obtain ⟨g7, e8, E⟩ := gb_some E
  refine r_putF X dX8_init_12 f_X8_10 hnm (by intro C T N h; cases h; rfl) rfl rfl e8 ?_
  refine r_aload_n X 0 dX8_init_15 rfl rfl ?_
  obtain ⟨x9, g10, e11, E⟩ := cb_some E
  refine r_new X (ci := 3) dX8_init_16 rfl tyX3_ok flc3 k_X8_7 n_X3 (by decide) e11 ?_
  refine r_dup X dX8_init_19 rfl ?_
  obtain ⟨r12, g13, e14, E⟩ := cb_some E
  refine r_callI X hl0 dX8_init_20 y_X3_init m_X8_9 (t_x3_init (l := l) (G := G) e14) rfl rfl (Nat.le_of_ble_eq_true rfl) (by decide) ?_
  obtain ⟨g15, e16, E⟩ := gb_some E
  refine r_putF X dX8_init_23 f_X8_16 hnm (by intro C T N h; cases h; rfl) rfl rfl e16 ?_
  refine r_aload_n X 0 dX8_init_26 rfl rfl ?_
  obtain ⟨x17, g18, e19, E⟩ := cb_some E
  refine r_new X (ci := 5) dX8_init_27 rfl tyX5_ok flc5 k_X8_19 n_X5 (by decide) e19 ?_
  refine r_dup X dX8_init_30 rfl ?_
  obtain ⟨r20, g21, e22, E⟩ := cb_some E
  refine r_callIN X hl0 dX8_init_31 y_X5_init (List.mem_of_getElem? (i := 0) rfl) (t_x5_init (l := l) (G := G) e22) rfl rfl (Nat.le_of_ble_eq_true rfl) (by decide) ?_
  obtain ⟨g23, e24, E⟩ := gb_some E
  refine r_putF X dX8_init_34 f_X8_22 hnm (by intro C T N h; cases h; rfl) rfl rfl e24 ?_
  refine r_aload_n X 0 dX8_init_37 rfl rfl ?_
  obtain ⟨x25, g26, e27, E⟩ := cb_some E
  refine r_new X (ci := 2) dX8_init_38 rfl tyX2_ok flc2 k_X8_26 n_X2 (by decide) e27 ?_
  refine r_dup X dX8_init_41 rfl ?_
  obtain ⟨r28, g29, e30, E⟩ := cb_some E
  refine r_callIN X hl0 dX8_init_42 y_X2_init (List.mem_of_getElem? (i := 1) rfl) (t_x2_init (l := l) (G := G) e30) rfl rfl (Nat.le_of_ble_eq_true rfl) (by decide) ?_
  obtain ⟨g31, e32, E⟩ := gb_some E
  refine r_putF X dX8_init_45 f_X8_29 hnm (by intro C T N h; cases h; rfl) rfl rfl e32 ?_
  refine r_aload_n X 0 dX8_init_48 rfl rfl ?_
  refine r_iconst X (v := 2) dX8_init_49 (by decide) ?_
  obtain ⟨r33, g34, e35, E⟩ := cb_some E
  refine r_callS X hl0 dX8_init_50 y_X8_newHuts m_X8_33 (t_x8_newHuts (l := l) (G := G) e35) rfl rfl (Nat.le_of_ble_eq_true rfl) (by decide) ?_
  obtain ⟨g36, e37, E⟩ := gb_some E
  refine r_putF X dX8_init_53 f_X8_37 hnm (by intro C T N h; cases h; rfl) rfl rfl e37 ?_
  refine r_aload_n X 0 dX8_init_56 rfl rfl ?_
  refine r_iconst X (v := 2) dX8_init_57 (by decide) ?_
  obtain ⟨x38, g39, e40, E⟩ := cb_some E
  refine r_newarr X 2 2 dX8_init_58 (by decide) rfl a_boolean (fun _ _ => rfl) (by decide) (by decide) (by decide) e40 ?_
  obtain ⟨g41, e42, E⟩ := gb_some E
  refine r_putF X dX8_init_60 f_X8_41 hnm (by intro C T N h; cases h; rfl) rfl rfl e42 ?_
  refine r_aload_n X 0 dX8_init_63 rfl rfl ?_
  obtain ⟨x43, g44, e45, E⟩ := cb_some E
  refine r_new X (ci := 0) dX8_init_64 rfl tyX0_ok flc0 k_X8_45 n_X0 (by decide) e45 ?_
  refine r_dup X dX8_init_67 rfl ?_
  obtain ⟨r46, g47, e48, E⟩ := cb_some E
  refine r_callIN X hl0 dX8_init_68 y_X0_init (List.mem_of_getElem? (i := 2) rfl) (t_x0_init (l := l) (G := G) e48) rfl rfl (Nat.le_of_ble_eq_true rfl) (by decide) ?_
  obtain ⟨g49, e50, E⟩ := gb_some E
  refine r_putF X dX8_init_71 f_X8_48 hnm (by intro C T N h; cases h; rfl) rfl rfl e50 ?_
  refine r_aload_n X 0 dX8_init_74 rfl rfl ?_
  obtain ⟨x51, g52, e53, E⟩ := cb_some E
  refine r_new X (ci := 6) dX8_init_75 rfl tyX6_ok flc6 k_X8_52 n_X6 (by decide) e53 ?_
  refine r_dup X dX8_init_78 rfl ?_
  obtain ⟨r54, g55, e56, E⟩ := cb_some E
  refine r_callIN X hl0 dX8_init_79 y_X6_init (List.mem_of_getElem? (i := 3) rfl) (t_x6_init (l := l) (G := G) e56) rfl rfl (Nat.le_of_ble_eq_true rfl) (by decide) ?_
  obtain ⟨g57, e58, E⟩ := gb_some E
  refine r_putF X dX8_init_82 f_X8_55 hnm (by intro C T N h; cases h; rfl) rfl rfl e58 ?_
  refine r_aload_n X 0 dX8_init_85 rfl rfl ?_
  obtain ⟨x59, g60, e61, E⟩ := cb_some E
  refine r_new X (ci := 4) dX8_init_86 rfl tyX4_ok flc4 k_X8_59 n_X4 (by decide) e61 ?_
  refine r_dup X dX8_init_89 rfl ?_
  obtain ⟨r62, g63, e64, E⟩ := cb_some E
  refine r_callIN X hl0 dX8_init_90 y_X4_init (List.mem_of_getElem? (i := 4) rfl) (t_x4_init (l := l) (G := G) e64) rfl rfl (Nat.le_of_ble_eq_true rfl) (by decide) ?_
  obtain ⟨g65, e66, E⟩ := gb_some E
  refine r_putF X dX8_init_93 f_X8_62 hnm (by intro C T N h; cases h; rfl) rfl rfl e66 ?_
  refine r_aload_n X 0 dX8_init_96 rfl rfl ?_
  obtain ⟨x67, e68, E⟩ := gb_some E
  refine r_getR X dX8_init_97 f_X8_48 e68 ?_
  obtain ⟨x69, e70, E⟩ := gb_some E
  refine r_getR X dX8_init_100 f_X8_66 e70 ?_
  refine r_ldcS X dX8_init_103 (List.mem_of_getElem? (i := 0) rfl) ?_
  obtain ⟨u74, e75, E⟩ := gb_some E
  obtain ⟨r71, g72, e73, E⟩ := cb_some E
  refine r_callV0 X hl0 (ci := 7) dX8_init_105 y_X7_putAll m_X8_72 rfl rfl e75 (t_x7_putAll (l := l) (G := G) e73) rfl rfl (Nat.le_of_ble_eq_true rfl) (by decide) ?_
  refine r_aload_n X 0 dX8_init_108 rfl rfl ?_
  obtain ⟨x76, e77, E⟩ := gb_some E
  refine r_getR X dX8_init_109 f_X8_48 e77 ?_
  refine r_aload_n X 0 dX8_init_112 rfl rfl ?_
  obtain ⟨x78, e79, E⟩ := gb_some E
  refine r_getR X dX8_init_113 f_X8_10 e79 ?_
  obtain ⟨u83, e84, E⟩ := gb_some E
  obtain ⟨r80, g81, e82, E⟩ := cb_some E
  refine r_callV0 X hl0 (ci := 0) dX8_init_116 y_X0_readSetup m_X8_78 rfl rfl e84 (t_x0_readSetup (l := l) (G := G) e82) rfl rfl (Nat.le_of_ble_eq_true rfl) (by decide) ?_
  refine r_pop X dX8_init_119 rfl ?_
  refine r_aload_n X 0 dX8_init_120 rfl rfl ?_
  obtain ⟨x85, e86, E⟩ := gb_some E
  refine r_getR X dX8_init_121 f_X8_48 e86 ?_
  obtain ⟨x87, e88, E⟩ := gb_some E
  refine r_getR X dX8_init_124 f_X8_66 e88 ?_
  refine r_iconst X (v := 0) dX8_init_127 (by decide) ?_
  obtain ⟨g89, e90, E⟩ := gb_some E
  refine r_put X dX8_init_128 f_X8_82 rfl rfl e90 ?_
  cases E
  exact r_vret X hr dX8_init_131 (by decide) (by decide)
theorem t_x8_init {l : Launch} {G : GG} {p : Nat} {g : AH} {r : Unit} {g1 : AH} (E : x8_init p g = some (r, g1)) : Ct l G yX8_init cX8_init 1 none ⟨12, 507, 5103, 329⟩ [.ref p] g none g1 :=
  ct_of (L0 := [(0, .ref p)]) y_X8_init rfl (Nat.le_of_ble_eq_true rfl) fun M hl0 X hr hnm => t_x8_init_b X hl0 hr hnm E
