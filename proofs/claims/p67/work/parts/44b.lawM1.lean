/-! functions and contracts, by program: under, same, pays, dawns -/
def l_under_l2 (a0 : Nat) (a1 : Int32) (s0 : Int32) (g : AH) : Option (((Int32) ⊕ ((Unit) ⊕ Option Nat)) × AH) :=
  gb (getR 10 g a0 3) fun x1 => gb (isO 12 g x1) fun _ => cb (jx4a65c_size_8abf5 x1 g) fun r3 g4 => if r3 ≤ s0 then
  some (.inr (.inl ()), g4)
  else
  gb (getR 10 g4 a0 3) fun x9 => gb (isO 12 g4 x9) fun _ => cb (jx4a65c_get_915e3 x9 s0 g4) fun r11 g12 => gb (isO 9 g12 r11) fun u16 => gb (getI 9 g12 r11 6) fun x18 => if x18 = a1 then
  gb (getR 10 g12 a0 3) fun x21 => gb (isO 12 g12 x21) fun _ => cb (jx4a65c_get_915e3 x21 s0 g12) fun r23 g24 => gb (isO 9 g24 r23) fun u28 => some (.inr (.inr r23), g24)
  else
  some (.inl (s0 + 1), g12)
def l_under (p : Nat) (b0 : Int32) (g : AH) : Option (Option Nat × AH) :=
  cb (loopX (l_under_l2 p b0) 1000 0 g) fun t1 g2 => Sum.elim (fun t4 =>
  some (none, g2)) (fun t5 => some (t5, g2)) t1
def l_same_l44 (a0 : Nat) (a1 : Int32) (a2 : Int32) (a3 : Int32) (a4 : Int32) (a5 : Int32) (a6 : Int32) (a7 : Nat) (s0 : Int32) (g : AH) : Option (((Int32) ⊕ ((Unit) ⊕ Int32)) × AH) :=
  if 4 ≤ s0 then
  some (.inr (.inl ()), g)
  else
  gb (getR 10 g a0 0) fun x2 => cb (l_hoursOf x2 a6 s0 g) fun r4 g5 => gb (getR 9 g5 a7 7) fun x7 => gb (aldI 0 g5 x7 s0) fun x9 => if r4 = x9 then
  some (.inl (s0 + 1), g5)
  else
  some (.inr (.inr 0), g5)
def l_same_j236_15 (a0 : Nat) (a1 : Int32) (a2 : Int32) (a3 : Int32) (a5 : Int32) (a6 : Int32) (a7 : Nat) (s0 : Int32) (s1 : Int32) (g : AH) : Option (((Int32 × Int32 × Int32 × Int32 × Int32 × Int32) ⊕ ((Int32 × Int32 × Int32 × Int32 × Int32) ⊕ Int32)) × AH) :=
  gb (isO 10 g a0) fun _ => cb (l_warm a0 a7 g) fun r1 g2 => some (.inl (a1, a2, a3, (s1 + s0), (a5 + r1), (a6 + 1)), g2)
def l_same_j209_15 (a0 : Nat) (a1 : Int32) (a3 : Int32) (a4 : Int32) (a5 : Int32) (a6 : Int32) (a7 : Nat) (s0 : Int32) (s1 : Int32) (g : AH) : Option (((Int32 × Int32 × Int32 × Int32 × Int32 × Int32) ⊕ ((Int32 × Int32 × Int32 × Int32 × Int32) ⊕ Int32)) × AH) :=
  gb (getR 9 g a7 7) fun x1 => gb (aldI 0 g x1 2) fun x3 => gb (getI 9 g a7 6) fun x5 => if 0 ≤ x5 then
  l_same_j236_15 a0 a1 (s1 + s0) (a3 + x3) a5 a6 a7 0 a4 g
  else
  l_same_j236_15 a0 a1 (s1 + s0) (a3 + x3) a5 a6 a7 1 a4 g
def l_same_l15 (a0 : Nat) (s0 : Int32 × Int32 × Int32 × Int32 × Int32 × Int32) (g : AH) : Option (((Int32 × Int32 × Int32 × Int32 × Int32 × Int32) ⊕ ((Int32 × Int32 × Int32 × Int32 × Int32) ⊕ Int32)) × AH) :=
  gb (getR 10 g a0 3) fun x1 => gb (isO 12 g x1) fun _ => cb (jx4a65c_size_8abf5 x1 g) fun r3 g4 => if r3 ≤ s0.2.2.2.2.2 then
  some (.inr (.inl (s0.1, s0.2.1, s0.2.2.1, s0.2.2.2.1, s0.2.2.2.2.1)), g4)
  else
  gb (getR 10 g4 a0 3) fun x9 => gb (isO 12 g4 x9) fun _ => cb (jx4a65c_get_915e3 x9 s0.2.2.2.2.2 g4) fun r11 g12 => gb (isO 9 g12 r11) fun u16 => cb (loopX (l_same_l44 a0 s0.1 s0.2.1 s0.2.2.1 s0.2.2.2.1 s0.2.2.2.2.1 s0.2.2.2.2.2 r11) 5 0 g12) fun t18 g19 => Sum.elim (fun t21 =>
  gb (getR 10 g19 a0 0) fun x23 => cb (l_bunkOf x23 s0.2.2.2.2.2 g19) fun r25 g26 => gb (getI 9 g26 r11 5) fun x28 => if r25 = x28 then
  gb (getR 10 g26 a0 0) fun x31 => cb (l_blanketOf x31 s0.2.2.2.2.2 g26) fun r33 g34 => gb (getI 9 g34 r11 6) fun x36 => if r33 = x36 then
  gb (getR 10 g34 a0 0) fun x39 => cb (l_warmth x39 s0.2.2.2.2.2 g34) fun r41 g42 => gb (isO 10 g42 a0) fun _ => cb (l_warm a0 r11 g42) fun r44 g45 => if r41 = r44 then
  gb (getR 10 g45 a0 0) fun x50 => cb (l_activity x50 s0.2.2.2.2.2 g45) fun r52 g53 => gb (isO 10 g53 a0) fun _ => cb (l_does a0 r11 g53) fun r55 g56 => if r52 = r55 then
  gb (getR 10 g56 a0 0) fun x61 => cb (l_coinsOf x61 s0.2.2.2.2.2 g56) fun r63 g64 => gb (getI 9 g64 r11 3) fun x66 => if r63 = x66 then
  gb (getR 10 g64 a0 0) fun x69 => cb (l_debtOf x69 s0.2.2.2.2.2 g64) fun r71 g72 => gb (getI 9 g72 r11 4) fun x74 => if r71 = x74 then
  gb (getI 9 g72 r11 4) fun x77 => gb (isO 10 g72 a0) fun _ => cb (l_isCold a0 r11 g72) fun r79 g80 => if r79 = 0 then
  l_same_j209_15 a0 (s0.1 + x77) s0.2.2.1 s0.2.2.2.1 s0.2.2.2.2.1 s0.2.2.2.2.2 r11 0 s0.2.1 g80
  else
  l_same_j209_15 a0 (s0.1 + x77) s0.2.2.1 s0.2.2.2.1 s0.2.2.2.2.1 s0.2.2.2.2.2 r11 1 s0.2.1 g80
  else
  some (.inr (.inr 0), g72)
  else
  some (.inr (.inr 0), g64)
  else
  some (.inr (.inr 0), g56)
  else
  some (.inr (.inr 0), g45)
  else
  some (.inr (.inr 0), g34)
  else
  some (.inr (.inr 0), g26)) (fun t22 => some (.inr (.inr t22), g19)) t18
def l_same_j299_259 (a0 : Nat) (a1 : Int32) (a2 : Int32) (a3 : Int32) (a4 : Int32) (a5 : Int32) (a6 : Int32) (s0 : Int32) (s1 : Int32) (g : AH) : Option (((Int32) ⊕ ((Unit) ⊕ Int32)) × AH) :=
  if s1 = s0 then
  gb (getR 10 g a0 0) fun x2 => cb (l_noiseIn x2 a6 g) fun r4 g5 => gb (isO 10 g5 a0) fun _ => cb (l_noise a0 a6 g5) fun r7 g8 => if r4 = r7 then
  some (.inl (a6 + 1), g8)
  else
  some (.inr (.inr 0), g8)
  else
  some (.inr (.inr 0), g)
def l_same_l259 (a0 : Nat) (a1 : Int32) (a2 : Int32) (a3 : Int32) (a4 : Int32) (a5 : Int32) (s0 : Int32) (g : AH) : Option (((Int32) ⊕ ((Unit) ⊕ Int32)) × AH) :=
  gb (getI 10 g a0 7) fun x1 => if x1 ≤ s0 then
  some (.inr (.inl ()), g)
  else
  gb (getR 10 g a0 0) fun x4 => cb (l_hikerIn x4 s0 g) fun r6 g7 => gb (isO 10 g7 a0) fun _ => cb (l_in a0 s0 g7) fun r9 g10 => nb r9 (l_same_j299_259 a0 a1 a2 a3 a4 a5 s0 (-1) r6 g10) (fun y14 =>
  gb (isO 10 g10 a0) fun _ => cb (l_in a0 s0 g10) fun r15 g16 => nb r15 none fun y20 => gb (getI 9 g16 y20 0) fun x21 => l_same_j299_259 a0 a1 a2 a3 a4 a5 s0 x21 r6 g16)
def l_same_j371_331 (a0 : Nat) (a1 : Int32) (a2 : Int32) (a3 : Int32) (a4 : Int32) (a5 : Int32) (a6 : Int32) (s0 : Int32) (s1 : Int32) (g : AH) : Option (((Int32) ⊕ ((Unit) ⊕ Int32)) × AH) :=
  if s1 = s0 then
  some (.inl (a6 + 1), g)
  else
  some (.inr (.inr 0), g)
def l_same_l331 (a0 : Nat) (a1 : Int32) (a2 : Int32) (a3 : Int32) (a4 : Int32) (a5 : Int32) (s0 : Int32) (g : AH) : Option (((Int32) ⊕ ((Unit) ⊕ Int32)) × AH) :=
  gb (getI 10 g a0 8) fun x1 => if x1 ≤ s0 then
  some (.inr (.inl ()), g)
  else
  gb (getR 10 g a0 0) fun x4 => cb (l_userOf x4 s0 g) fun r6 g7 => gb (isO 10 g7 a0) fun _ => cb (l_under a0 s0 g7) fun r9 g10 => nb r9 (l_same_j371_331 a0 a1 a2 a3 a4 a5 s0 (-1) r6 g10) (fun y14 =>
  gb (isO 10 g10 a0) fun _ => cb (l_under a0 s0 g10) fun r15 g16 => nb r15 none fun y20 => gb (getI 9 g16 y20 0) fun x21 => l_same_j371_331 a0 a1 a2 a3 a4 a5 s0 x21 r6 g16)
def l_same_j518_385 (a0 : Nat) (a1 : Int32) (a2 : Int32) (a3 : Int32) (a4 : Int32) (a5 : Int32) (a6 : Int32) (g : AH) : Option (((Int32) ⊕ ((Unit) ⊕ Int32)) × AH) :=
  some (.inl (a6 + 1), g)
def l_same_j491_385 (a0 : Nat) (a1 : Int32) (a2 : Int32) (a3 : Int32) (a4 : Int32) (a5 : Int32) (a6 : Int32) (a7 : Nat) (a8 : Nat) (s0 : Int32) (g : AH) : Option (((Int32) ⊕ ((Unit) ⊕ Int32)) × AH) :=
  if s0 < 0 then
  some (.inr (.inr 0), g)
  else
  if s0 = 0 then
  gb (getI 9 g a7 0) fun x3 => gb (getI 9 g a8 0) fun x5 => if x3 ≤ x5 then
  l_same_j518_385 a0 a1 a2 a3 a4 a5 a6 g
  else
  some (.inr (.inr 0), g)
  else
  l_same_j518_385 a0 a1 a2 a3 a4 a5 a6 g
def l_same_l385 (a0 : Nat) (a1 : Int32) (a2 : Int32) (a3 : Int32) (a4 : Int32) (a5 : Int32) (s0 : Int32) (g : AH) : Option (((Int32) ⊕ ((Unit) ⊕ Int32)) × AH) :=
  gb (getR 10 g a0 3) fun x1 => gb (isO 12 g x1) fun _ => cb (jx4a65c_size_8abf5 x1 g) fun r3 g4 => if r3 ≤ s0 then
  some (.inr (.inl ()), g4)
  else
  gb (getR 10 g4 a0 3) fun x9 => gb (getR 10 g4 a0 0) fun x11 => cb (l_ranked x11 (s0 - 1) g4) fun r13 g14 => gb (isO 12 g14 x9) fun _ => cb (jx4a65c_get_915e3 x9 r13 g14) fun r16 g17 => gb (isO 9 g17 r16) fun u21 => gb (getR 10 g17 a0 3) fun x23 => gb (getR 10 g17 a0 0) fun x25 => cb (l_ranked x25 s0 g17) fun r27 g28 => gb (isO 12 g28 x23) fun _ => cb (jx4a65c_get_915e3 x23 r27 g28) fun r30 g31 => gb (isO 9 g31 r30) fun u35 => gb (getR 9 g31 r16 7) fun x37 => gb (aldI 0 g31 x37 2) fun x39 => gb (getR 9 g31 r30 7) fun x41 => gb (aldI 0 g31 x41 2) fun x43 => if x39 = x43 then
  gb (getR 9 g31 r30 7) fun x46 => gb (aldI 0 g31 x46 0) fun x48 => gb (getR 9 g31 r16 7) fun x50 => gb (aldI 0 g31 x50 0) fun x52 => l_same_j491_385 a0 a1 a2 a3 a4 a5 s0 r16 r30 (x48 - x52) g31
  else
  gb (getR 9 g31 r16 7) fun x54 => gb (aldI 0 g31 x54 2) fun x56 => gb (getR 9 g31 r30 7) fun x58 => gb (aldI 0 g31 x58 2) fun x60 => l_same_j491_385 a0 a1 a2 a3 a4 a5 s0 r16 r30 (x56 - x60) g31
def l_same_j702 (a0 : Nat) (s0 : UInt32) (s1 : UInt32) (g : AH) : Option (Int32 × AH) :=
  if (Op.cmpValue (FP.fcmp s1 s0) .l) = 0 then
  gb (getR 10 g a0 0) fun x2 => gb (getR 10 g a0 3) fun x4 => gb (isO 12 g x4) fun _ => cb (jx4a65c_size_8abf5 x4 g) fun r6 g7 => cb (l_ranked x2 r6 g7) fun r11 g12 => if r11 = (-104) then
  gb (getR 10 g12 a0 0) fun x15 => gb (isO 8 g12 x15) fun _ => cb (x8_auditDifference x15 g12) fun r17 g18 => if r17 = 0 then
  some (1, g18)
  else
  some (0, g18)
  else
  some (0, g12)
  else
  some (0, g)
def l_same (p : Nat) (g : AH) : Option (Int32 × AH) :=
  cb (loopX (l_same_l15 p) 8 (0, 0, 0, 0, 0, 0) g) fun t1 g2 => Sum.elim (fun t4 =>
  cb (loopX (l_same_l259 p t4.1 t4.2.1 t4.2.2.1 t4.2.2.2.1 t4.2.2.2.2) 9 0 g2) fun t6 g7 => Sum.elim (fun t9 =>
  cb (loopX (l_same_l331 p t4.1 t4.2.1 t4.2.2.1 t4.2.2.2.1 t4.2.2.2.2) 7 0 g7) fun t11 g12 => Sum.elim (fun t14 =>
  cb (loopX (l_same_l385 p t4.1 t4.2.1 t4.2.2.1 t4.2.2.2.1 t4.2.2.2.2) 8 1 g12) fun t16 g17 => Sum.elim (fun t19 =>
  gb (getI 10 g17 p 13) fun x21 => gb (getR 10 g17 p 3) fun x23 => gb (isO 12 g17 x23) fun _ => cb (jx4a65c_size_8abf5 x23 g17) fun r25 g26 => gb (getR 10 g26 p 0) fun x30 => gb (isO 8 g26 x30) fun _ => cb (x8_hour x30 g26) fun r32 g33 => gb (getI 10 g33 p 13) fun x37 => if r32 = x37 then
  gb (getR 10 g33 p 0) fun x40 => gb (isO 8 g33 x40) fun _ => cb (x8_logs x40 g33) fun r42 g43 => gb (getI 10 g43 p 10) fun x47 => if r42 = x47 then
  gb (getR 10 g43 p 0) fun x50 => gb (isO 8 g43 x50) fun _ => cb (x8_temperature x50 g43) fun r52 g53 => gb (getR 10 g53 p 6) fun x57 => gb (getI 10 g53 p 13) fun x59 => gb (getI 10 g53 p 9) fun x61 => if x61 = 0 then none else gb (aldI 0 g53 x57 (x59 - x59 / x61 * x61)) fun x64 => gb (getI 10 g53 p 12) fun x66 => if r52 = (x64 + x66) then
  gb (getR 10 g53 p 0) fun x69 => gb (isO 8 g53 x69) fun _ => cb (x8_hutCoins x69 g53) fun r71 g72 => gb (getI 10 g72 p 16) fun x76 => if r71 = x76 then
  gb (getR 10 g72 p 0) fun x79 => gb (isO 8 g72 x79) fun _ => cb (x8_burnedLogs x79 g72) fun r81 g82 => gb (getI 10 g82 p 14) fun x86 => if r81 = x86 then
  gb (getR 10 g82 p 0) fun x89 => gb (isO 8 g82 x89) fun _ => cb (x8_totalDebt x89 g82) fun r91 g92 => if r91 = t4.1 then
  gb (getR 10 g92 p 0) fun x97 => gb (isO 8 g92 x97) fun _ => cb (x8_coldHikers x97 g92) fun r99 g100 => if r99 = t4.2.1 then
  gb (getR 10 g100 p 0) fun x105 => gb (isO 8 g100 x105) fun _ => cb (x8_hikersWithout x105 g100) fun r107 g108 => if r107 = t4.2.2.2.1 then
  gb (getR 10 g108 p 0) fun x113 => gb (isO 8 g108 x113) fun _ => cb (x8_meanWarmth x113 g108) fun r115 g116 => gb (getR 10 g116 p 3) fun x120 => gb (isO 12 g116 x120) fun _ => cb (jx4a65c_size_8abf5 x120 g116) fun r122 g123 => if n64 (FP.ddiv (FP.i2d t4.2.2.2.2) (FP.i2d r122)) then if (Op.cmpValue (FP.dcmp r115 (FP.ddiv (FP.i2d t4.2.2.2.2) (FP.i2d r122))) .l) = 0 then
  gb (getR 10 g123 p 0) fun x129 => gb (isO 8 g123 x129) fun _ => cb (x8_sleepShare x129 g123) fun r131 g132 => if (x21 * r25) = 0 then
  l_same_j702 p FP.fconst0 r131 g132
  else
  if n32 (FP.fdiv (FP.i2f t4.2.2.1) (FP.i2f (x21 * r25))) then l_same_j702 p (FP.fdiv (FP.i2f t4.2.2.1) (FP.i2f (x21 * r25))) r131 g132 else none
  else
  some (0, g123) else none
  else
  some (0, g108)
  else
  some (0, g100)
  else
  some (0, g92)
  else
  some (0, g82)
  else
  some (0, g72)
  else
  some (0, g53)
  else
  some (0, g43)
  else
  some (0, g33)) (fun t20 => some (t20, g17)) t16) (fun t15 => some (t15, g12)) t11) (fun t10 => some (t10, g7)) t6) (fun t5 => some (t5, g2)) t1
def l_pays (p : Nat) (b0 : Nat) (b1 : Int32) (g : AH) : Option (Int32 × AH) :=
  gb (getI 9 g b0 3) fun x1 => gb (getI 9 g b0 3) fun x3 => gb (putV 9 g b0 3 (.int (x3 - (if b1 < x1 then b1 else x1)))) fun g5 => gb (getI 9 g5 b0 4) fun x7 => gb (putV 9 g5 b0 4 (.int (x7 + (b1 - (if b1 < x1 then b1 else x1))))) fun g9 => some ((if b1 < x1 then b1 else x1), g9)
def l_dawns_l23 (a0 : Nat) (a1 : Int32) (a2 : Int32) (a3 : Int32) (a4 : Int32) (s0 : Int32) (g : AH) : Option (((Int32) ⊕ (Unit)) × AH) :=
  if a1 ≤ s0 then
  some (.inr (), g)
  else
  gb (getI 10 g a0 16) fun x2 => gb (getR 10 g a0 3) fun x4 => gb (isO 12 g x4) fun _ => cb (jx4a65c_get_915e3 x4 s0 g) fun r6 g7 => gb (isO 9 g7 r6) fun u11 => gb (isO 10 g7 a0) fun _ => cb (l_pays a0 r6 3 g7) fun r13 g14 => gb (putV 10 g14 a0 16 (.int (x2 + r13))) fun g18 => some (.inl (s0 + 1), g18)
def l_dawns_l64 (a0 : Nat) (a1 : Int32) (a2 : Int32) (a3 : Int32) (a4 : Int32) (s0 : Int32) (g : AH) : Option (((Int32) ⊕ (Unit)) × AH) :=
  if a1 ≤ s0 then
  some (.inr (), g)
  else
  gb (getI 10 g a0 16) fun x2 => gb (getR 10 g a0 3) fun x4 => gb (isO 12 g x4) fun _ => cb (jx4a65c_get_915e3 x4 s0 g) fun r6 g7 => gb (isO 9 g7 r6) fun u11 => if a1 = 0 then none else gb (isO 10 g7 a0) fun _ => cb (l_pays a0 r6 (a2 / a1) g7) fun r14 g15 => gb (putV 10 g15 a0 16 (.int (x2 + r14))) fun g19 => some (.inl (s0 + 1), g19)
def l_dawns_l107 (a0 : Nat) (a1 : Int32) (a2 : Int32) (a3 : Int32) (a4 : Int32) (s0 : Int32) (g : AH) : Option (((Int32) ⊕ (Unit)) × AH) :=
  if a1 = 0 then none else if (a2 - ((a2 / a1) * a1)) ≤ s0 then
  some (.inr (), g)
  else
  gb (getI 10 g a0 16) fun x3 => gb (getR 10 g a0 3) fun x5 => gb (isO 12 g x5) fun _ => cb (jx4a65c_get_915e3 x5 s0 g) fun r7 g8 => gb (isO 9 g8 r7) fun u12 => gb (isO 10 g8 a0) fun _ => cb (l_pays a0 r7 1 g8) fun r14 g15 => gb (putV 10 g15 a0 16 (.int (x3 + r14))) fun g19 => some (.inl (s0 + 1), g19)
def l_dawns_j230_154 (a0 : Nat) (a1 : Int32) (a3 : Int32) (a4 : Int32) (a5 : Int32) (g : AH) : Option (((Int32 × Int32 × Int32) ⊕ (Int32 × Int32)) × AH) :=
  some (.inl (a3, a4, (a5 + 1)), g)
def l_dawns_j224_154 (a0 : Nat) (a1 : Int32) (a4 : Int32) (a5 : Int32) (s0 : Int32) (s1 : Int32) (s2 : Nat) (s3 : Nat) (s4 : Int32) (g : AH) : Option (((Int32 × Int32 × Int32) ⊕ (Int32 × Int32)) × AH) :=
  gb (isO 10 g s3) fun _ => cb (l_pays s3 s2 (s1 + s0) g) fun r1 g2 => l_dawns_j230_154 a0 a1 (s4 + r1) a4 a5 g2
def l_dawns_l154 (a0 : Nat) (a1 : Int32) (s0 : Int32 × Int32 × Int32) (g : AH) : Option (((Int32 × Int32 × Int32) ⊕ (Int32 × Int32)) × AH) :=
  if a1 ≤ s0.2.2 then
  some (.inr (s0.1, s0.2.1), g)
  else
  gb (getR 10 g a0 3) fun x2 => gb (isO 12 g x2) fun _ => cb (jx4a65c_get_915e3 x2 s0.2.2 g) fun r4 g5 => gb (isO 9 g5 r4) fun u9 => gb (getI 9 g5 r4 6) fun x11 => if 0 ≤ x11 then
  gb (getR 10 g5 a0 5) fun x14 => gb (getI 9 g5 r4 6) fun x16 => gb (aldI 0 g5 x14 x16) fun x18 => gb (getR 10 g5 a0 5) fun x21 => gb (getI 9 g5 r4 6) fun x23 => gb (aldI 0 g5 x21 x23) fun x25 => if (x25 - x25 / 3 * 3) ≤ 0 then
  l_dawns_j224_154 a0 a1 s0.2.1 s0.2.2 0 (x18 / 3) r4 a0 s0.1 g5
  else
  l_dawns_j224_154 a0 a1 s0.2.1 s0.2.2 1 (x18 / 3) r4 a0 s0.1 g5
  else
  l_dawns_j230_154 a0 a1 s0.1 (s0.2.1 + 1) s0.2.2 g5
def l_dawns_j287_239 (a0 : Nat) (a1 : Int32) (a3 : Int32) (a4 : Int32) (a5 : Int32) (s0 : Int32) (s1 : Int32) (s2 : Nat) (g : AH) : Option (((Int32) ⊕ (Unit)) × AH) :=
  gb (putV 9 g s2 3 (.int (s1 + s0))) fun g1 => some (.inl (a5 + 1), g1)
def l_dawns_l239 (a0 : Nat) (a1 : Int32) (a3 : Int32) (a4 : Int32) (s0 : Int32) (g : AH) : Option (((Int32) ⊕ (Unit)) × AH) :=
  if a1 ≤ s0 then
  some (.inr (), g)
  else
  gb (getR 10 g a0 3) fun x2 => gb (isO 12 g x2) fun _ => cb (jx4a65c_get_915e3 x2 s0 g) fun r4 g5 => gb (isO 9 g5 r4) fun u9 => gb (getI 9 g5 r4 3) fun x11 => gb (getR 10 g5 a0 3) fun x13 => gb (isO 12 g5 x13) fun _ => cb (jx4a65c_get_915e3 x13 s0 g5) fun r15 g16 => gb (isO 9 g16 r15) fun u20 => gb (getI 9 g16 r15 6) fun x22 => if 0 ≤ x22 then
  l_dawns_j287_239 a0 a1 a3 a4 s0 0 x11 r4 g16
  else
  if a4 = 0 then none else l_dawns_j287_239 a0 a1 a3 a4 s0 (a3 / a4) x11 r4 g16
def l_dawns_j315 (a0 : Nat) (s0 : Int32) (s1 : Int32) (s2 : Nat) (g : AH) : Option (Unit × AH) :=
  gb (putV 10 g s2 16 (.int (s1 + s0))) fun g1 => gb (putV 10 g1 a0 15 (.int 0)) fun g3 => some ((), g3)
def l_dawns (p : Nat) (g : AH) : Option (Unit × AH) :=
  gb (getR 10 g p 3) fun x1 => gb (isO 12 g x1) fun _ => cb (jx4a65c_size_8abf5 x1 g) fun r3 g4 => gb (getI 10 g4 p 15) fun x8 => cb (loopX (l_dawns_l23 p r3 (2 * x8) 0 0) 1000 0 g4) fun t10 g11 =>
  cb (loopX (l_dawns_l64 p r3 (2 * x8) 0 0) 1000 0 g11) fun t13 g14 =>
  cb (loopX (l_dawns_l107 p r3 (2 * x8) 0 0) 1000 0 g14) fun t16 g17 =>
  cb (loopX (l_dawns_l154 p r3) 1000 (0, 0, 0) g17) fun t19 g20 =>
  cb (loopX (l_dawns_l239 p r3 t19.1 t19.2) 1000 0 g20) fun t22 g23 =>
  gb (getI 10 g23 p 16) fun x25 => if t19.2 = 0 then
  l_dawns_j315 p t19.1 x25 p g23
  else
  if t19.2 = 0 then none else l_dawns_j315 p (t19.1 - t19.1 / t19.2 * t19.2) x25 p g23
set_option maxHeartbeats 4000000 in
set_option maxRecDepth 100000 in
theorem t_l_under_l2 {l : Launch} {G : GG} {M : MC} (X : CX M G cL_under 3 RL ⟨4, 0, 0, 171⟩) (hl0 : M.2.1 = l) (hr : (mM M).sig.returnType = (some (.object "HutLedgerLaw$Hiker"))) (hnm : (mM M).name = yL_under.name) (hst : l.stackTraces = false) {Q : State → Prop} {kc ks : Nat} {s9 : ((Int32) ⊕ ((Unit) ⊕ Option Nat))} {g1 : AH} {a0 : Nat} {a1 : Int32} {s0 : Int32} (hc : ∀ s1, s9 = .inl s1 → WW M G 3 Q kc ks g1 2 [(0, .ref a0), (1, .int a1), (2, .int s1)] []) (hx : ∀ t, s9 = .inr t → Sum.elim (fun t1 => WW M G 3 Q kc ks g1 49 [] []) (fun t2 => ∃ mc ms : Nat, kc ≤ mc ∧ ks ≤ ms ∧ Q = RQ M G (some (va_rf (t2))) g1 mc ms) t) {g : AH} (E : l_under_l2 a0 a1 s0 g = some (s9, g1)) : WW M G 3 Q kc ks g 2 [(0, .ref a0), (1, .int a1), (2, .int s0)] [] := by
  unfold l_under_l2 at E
  refine r_iload_n X 2 dL_under_2 rfl rfl ?_
  refine r_aload_n X 0 dL_under_3 rfl rfl ?_
  obtain ⟨x1, e2, E⟩ := gb_some E
  refine r_getR X dL_under_4 f_L_19 e2 ?_
  obtain ⟨u6, e7, E⟩ := gb_some E
  obtain ⟨r3, g4, e5, E⟩ := cb_some E
  refine r_callV0 X hl0 (ci := 12) dL_under_7 y_Jx4a65c_size_8abf5 m_L_210 rfl rfl e7 (t_jx4a65c_size_8abf5 (l := l) (G := G) e5) rfl rfl (Nat.le_of_ble_eq_true rfl) (by decide) ?_
  refine r_icmp_ge X 49 dL_under_10 (by decide) (fun c8 => ?_) (fun c8 => ?_)
  · rw [if_pos c8] at E
    cases E
    exact r_pick (by rfl : lpick [(0, .ref a0), (1, .int a1), (2, .int s0)] [] = _) (hx _ rfl)
  · rw [if_neg c8] at E
    refine r_aload_n X 0 dL_under_13 rfl rfl ?_
    obtain ⟨x9, e10, E⟩ := gb_some E
    refine r_getR X dL_under_14 f_L_19 e10 ?_
    refine r_iload_n X 2 dL_under_17 rfl rfl ?_
    obtain ⟨u14, e15, E⟩ := gb_some E
    obtain ⟨r11, g12, e13, E⟩ := cb_some E
    refine r_callV0 X hl0 (ci := 12) dL_under_18 y_Jx4a65c_get_915e3 m_L_246 rfl rfl e15 (t_jx4a65c_get_915e3 (l := l) (G := G) e13) rfl rfl (Nat.le_of_ble_eq_true rfl) (by decide) ?_
    obtain ⟨u16, e17, E⟩ := gb_some E
    refine r_cast X (ci := 9) dL_under_21 rfl k_L_207 e17 ?_
    obtain ⟨x18, e19, E⟩ := gb_some E
    refine r_getIN X (k := 6) dL_under_24 (List.mem_of_getElem? (i := 5) rfl) rfl (by decide) e19 ?_
    refine r_iload_n X 1 dL_under_27 rfl rfl ?_
    refine r_icmp_ne X 43 dL_under_28 (by decide) (fun c20 => ?_) (fun c20 => ?_)
    · rw [if_neg c20] at E
      refine r_iinc X (v := (s0 + 1)) (L1 := [(2, .int (s0 + 1)), (0, .ref a0), (1, .int a1)]) dL_under_43 rfl rfl (by decide) rfl ?_
      refine r_goto X 2 dL_under_46 (by decide) ?_
      cases E
      exact r_pick (by rfl : lpick [(2, .int (s0 + 1)), (0, .ref a0), (1, .int a1)] [1, 2, 0] = _) (hc _ rfl)
    · rw [if_pos c20] at E
      refine r_aload_n X 0 dL_under_31 rfl rfl ?_
      obtain ⟨x21, e22, E⟩ := gb_some E
      refine r_getR X dL_under_32 f_L_19 e22 ?_
      refine r_iload_n X 2 dL_under_35 rfl rfl ?_
      obtain ⟨u26, e27, E⟩ := gb_some E
      obtain ⟨r23, g24, e25, E⟩ := cb_some E
      refine r_callV0 X hl0 (ci := 12) dL_under_36 y_Jx4a65c_get_915e3 m_L_246 rfl rfl e27 (t_jx4a65c_get_915e3 (l := l) (G := G) e25) rfl rfl (Nat.le_of_ble_eq_true rfl) (by decide) ?_
      obtain ⟨u28, e29, E⟩ := gb_some E
      refine r_cast X (ci := 9) dL_under_39 rfl k_L_207 e29 ?_
      cases E
      obtain ⟨mc9, ms9, h91, h92, rfl⟩ := hx _ rfl
      exact r_qret X hr (Or.inl ⟨_, rfl⟩) dL_under_42 h91 h92
set_option maxHeartbeats 4000000 in
theorem t_l_under_l2_r {l : Launch} {G : GG} {M : MC} (X : CX M G cL_under 3 RL ⟨4, 0, 0, 171⟩) (hl0 : M.2.1 = l) (hr : (mM M).sig.returnType = (some (.object "HutLedgerLaw$Hiker"))) (hnm : (mM M).name = yL_under.name) (hst : l.stackTraces = false) {Q : State → Prop} {kc ks : Nat} {a0 : Nat} {a1 : Int32} : ∀ (n : Nat) (s0 : Int32) (g : AH) (t : ((Unit) ⊕ Option Nat)) (g1 : AH), loopX (l_under_l2 a0 a1) n s0 g = some (t, g1) → Sum.elim (fun t1 => WW M G 3 Q kc ks g1 49 [] []) (fun t2 => ∃ mc ms : Nat, kc ≤ mc ∧ ks ≤ ms ∧ Q = RQ M G (some (va_rf (t2))) g1 mc ms) t → WW M G 3 Q kc ks g 2 [(0, .ref a0), (1, .int a1), (2, .int s0)] [] :=
  loop_cps (K := fun (t : ((Unit) ⊕ Option Nat)) g1 => Sum.elim (fun t1 => WW M G 3 Q kc ks g1 49 [] []) (fun t2 => ∃ mc ms : Nat, kc ≤ mc ∧ ks ≤ ms ∧ Q = RQ M G (some (va_rf (t2))) g1 mc ms) t) (fun _ (s0 : Int32) g => WW M G 3 Q kc ks g 2 [(0, .ref a0), (1, .int a1), (2, .int s0)] []) (fun n s0 g st g1 E hc hx => t_l_under_l2 X hl0 hr hnm hst hc hx E)
set_option maxHeartbeats 4000000 in
set_option maxRecDepth 100000 in
theorem t_l_under_b {l : Launch} {G : GG} {M : MC} (X : CX M G cL_under 3 RL ⟨4, 0, 0, 171⟩) (hl0 : M.2.1 = l) (hr : (mM M).sig.returnType = (some (.object "HutLedgerLaw$Hiker"))) (hnm : (mM M).name = yL_under.name) (hst : l.stackTraces = false) {p : Nat} {b0 : Int32} {g : AH} {r : Option Nat} {g1 : AH} (E : l_under p b0 g = some (r, g1)) : WW M G 3 (RQ M G (some (va_rf (r))) g1 0 0) 0 0 g 0 [(0, .ref p), (1, .int b0)] [] := by
  unfold l_under at E
  refine r_iconst X (v := 0) dL_under_0 (by decide) ?_
  refine r_istore_n X 2 (L1 := [(2, .int 0), (0, .ref p), (1, .int b0)]) dL_under_1 rfl (by decide) rfl ?_
  obtain ⟨t1, g2, e3, E⟩ := cb_some E
  rcases t1 with t4 | t5
  · rw [Sum.elim_inl] at E
    refine r_pick (by rfl : lpick [(2, .int 0), (0, .ref p), (1, .int b0)] [1, 2, 0] = _) (t_l_under_l2_r X hl0 hr hnm hst _ _ _ _ _ e3 ?_)
    refine r_null X dL_under_49 ?_
    cases E
    exact r_qret X hr (Or.inl ⟨_, rfl⟩) dL_under_50 (by decide) (by decide)
  · rw [Sum.elim_inr] at E
    cases E
    exact r_pick (by rfl : lpick [(2, .int 0), (0, .ref p), (1, .int b0)] [1, 2, 0] = _) (t_l_under_l2_r X hl0 hr hnm hst _ _ _ _ _ e3 ⟨_, _, by decide, by decide, rfl⟩)
theorem t_l_under {l : Launch} (hst : l.stackTraces = false) {G : GG} {p : Nat} {b0 : Int32} {g : AH} {r : Option Nat} {g1 : AH} (E : l_under p b0 g = some (r, g1)) : Ct l G yL_under cL_under 3 (some (.object "HutLedgerLaw$Hiker")) ⟨4, 0, 0, 171⟩ [.ref p, .int b0] g (some (va_rf (r))) g1 :=
  ct_of (L0 := [(0, .ref p), (1, .int b0)]) y_L_under rfl (Nat.le_of_ble_eq_true rfl) fun M hl0 X hr hnm => t_l_under_b X hl0 hr hnm hst E
set_option maxHeartbeats 4000000 in
set_option maxRecDepth 100000 in
theorem t_l_same_l44 {l : Launch} {G : GG} {M : MC} (X : CX M G cL_same 10 RL ⟨10, 170, 1020, 301⟩) (hl0 : M.2.1 = l) (hr : (mM M).sig.returnType = (some .boolean)) (hnm : (mM M).name = yL_same.name) (hst : l.stackTraces = false) {Q : State → Prop} {kc ks : Nat} {s9 : ((Int32) ⊕ ((Unit) ⊕ Int32))} {g1 : AH} {a0 : Nat} {a1 : Int32} {a2 : Int32} {a3 : Int32} {a4 : Int32} {a5 : Int32} {a6 : Int32} {a7 : Nat} {s0 : Int32} {Kc Ks : Nat} (hkc : kc + 2 ≤ Kc ∧ Kc ≤ 170) (hks : ks + 12 ≤ Ks ∧ Ks ≤ 1020) (hc : ∀ s1, s9 = .inl s1 → WW M G 10 Q (kc + 2) (ks + 12) g1 44 [(0, .ref a0), (1, .int a1), (2, .int a2), (3, .int a3), (4, .int a4), (5, .int a5), (6, .int a6), (7, .ref a7), (8, .int s1)] []) (hx : ∀ t, s9 = .inr t → Sum.elim (fun t1 => WW M G 10 Q Kc Ks g1 80 [(0, .ref a0), (1, .int a1), (2, .int a2), (3, .int a3), (4, .int a4), (5, .int a5), (6, .int a6), (7, .ref a7)] []) (fun t2 => ∃ mc ms : Nat, Kc ≤ mc ∧ Ks ≤ ms ∧ Q = RQ M G (some (.int t2)) g1 mc ms) t) {g : AH} (E : l_same_l44 a0 a1 a2 a3 a4 a5 a6 a7 s0 g = some (s9, g1)) : WW M G 10 Q kc ks g 44 [(0, .ref a0), (1, .int a1), (2, .int a2), (3, .int a3), (4, .int a4), (5, .int a5), (6, .int a6), (7, .ref a7), (8, .int s0)] [] := by
  unfold l_same_l44 at E
  refine r_iload X dL_same_44 rfl ?_
  refine r_iconst X (v := 4) dL_same_46 (by decide) ?_
  refine r_icmp_ge X 80 dL_same_47 (by decide) (fun c1 => ?_) (fun c1 => ?_)
  · rw [if_pos c1] at E
    cases E
    exact r_widen X ⟨by (try dsimp only); omega, hkc.2⟩ ⟨by (try dsimp only); omega, hks.2⟩ <| r_pick (by rfl : lpick [(0, .ref a0), (1, .int a1), (2, .int a2), (3, .int a3), (4, .int a4), (5, .int a5), (6, .int a6), (7, .ref a7), (8, .int s0)] [0, 1, 2, 3, 4, 5, 6, 7] = _) (hx _ rfl)
  · rw [if_neg c1] at E
    refine r_aload_n X 0 dL_same_50 rfl rfl ?_
    obtain ⟨x2, e3, E⟩ := gb_some E
    refine r_getR X dL_same_51 f_L_10 e3 ?_
    refine r_iload X dL_same_54 rfl ?_
    refine r_iload X dL_same_56 rfl ?_
    obtain ⟨r4, g5, e6, E⟩ := cb_some E
    refine r_callW X hl0 dL_same_58 y_L_hoursOf m_L_293 (t_l_hoursOf (l := l) hst (G := G) e6) rfl rfl (Nat.le_of_ble_eq_true rfl) ⟨by decide, by show _ + 2 ≤ 170; (try dsimp only); omega, by show _ + 12 ≤ 1020; (try dsimp only); omega⟩ ?_
    refine r_aload X dL_same_61 rfl ?_
    obtain ⟨x7, e8, E⟩ := gb_some E
    refine r_getRN X (k := 7) dL_same_63 (List.mem_of_getElem? (i := 7) rfl) rfl (by decide) e8 ?_
    refine r_iload X dL_same_66 rfl ?_
    obtain ⟨x9, e10, E⟩ := gb_some E
    refine r_iald X dL_same_68 e10 ?_
    refine r_icmp_eq X 74 dL_same_69 (by decide) (fun c11 => ?_) (fun c11 => ?_)
    · rw [if_pos c11] at E
      refine r_iinc X (v := (s0 + 1)) (L1 := [(8, .int (s0 + 1)), (0, .ref a0), (1, .int a1), (2, .int a2), (3, .int a3), (4, .int a4), (5, .int a5), (6, .int a6), (7, .ref a7)]) dL_same_74 rfl rfl (by decide) rfl ?_
      refine r_goto X 44 dL_same_77 (by decide) ?_
      cases E
      exact r_widen X ⟨by (try dsimp only); omega, Nat.le_trans hkc.1 hkc.2⟩ ⟨by (try dsimp only); omega, Nat.le_trans hks.1 hks.2⟩ <| r_pick (by rfl : lpick [(8, .int (s0 + 1)), (0, .ref a0), (1, .int a1), (2, .int a2), (3, .int a3), (4, .int a4), (5, .int a5), (6, .int a6), (7, .ref a7)] [1, 2, 3, 4, 5, 6, 7, 8, 0] = _) (hc _ rfl)
    · rw [if_neg c11] at E
      refine r_iconst X (v := 0) dL_same_72 (by decide) ?_
      cases E
      obtain ⟨mc9, ms9, h91, h92, rfl⟩ := hx _ rfl
      exact r_zret X hr (Or.inl rfl) dL_same_73 (Nat.le_trans (by (try dsimp only); omega) h91) (Nat.le_trans (by (try dsimp only); omega) h92)
set_option maxHeartbeats 4000000 in
theorem t_l_same_l44_r {l : Launch} {G : GG} {M : MC} (X : CX M G cL_same 10 RL ⟨10, 170, 1020, 301⟩) (hl0 : M.2.1 = l) (hr : (mM M).sig.returnType = (some .boolean)) (hnm : (mM M).name = yL_same.name) (hst : l.stackTraces = false) {Q : State → Prop} {Kc Ks : Nat} (hKc : Kc ≤ 170) (hKs : Ks ≤ 1020) {a0 : Nat} {a1 : Int32} {a2 : Int32} {a3 : Int32} {a4 : Int32} {a5 : Int32} {a6 : Int32} {a7 : Nat} : ∀ (n : Nat) (s0 : Int32) (g : AH) (t : ((Unit) ⊕ Int32)) (g1 : AH), loopX (l_same_l44 a0 a1 a2 a3 a4 a5 a6 a7) n s0 g = some (t, g1) → Sum.elim (fun t1 => WW M G 10 Q Kc Ks g1 80 [(0, .ref a0), (1, .int a1), (2, .int a2), (3, .int a3), (4, .int a4), (5, .int a5), (6, .int a6), (7, .ref a7)] []) (fun t2 => ∃ mc ms : Nat, Kc ≤ mc ∧ Ks ≤ ms ∧ Q = RQ M G (some (.int t2)) g1 mc ms) t → ∀ kc ks : Nat, kc + n * 2 ≤ Kc → ks + n * 12 ≤ Ks → WW M G 10 Q kc ks g 44 [(0, .ref a0), (1, .int a1), (2, .int a2), (3, .int a3), (4, .int a4), (5, .int a5), (6, .int a6), (7, .ref a7), (8, .int s0)] [] :=
  loop_cps (K := fun (t : ((Unit) ⊕ Int32)) g1 => Sum.elim (fun t1 => WW M G 10 Q Kc Ks g1 80 [(0, .ref a0), (1, .int a1), (2, .int a2), (3, .int a3), (4, .int a4), (5, .int a5), (6, .int a6), (7, .ref a7)] []) (fun t2 => ∃ mc ms : Nat, Kc ≤ mc ∧ Ks ≤ ms ∧ Q = RQ M G (some (.int t2)) g1 mc ms) t) (fun n (s0 : Int32) g => ∀ kc ks : Nat, kc + n * 2 ≤ Kc → ks + n * 12 ≤ Ks → WW M G 10 Q kc ks g 44 [(0, .ref a0), (1, .int a1), (2, .int a2), (3, .int a3), (4, .int a4), (5, .int a5), (6, .int a6), (7, .ref a7), (8, .int s0)] []) (fun n s0 g st g1 E hc hx kc ks h1 h2 => by
    have e1 : (n + 1) * 2 = n * 2 + 2 := by omega
    have e2 : (n + 1) * 12 = n * 12 + 12 := by omega
    exact t_l_same_l44 X hl0 hr hnm hst ⟨by omega, hKc⟩ ⟨by omega, hKs⟩ (fun s1 e => hc s1 e _ _ (by omega) (by omega)) hx E)
set_option maxHeartbeats 4000000 in
set_option maxRecDepth 100000 in
theorem t_l_same_j236_15 {l : Launch} {G : GG} {M : MC} (X : CX M G cL_same 10 RL ⟨10, 170, 1020, 301⟩) (hl0 : M.2.1 = l) (hr : (mM M).sig.returnType = (some .boolean)) (hnm : (mM M).name = yL_same.name) (hst : l.stackTraces = false) {Q : State → Prop} {kc ks : Nat} {s9 : ((Int32 × Int32 × Int32 × Int32 × Int32 × Int32) ⊕ ((Int32 × Int32 × Int32 × Int32 × Int32) ⊕ Int32))} {g1 : AH} {a0 : Nat} {a1 : Int32} {a2 : Int32} {a3 : Int32} {a5 : Int32} {a6 : Int32} {a7 : Nat} {s0 : Int32} {s1 : Int32} {Kc Ks : Nat} (hkc : kc + 16 ≤ Kc ∧ Kc ≤ 170) (hks : ks + 96 ≤ Ks ∧ Ks ≤ 1020) (hc : ∀ s1, s9 = .inl s1 → WW M G 10 Q (kc + 16) (ks + 96) g1 15 [(0, .ref a0), (1, .int s1.1), (2, .int s1.2.1), (3, .int s1.2.2.1), (4, .int s1.2.2.2.1), (5, .int s1.2.2.2.2.1), (6, .int s1.2.2.2.2.2)] []) (hx : ∀ t, s9 = .inr t → Sum.elim (fun t1 => WW M G 10 Q Kc Ks g1 256 [(0, .ref a0), (1, .int t1.1), (2, .int t1.2.1), (3, .int t1.2.2.1), (4, .int t1.2.2.2.1), (5, .int t1.2.2.2.2)] []) (fun t2 => ∃ mc ms : Nat, Kc ≤ mc ∧ Ks ≤ ms ∧ Q = RQ M G (some (.int t2)) g1 mc ms) t) {g : AH} (E : l_same_j236_15 a0 a1 a2 a3 a5 a6 a7 s0 s1 g = some (s9, g1)) : WW M G 10 Q (kc + 16) (ks + 96) g 236 [(0, .ref a0), (1, .int a1), (2, .int a2), (3, .int a3), (5, .int a5), (6, .int a6), (7, .ref a7)] [.int s0, .int s1] := by
  unfold l_same_j236_15 at E
  refine r_iadd X dL_same_236 ?_
  refine r_istore X (L1 := [(4, .int (s1 + s0)), (0, .ref a0), (1, .int a1), (2, .int a2), (3, .int a3), (5, .int a5), (6, .int a6), (7, .ref a7)]) dL_same_237 (by decide) rfl ?_
  refine r_iload X dL_same_239 rfl ?_
  refine r_aload_n X 0 dL_same_241 rfl rfl ?_
  refine r_aload X dL_same_242 rfl ?_
  obtain ⟨u4, e5, E⟩ := gb_some E
  obtain ⟨r1, g2, e3, E⟩ := cb_some E
  refine r_callV0 X hl0 (ci := 10) dL_same_244 y_L_warm m_L_260 rfl rfl e5 (t_l_warm (l := l) hst (G := G) e3) rfl rfl (Nat.le_of_ble_eq_true rfl) (by decide) ?_
  refine r_iadd X dL_same_247 ?_
  refine r_istore X (L1 := [(5, .int (a5 + r1)), (4, .int (s1 + s0)), (0, .ref a0), (1, .int a1), (2, .int a2), (3, .int a3), (6, .int a6), (7, .ref a7)]) dL_same_248 (by decide) rfl ?_
  refine r_iinc X (v := (a6 + 1)) (L1 := [(6, .int (a6 + 1)), (5, .int (a5 + r1)), (4, .int (s1 + s0)), (0, .ref a0), (1, .int a1), (2, .int a2), (3, .int a3), (7, .ref a7)]) dL_same_250 rfl rfl (by decide) rfl ?_
  refine r_goto X 15 dL_same_253 (by decide) ?_
  cases E
  exact r_widen X ⟨by (try dsimp only); omega, Nat.le_trans hkc.1 hkc.2⟩ ⟨by (try dsimp only); omega, Nat.le_trans hks.1 hks.2⟩ <| r_pick (by rfl : lpick [(6, .int (a6 + 1)), (5, .int (a5 + r1)), (4, .int (s1 + s0)), (0, .ref a0), (1, .int a1), (2, .int a2), (3, .int a3), (7, .ref a7)] [3, 4, 5, 6, 2, 1, 0] = _) (hc _ rfl)
set_option maxHeartbeats 4000000 in
set_option maxRecDepth 100000 in
theorem t_l_same_j209_15 {l : Launch} {G : GG} {M : MC} (X : CX M G cL_same 10 RL ⟨10, 170, 1020, 301⟩) (hl0 : M.2.1 = l) (hr : (mM M).sig.returnType = (some .boolean)) (hnm : (mM M).name = yL_same.name) (hst : l.stackTraces = false) {Q : State → Prop} {kc ks : Nat} {s9 : ((Int32 × Int32 × Int32 × Int32 × Int32 × Int32) ⊕ ((Int32 × Int32 × Int32 × Int32 × Int32) ⊕ Int32))} {g1 : AH} {a0 : Nat} {a1 : Int32} {a3 : Int32} {a4 : Int32} {a5 : Int32} {a6 : Int32} {a7 : Nat} {s0 : Int32} {s1 : Int32} {Kc Ks : Nat} (hkc : kc + 16 ≤ Kc ∧ Kc ≤ 170) (hks : ks + 96 ≤ Ks ∧ Ks ≤ 1020) (hc : ∀ s1, s9 = .inl s1 → WW M G 10 Q (kc + 16) (ks + 96) g1 15 [(0, .ref a0), (1, .int s1.1), (2, .int s1.2.1), (3, .int s1.2.2.1), (4, .int s1.2.2.2.1), (5, .int s1.2.2.2.2.1), (6, .int s1.2.2.2.2.2)] []) (hx : ∀ t, s9 = .inr t → Sum.elim (fun t1 => WW M G 10 Q Kc Ks g1 256 [(0, .ref a0), (1, .int t1.1), (2, .int t1.2.1), (3, .int t1.2.2.1), (4, .int t1.2.2.2.1), (5, .int t1.2.2.2.2)] []) (fun t2 => ∃ mc ms : Nat, Kc ≤ mc ∧ Ks ≤ ms ∧ Q = RQ M G (some (.int t2)) g1 mc ms) t) {g : AH} (E : l_same_j209_15 a0 a1 a3 a4 a5 a6 a7 s0 s1 g = some (s9, g1)) : WW M G 10 Q (kc + 16) (ks + 96) g 209 [(0, .ref a0), (1, .int a1), (3, .int a3), (4, .int a4), (5, .int a5), (6, .int a6), (7, .ref a7)] [.int s0, .int s1] := by
  unfold l_same_j209_15 at E
  refine r_iadd X dL_same_209 ?_
  refine r_istore_n X 2 (L1 := [(2, .int (s1 + s0)), (0, .ref a0), (1, .int a1), (3, .int a3), (4, .int a4), (5, .int a5), (6, .int a6), (7, .ref a7)]) dL_same_210 rfl (by decide) rfl ?_
  refine r_iload_n X 3 dL_same_211 rfl rfl ?_
  refine r_aload X dL_same_212 rfl ?_
  obtain ⟨x1, e2, E⟩ := gb_some E
  refine r_getRN X (k := 7) dL_same_214 (List.mem_of_getElem? (i := 7) rfl) rfl (by decide) e2 ?_
  refine r_iconst X (v := 2) dL_same_217 (by decide) ?_
  obtain ⟨x3, e4, E⟩ := gb_some E
  refine r_iald X dL_same_218 e4 ?_
  refine r_iadd X dL_same_219 ?_
  refine r_istore_n X 3 (L1 := [(3, .int (a3 + x3)), (2, .int (s1 + s0)), (0, .ref a0), (1, .int a1), (4, .int a4), (5, .int a5), (6, .int a6), (7, .ref a7)]) dL_same_220 rfl (by decide) rfl ?_
  refine r_iload X dL_same_221 rfl ?_
  refine r_aload X dL_same_223 rfl ?_
  obtain ⟨x5, e6, E⟩ := gb_some E
  refine r_getIN X (k := 6) dL_same_225 (List.mem_of_getElem? (i := 5) rfl) rfl (by decide) e6 ?_
  refine r_if_ge X 235 dL_same_228 (by decide) (fun c7 => ?_) (fun c7 => ?_)
  · rw [if_pos c7] at E
    refine r_iconst X (v := 0) dL_same_235 (by decide) ?_
    exact r_widen X ⟨by (try dsimp only); omega, by (try dsimp only); omega⟩ ⟨by (try dsimp only); omega, by (try dsimp only); omega⟩ <| r_pick (by rfl : lpick [(3, .int (a3 + x3)), (2, .int (s1 + s0)), (0, .ref a0), (1, .int a1), (4, .int a4), (5, .int a5), (6, .int a6), (7, .ref a7)] [2, 3, 1, 0, 5, 6, 7] = _) (t_l_same_j236_15 X hl0 hr hnm hst hkc hks hc hx E)
  · rw [if_neg c7] at E
    refine r_iconst X (v := 1) dL_same_231 (by decide) ?_
    refine r_goto X 236 dL_same_232 (by decide) ?_
    exact r_widen X ⟨by (try dsimp only); omega, by (try dsimp only); omega⟩ ⟨by (try dsimp only); omega, by (try dsimp only); omega⟩ <| r_pick (by rfl : lpick [(3, .int (a3 + x3)), (2, .int (s1 + s0)), (0, .ref a0), (1, .int a1), (4, .int a4), (5, .int a5), (6, .int a6), (7, .ref a7)] [2, 3, 1, 0, 5, 6, 7] = _) (t_l_same_j236_15 X hl0 hr hnm hst hkc hks hc hx E)
set_option maxHeartbeats 4000000 in
set_option maxRecDepth 100000 in
theorem t_l_same_l15 {l : Launch} {G : GG} {M : MC} (X : CX M G cL_same 10 RL ⟨10, 170, 1020, 301⟩) (hl0 : M.2.1 = l) (hr : (mM M).sig.returnType = (some .boolean)) (hnm : (mM M).name = yL_same.name) (hst : l.stackTraces = false) {Q : State → Prop} {kc ks : Nat} {s9 : ((Int32 × Int32 × Int32 × Int32 × Int32 × Int32) ⊕ ((Int32 × Int32 × Int32 × Int32 × Int32) ⊕ Int32))} {g1 : AH} {a0 : Nat} {s0 : Int32 × Int32 × Int32 × Int32 × Int32 × Int32} {Kc Ks : Nat} (hkc : kc + 16 ≤ Kc ∧ Kc ≤ 170) (hks : ks + 96 ≤ Ks ∧ Ks ≤ 1020) (hc : ∀ s1, s9 = .inl s1 → WW M G 10 Q (kc + 16) (ks + 96) g1 15 [(0, .ref a0), (1, .int s1.1), (2, .int s1.2.1), (3, .int s1.2.2.1), (4, .int s1.2.2.2.1), (5, .int s1.2.2.2.2.1), (6, .int s1.2.2.2.2.2)] []) (hx : ∀ t, s9 = .inr t → Sum.elim (fun t1 => WW M G 10 Q Kc Ks g1 256 [(0, .ref a0), (1, .int t1.1), (2, .int t1.2.1), (3, .int t1.2.2.1), (4, .int t1.2.2.2.1), (5, .int t1.2.2.2.2)] []) (fun t2 => ∃ mc ms : Nat, Kc ≤ mc ∧ Ks ≤ ms ∧ Q = RQ M G (some (.int t2)) g1 mc ms) t) {g : AH} (E : l_same_l15 a0 s0 g = some (s9, g1)) : WW M G 10 Q kc ks g 15 [(0, .ref a0), (1, .int s0.1), (2, .int s0.2.1), (3, .int s0.2.2.1), (4, .int s0.2.2.2.1), (5, .int s0.2.2.2.2.1), (6, .int s0.2.2.2.2.2)] [] := by
  unfold l_same_l15 at E
  refine r_iload X dL_same_15 rfl ?_
  refine r_aload_n X 0 dL_same_17 rfl rfl ?_
  obtain ⟨x1, e2, E⟩ := gb_some E
  refine r_getR X dL_same_18 f_L_19 e2 ?_
  obtain ⟨u6, e7, E⟩ := gb_some E
  obtain ⟨r3, g4, e5, E⟩ := cb_some E
  refine r_callV0 X hl0 (ci := 12) dL_same_21 y_Jx4a65c_size_8abf5 m_L_210 rfl rfl e7 (t_jx4a65c_size_8abf5 (l := l) (G := G) e5) rfl rfl (Nat.le_of_ble_eq_true rfl) (by decide) ?_
  refine r_icmp_ge X 256 dL_same_24 (by decide) (fun c8 => ?_) (fun c8 => ?_)
  · rw [if_pos c8] at E
    cases E
    exact r_widen X ⟨by (try dsimp only); omega, hkc.2⟩ ⟨by (try dsimp only); omega, hks.2⟩ <| r_pick (by rfl : lpick [(0, .ref a0), (1, .int s0.1), (2, .int s0.2.1), (3, .int s0.2.2.1), (4, .int s0.2.2.2.1), (5, .int s0.2.2.2.2.1), (6, .int s0.2.2.2.2.2)] [0, 1, 2, 3, 4, 5] = _) (hx _ rfl)
  · rw [if_neg c8] at E
    refine r_aload_n X 0 dL_same_27 rfl rfl ?_
    obtain ⟨x9, e10, E⟩ := gb_some E
    refine r_getR X dL_same_28 f_L_19 e10 ?_
    refine r_iload X dL_same_31 rfl ?_
    obtain ⟨u14, e15, E⟩ := gb_some E
    obtain ⟨r11, g12, e13, E⟩ := cb_some E
    refine r_callV0 X hl0 (ci := 12) dL_same_33 y_Jx4a65c_get_915e3 m_L_246 rfl rfl e15 (t_jx4a65c_get_915e3 (l := l) (G := G) e13) rfl rfl (Nat.le_of_ble_eq_true rfl) (by decide) ?_
    obtain ⟨u16, e17, E⟩ := gb_some E
    refine r_cast X (ci := 9) dL_same_36 rfl k_L_207 e17 ?_
    refine r_astore X (L1 := [(7, .ref r11), (0, .ref a0), (1, .int s0.1), (2, .int s0.2.1), (3, .int s0.2.2.1), (4, .int s0.2.2.2.1), (5, .int s0.2.2.2.2.1), (6, .int s0.2.2.2.2.2)]) dL_same_39 (by decide) rfl ?_
    refine r_iconst X (v := 0) dL_same_41 (by decide) ?_
    refine r_istore X (L1 := [(8, .int 0), (7, .ref r11), (0, .ref a0), (1, .int s0.1), (2, .int s0.2.1), (3, .int s0.2.2.1), (4, .int s0.2.2.2.1), (5, .int s0.2.2.2.2.1), (6, .int s0.2.2.2.2.2)]) dL_same_42 (by decide) rfl ?_
    obtain ⟨t18, g19, e20, E⟩ := cb_some E
    rcases t18 with t21 | t22
    · rw [Sum.elim_inl] at E
      refine r_pick (by rfl : lpick [(8, .int 0), (7, .ref r11), (0, .ref a0), (1, .int s0.1), (2, .int s0.2.1), (3, .int s0.2.2.1), (4, .int s0.2.2.2.1), (5, .int s0.2.2.2.2.1), (6, .int s0.2.2.2.2.2)] [2, 3, 4, 5, 6, 7, 8, 1, 0] = _) (t_l_same_l44_r (Kc := kc + 10) (Ks := ks + 60) X hl0 hr hnm hst (by (try dsimp only); omega) (by (try dsimp only); omega) _ _ _ _ _ e20 ?_ _ _ (by (try dsimp only); omega) (by (try dsimp only); omega))
      refine r_aload_n X 0 dL_same_80 rfl rfl ?_
      obtain ⟨x23, e24, E⟩ := gb_some E
      refine r_getR X dL_same_81 f_L_10 e24 ?_
      refine r_iload X dL_same_84 rfl ?_
      obtain ⟨r25, g26, e27, E⟩ := cb_some E
      refine r_callW X hl0 dL_same_86 y_L_bunkOf m_L_296 (t_l_bunkOf (l := l) hst (G := G) e27) rfl rfl (Nat.le_of_ble_eq_true rfl) ⟨by decide, by show _ + 1 ≤ 170; (try dsimp only); omega, by show _ + 6 ≤ 1020; (try dsimp only); omega⟩ ?_
      refine r_aload X dL_same_89 rfl ?_
      obtain ⟨x28, e29, E⟩ := gb_some E
      refine r_getIN X (k := 5) dL_same_91 (List.mem_of_getElem? (i := 4) rfl) rfl (by decide) e29 ?_
      refine r_icmp_ne X 184 dL_same_94 (by decide) (fun c30 => ?_) (fun c30 => ?_)
      · rw [if_neg c30] at E
        refine r_iconst X (v := 0) dL_same_184 (by decide) ?_
        cases E
        obtain ⟨mc9, ms9, h91, h92, rfl⟩ := hx _ rfl
        exact r_zret X hr (Or.inl rfl) dL_same_185 (Nat.le_trans (by (try dsimp only); omega) h91) (Nat.le_trans (by (try dsimp only); omega) h92)
      · rw [if_pos c30] at E
        refine r_aload_n X 0 dL_same_97 rfl rfl ?_
        obtain ⟨x31, e32, E⟩ := gb_some E
        refine r_getR X dL_same_98 f_L_10 e32 ?_
        refine r_iload X dL_same_101 rfl ?_
        obtain ⟨r33, g34, e35, E⟩ := cb_some E
        refine r_callW X hl0 dL_same_103 y_L_blanketOf m_L_298 (t_l_blanketOf (l := l) hst (G := G) e35) rfl rfl (Nat.le_of_ble_eq_true rfl) ⟨by decide, by show _ + 1 ≤ 170; (try dsimp only); omega, by show _ + 6 ≤ 1020; (try dsimp only); omega⟩ ?_
        refine r_aload X dL_same_106 rfl ?_
        obtain ⟨x36, e37, E⟩ := gb_some E
        refine r_getIN X (k := 6) dL_same_108 (List.mem_of_getElem? (i := 5) rfl) rfl (by decide) e37 ?_
        refine r_icmp_ne X 184 dL_same_111 (by decide) (fun c38 => ?_) (fun c38 => ?_)
        · rw [if_neg c38] at E
          refine r_iconst X (v := 0) dL_same_184 (by decide) ?_
          cases E
          obtain ⟨mc9, ms9, h91, h92, rfl⟩ := hx _ rfl
          exact r_zret X hr (Or.inl rfl) dL_same_185 (Nat.le_trans (by (try dsimp only); omega) h91) (Nat.le_trans (by (try dsimp only); omega) h92)
        · rw [if_pos c38] at E
          refine r_aload_n X 0 dL_same_114 rfl rfl ?_
          obtain ⟨x39, e40, E⟩ := gb_some E
          refine r_getR X dL_same_115 f_L_10 e40 ?_
          refine r_iload X dL_same_118 rfl ?_
          obtain ⟨r41, g42, e43, E⟩ := cb_some E
          refine r_callW X hl0 dL_same_120 y_L_warmth m_L_300 (t_l_warmth (l := l) hst (G := G) e43) rfl rfl (Nat.le_of_ble_eq_true rfl) ⟨by decide, by show _ + 1 ≤ 170; (try dsimp only); omega, by show _ + 6 ≤ 1020; (try dsimp only); omega⟩ ?_
          refine r_aload_n X 0 dL_same_123 rfl rfl ?_
          refine r_aload X dL_same_124 rfl ?_
          obtain ⟨u47, e48, E⟩ := gb_some E
          obtain ⟨r44, g45, e46, E⟩ := cb_some E
          refine r_callV0 X hl0 (ci := 10) dL_same_126 y_L_warm m_L_260 rfl rfl e48 (t_l_warm (l := l) hst (G := G) e46) rfl rfl (Nat.le_of_ble_eq_true rfl) (by decide) ?_
          refine r_icmp_ne X 184 dL_same_129 (by decide) (fun c49 => ?_) (fun c49 => ?_)
          · rw [if_neg c49] at E
            refine r_iconst X (v := 0) dL_same_184 (by decide) ?_
            cases E
            obtain ⟨mc9, ms9, h91, h92, rfl⟩ := hx _ rfl
            exact r_zret X hr (Or.inl rfl) dL_same_185 (Nat.le_trans (by (try dsimp only); omega) h91) (Nat.le_trans (by (try dsimp only); omega) h92)
          · rw [if_pos c49] at E
            refine r_aload_n X 0 dL_same_132 rfl rfl ?_
            obtain ⟨x50, e51, E⟩ := gb_some E
            refine r_getR X dL_same_133 f_L_10 e51 ?_
            refine r_iload X dL_same_136 rfl ?_
            obtain ⟨r52, g53, e54, E⟩ := cb_some E
            refine r_callW X hl0 dL_same_138 y_L_activity m_L_302 (t_l_activity (l := l) hst (G := G) e54) rfl rfl (Nat.le_of_ble_eq_true rfl) ⟨by decide, by show _ + 1 ≤ 170; (try dsimp only); omega, by show _ + 6 ≤ 1020; (try dsimp only); omega⟩ ?_
            refine r_aload_n X 0 dL_same_141 rfl rfl ?_
            refine r_aload X dL_same_142 rfl ?_
            obtain ⟨u58, e59, E⟩ := gb_some E
            obtain ⟨r55, g56, e57, E⟩ := cb_some E
            refine r_callV0 X hl0 (ci := 10) dL_same_144 y_L_does m_L_287 rfl rfl e59 (t_l_does (l := l) hst (G := G) e57) rfl rfl (Nat.le_of_ble_eq_true rfl) (by decide) ?_
            refine r_icmp_ne X 184 dL_same_147 (by decide) (fun c60 => ?_) (fun c60 => ?_)
            · rw [if_neg c60] at E
              refine r_iconst X (v := 0) dL_same_184 (by decide) ?_
              cases E
              obtain ⟨mc9, ms9, h91, h92, rfl⟩ := hx _ rfl
              exact r_zret X hr (Or.inl rfl) dL_same_185 (Nat.le_trans (by (try dsimp only); omega) h91) (Nat.le_trans (by (try dsimp only); omega) h92)
            · rw [if_pos c60] at E
              refine r_aload_n X 0 dL_same_150 rfl rfl ?_
              obtain ⟨x61, e62, E⟩ := gb_some E
              refine r_getR X dL_same_151 f_L_10 e62 ?_
              refine r_iload X dL_same_154 rfl ?_
              obtain ⟨r63, g64, e65, E⟩ := cb_some E
              refine r_callW X hl0 dL_same_156 y_L_coinsOf m_L_304 (t_l_coinsOf (l := l) hst (G := G) e65) rfl rfl (Nat.le_of_ble_eq_true rfl) ⟨by decide, by show _ + 1 ≤ 170; (try dsimp only); omega, by show _ + 6 ≤ 1020; (try dsimp only); omega⟩ ?_
              refine r_aload X dL_same_159 rfl ?_
              obtain ⟨x66, e67, E⟩ := gb_some E
              refine r_getIN X (k := 3) dL_same_161 (List.mem_of_getElem? (i := 3) rfl) rfl (by decide) e67 ?_
              refine r_icmp_ne X 184 dL_same_164 (by decide) (fun c68 => ?_) (fun c68 => ?_)
              · rw [if_neg c68] at E
                refine r_iconst X (v := 0) dL_same_184 (by decide) ?_
                cases E
                obtain ⟨mc9, ms9, h91, h92, rfl⟩ := hx _ rfl
                exact r_zret X hr (Or.inl rfl) dL_same_185 (Nat.le_trans (by (try dsimp only); omega) h91) (Nat.le_trans (by (try dsimp only); omega) h92)
              · rw [if_pos c68] at E
                refine r_aload_n X 0 dL_same_167 rfl rfl ?_
                obtain ⟨x69, e70, E⟩ := gb_some E
                refine r_getR X dL_same_168 f_L_10 e70 ?_
                refine r_iload X dL_same_171 rfl ?_
                obtain ⟨r71, g72, e73, E⟩ := cb_some E
                refine r_callW X hl0 dL_same_173 y_L_debtOf m_L_306 (t_l_debtOf (l := l) hst (G := G) e73) rfl rfl (Nat.le_of_ble_eq_true rfl) ⟨by decide, by show _ + 1 ≤ 170; (try dsimp only); omega, by show _ + 6 ≤ 1020; (try dsimp only); omega⟩ ?_
                refine r_aload X dL_same_176 rfl ?_
                obtain ⟨x74, e75, E⟩ := gb_some E
                refine r_getIN X (k := 4) dL_same_178 (List.mem_of_getElem? (i := 6) rfl) rfl (by decide) e75 ?_
                refine r_icmp_eq X 186 dL_same_181 (by decide) (fun c76 => ?_) (fun c76 => ?_)
                · rw [if_pos c76] at E
                  refine r_iload_n X 1 dL_same_186 rfl rfl ?_
                  refine r_aload X dL_same_187 rfl ?_
                  obtain ⟨x77, e78, E⟩ := gb_some E
                  refine r_getIN X (k := 4) dL_same_189 (List.mem_of_getElem? (i := 6) rfl) rfl (by decide) e78 ?_
                  refine r_iadd X dL_same_192 ?_
                  refine r_istore_n X 1 (L1 := [(1, .int (s0.1 + x77)), (0, .ref a0), (2, .int s0.2.1), (3, .int s0.2.2.1), (4, .int s0.2.2.2.1), (5, .int s0.2.2.2.2.1), (6, .int s0.2.2.2.2.2), (7, .ref r11)]) dL_same_193 rfl (by decide) rfl ?_
                  refine r_iload_n X 2 dL_same_194 rfl rfl ?_
                  refine r_aload_n X 0 dL_same_195 rfl rfl ?_
                  refine r_aload X dL_same_196 rfl ?_
                  obtain ⟨u82, e83, E⟩ := gb_some E
                  obtain ⟨r79, g80, e81, E⟩ := cb_some E
                  refine r_callV0 X hl0 (ci := 10) dL_same_198 y_L_isCold m_L_264 rfl rfl e83 (t_l_isCold (l := l) hst (G := G) e81) rfl rfl (Nat.le_of_ble_eq_true rfl) (by decide) ?_
                  refine r_if_eq X 208 dL_same_201 (by decide) (fun c84 => ?_) (fun c84 => ?_)
                  · rw [if_pos c84] at E
                    refine r_iconst X (v := 0) dL_same_208 (by decide) ?_
                    exact r_widen X ⟨by (try dsimp only); omega, by (try dsimp only); omega⟩ ⟨by (try dsimp only); omega, by (try dsimp only); omega⟩ <| r_pick (by rfl : lpick [(1, .int (s0.1 + x77)), (0, .ref a0), (2, .int s0.2.1), (3, .int s0.2.2.1), (4, .int s0.2.2.2.1), (5, .int s0.2.2.2.2.1), (6, .int s0.2.2.2.2.2), (7, .ref r11)] [1, 0, 3, 4, 5, 6, 7] = _) (t_l_same_j209_15 X hl0 hr hnm hst hkc hks hc hx E)
                  · rw [if_neg c84] at E
                    refine r_iconst X (v := 1) dL_same_204 (by decide) ?_
                    refine r_goto X 209 dL_same_205 (by decide) ?_
                    exact r_widen X ⟨by (try dsimp only); omega, by (try dsimp only); omega⟩ ⟨by (try dsimp only); omega, by (try dsimp only); omega⟩ <| r_pick (by rfl : lpick [(1, .int (s0.1 + x77)), (0, .ref a0), (2, .int s0.2.1), (3, .int s0.2.2.1), (4, .int s0.2.2.2.1), (5, .int s0.2.2.2.2.1), (6, .int s0.2.2.2.2.2), (7, .ref r11)] [1, 0, 3, 4, 5, 6, 7] = _) (t_l_same_j209_15 X hl0 hr hnm hst hkc hks hc hx E)
                · rw [if_neg c76] at E
                  refine r_iconst X (v := 0) dL_same_184 (by decide) ?_
                  cases E
                  obtain ⟨mc9, ms9, h91, h92, rfl⟩ := hx _ rfl
                  exact r_zret X hr (Or.inl rfl) dL_same_185 (Nat.le_trans (by (try dsimp only); omega) h91) (Nat.le_trans (by (try dsimp only); omega) h92)
    · rw [Sum.elim_inr] at E
      cases E
      exact r_pick (by rfl : lpick [(8, .int 0), (7, .ref r11), (0, .ref a0), (1, .int s0.1), (2, .int s0.2.1), (3, .int s0.2.2.1), (4, .int s0.2.2.2.1), (5, .int s0.2.2.2.2.1), (6, .int s0.2.2.2.2.2)] [2, 3, 4, 5, 6, 7, 8, 1, 0] = _) (t_l_same_l44_r (Kc := kc + 10) (Ks := ks + 60) X hl0 hr hnm hst (by (try dsimp only); omega) (by (try dsimp only); omega) _ _ _ _ _ e20 (by obtain ⟨mc9, ms9, h91, h92, e9⟩ := hx _ rfl; exact ⟨mc9, ms9, Nat.le_trans (by (try dsimp only); omega) h91, Nat.le_trans (by (try dsimp only); omega) h92, e9⟩) _ _ (by (try dsimp only); omega) (by (try dsimp only); omega))
set_option maxHeartbeats 4000000 in
theorem t_l_same_l15_r {l : Launch} {G : GG} {M : MC} (X : CX M G cL_same 10 RL ⟨10, 170, 1020, 301⟩) (hl0 : M.2.1 = l) (hr : (mM M).sig.returnType = (some .boolean)) (hnm : (mM M).name = yL_same.name) (hst : l.stackTraces = false) {Q : State → Prop} {Kc Ks : Nat} (hKc : Kc ≤ 170) (hKs : Ks ≤ 1020) {a0 : Nat} : ∀ (n : Nat) (s0 : Int32 × Int32 × Int32 × Int32 × Int32 × Int32) (g : AH) (t : ((Int32 × Int32 × Int32 × Int32 × Int32) ⊕ Int32)) (g1 : AH), loopX (l_same_l15 a0) n s0 g = some (t, g1) → Sum.elim (fun t1 => WW M G 10 Q Kc Ks g1 256 [(0, .ref a0), (1, .int t1.1), (2, .int t1.2.1), (3, .int t1.2.2.1), (4, .int t1.2.2.2.1), (5, .int t1.2.2.2.2)] []) (fun t2 => ∃ mc ms : Nat, Kc ≤ mc ∧ Ks ≤ ms ∧ Q = RQ M G (some (.int t2)) g1 mc ms) t → ∀ kc ks : Nat, kc + n * 16 ≤ Kc → ks + n * 96 ≤ Ks → WW M G 10 Q kc ks g 15 [(0, .ref a0), (1, .int s0.1), (2, .int s0.2.1), (3, .int s0.2.2.1), (4, .int s0.2.2.2.1), (5, .int s0.2.2.2.2.1), (6, .int s0.2.2.2.2.2)] [] :=
  loop_cps (K := fun (t : ((Int32 × Int32 × Int32 × Int32 × Int32) ⊕ Int32)) g1 => Sum.elim (fun t1 => WW M G 10 Q Kc Ks g1 256 [(0, .ref a0), (1, .int t1.1), (2, .int t1.2.1), (3, .int t1.2.2.1), (4, .int t1.2.2.2.1), (5, .int t1.2.2.2.2)] []) (fun t2 => ∃ mc ms : Nat, Kc ≤ mc ∧ Ks ≤ ms ∧ Q = RQ M G (some (.int t2)) g1 mc ms) t) (fun n (s0 : Int32 × Int32 × Int32 × Int32 × Int32 × Int32) g => ∀ kc ks : Nat, kc + n * 16 ≤ Kc → ks + n * 96 ≤ Ks → WW M G 10 Q kc ks g 15 [(0, .ref a0), (1, .int s0.1), (2, .int s0.2.1), (3, .int s0.2.2.1), (4, .int s0.2.2.2.1), (5, .int s0.2.2.2.2.1), (6, .int s0.2.2.2.2.2)] []) (fun n s0 g st g1 E hc hx kc ks h1 h2 => by
    have e1 : (n + 1) * 16 = n * 16 + 16 := by omega
    have e2 : (n + 1) * 96 = n * 96 + 96 := by omega
    exact t_l_same_l15 X hl0 hr hnm hst ⟨by omega, hKc⟩ ⟨by omega, hKs⟩ (fun s1 e => hc s1 e _ _ (by omega) (by omega)) hx E)
set_option maxHeartbeats 4000000 in
set_option maxRecDepth 100000 in
theorem t_l_same_j299_259 {l : Launch} {G : GG} {M : MC} (X : CX M G cL_same 10 RL ⟨10, 170, 1020, 301⟩) (hl0 : M.2.1 = l) (hr : (mM M).sig.returnType = (some .boolean)) (hnm : (mM M).name = yL_same.name) (hst : l.stackTraces = false) {Q : State → Prop} {kc ks : Nat} {s9 : ((Int32) ⊕ ((Unit) ⊕ Int32))} {g1 : AH} {a0 : Nat} {a1 : Int32} {a2 : Int32} {a3 : Int32} {a4 : Int32} {a5 : Int32} {a6 : Int32} {s0 : Int32} {s1 : Int32} {Kc Ks : Nat} (hkc : kc + 2 ≤ Kc ∧ Kc ≤ 170) (hks : ks + 12 ≤ Ks ∧ Ks ≤ 1020) (hc : ∀ s1, s9 = .inl s1 → WW M G 10 Q (kc + 2) (ks + 12) g1 259 [(0, .ref a0), (1, .int a1), (2, .int a2), (3, .int a3), (4, .int a4), (5, .int a5), (6, .int s1)] []) (hx : ∀ t, s9 = .inr t → Sum.elim (fun t1 => WW M G 10 Q Kc Ks g1 328 [(0, .ref a0), (1, .int a1), (2, .int a2), (3, .int a3), (4, .int a4), (5, .int a5)] []) (fun t2 => ∃ mc ms : Nat, Kc ≤ mc ∧ Ks ≤ ms ∧ Q = RQ M G (some (.int t2)) g1 mc ms) t) {g : AH} (E : l_same_j299_259 a0 a1 a2 a3 a4 a5 a6 s0 s1 g = some (s9, g1)) : WW M G 10 Q (kc + 1) (ks + 6) g 299 [(0, .ref a0), (1, .int a1), (2, .int a2), (3, .int a3), (4, .int a4), (5, .int a5), (6, .int a6)] [.int s0, .int s1] := by
  unfold l_same_j299_259 at E
  refine r_icmp_ne X 320 dL_same_299 (by decide) (fun c1 => ?_) (fun c1 => ?_)
  · rw [if_neg c1] at E
    refine r_iconst X (v := 0) dL_same_320 (by decide) ?_
    cases E
    obtain ⟨mc9, ms9, h91, h92, rfl⟩ := hx _ rfl
    exact r_zret X hr (Or.inl rfl) dL_same_321 (Nat.le_trans (by (try dsimp only); omega) h91) (Nat.le_trans (by (try dsimp only); omega) h92)
  · rw [if_pos c1] at E
    refine r_aload_n X 0 dL_same_302 rfl rfl ?_
    obtain ⟨x2, e3, E⟩ := gb_some E
    refine r_getR X dL_same_303 f_L_10 e3 ?_
    refine r_iload X dL_same_306 rfl ?_
    obtain ⟨r4, g5, e6, E⟩ := cb_some E
    refine r_callW X hl0 dL_same_308 y_L_noiseIn m_L_310 (t_l_noiseIn (l := l) hst (G := G) e6) rfl rfl (Nat.le_of_ble_eq_true rfl) ⟨by decide, by show _ + 1 ≤ 170; (try dsimp only); omega, by show _ + 6 ≤ 1020; (try dsimp only); omega⟩ ?_
    refine r_aload_n X 0 dL_same_311 rfl rfl ?_
    refine r_iload X dL_same_312 rfl ?_
    obtain ⟨u10, e11, E⟩ := gb_some E
    obtain ⟨r7, g8, e9, E⟩ := cb_some E
    refine r_callV0 X hl0 (ci := 10) dL_same_314 y_L_noise m_L_271 rfl rfl e11 (t_l_noise (l := l) hst (G := G) e9) rfl rfl (Nat.le_of_ble_eq_true rfl) (by decide) ?_
    refine r_icmp_eq X 322 dL_same_317 (by decide) (fun c12 => ?_) (fun c12 => ?_)
    · rw [if_pos c12] at E
      refine r_iinc X (v := (a6 + 1)) (L1 := [(6, .int (a6 + 1)), (0, .ref a0), (1, .int a1), (2, .int a2), (3, .int a3), (4, .int a4), (5, .int a5)]) dL_same_322 rfl rfl (by decide) rfl ?_
      refine r_goto X 259 dL_same_325 (by decide) ?_
      cases E
      exact r_widen X ⟨by (try dsimp only); omega, Nat.le_trans hkc.1 hkc.2⟩ ⟨by (try dsimp only); omega, Nat.le_trans hks.1 hks.2⟩ <| r_pick (by rfl : lpick [(6, .int (a6 + 1)), (0, .ref a0), (1, .int a1), (2, .int a2), (3, .int a3), (4, .int a4), (5, .int a5)] [1, 2, 3, 4, 5, 6, 0] = _) (hc _ rfl)
    · rw [if_neg c12] at E
      refine r_iconst X (v := 0) dL_same_320 (by decide) ?_
      cases E
      obtain ⟨mc9, ms9, h91, h92, rfl⟩ := hx _ rfl
      exact r_zret X hr (Or.inl rfl) dL_same_321 (Nat.le_trans (by (try dsimp only); omega) h91) (Nat.le_trans (by (try dsimp only); omega) h92)
set_option maxHeartbeats 4000000 in
set_option maxRecDepth 100000 in
theorem t_l_same_l259 {l : Launch} {G : GG} {M : MC} (X : CX M G cL_same 10 RL ⟨10, 170, 1020, 301⟩) (hl0 : M.2.1 = l) (hr : (mM M).sig.returnType = (some .boolean)) (hnm : (mM M).name = yL_same.name) (hst : l.stackTraces = false) {Q : State → Prop} {kc ks : Nat} {s9 : ((Int32) ⊕ ((Unit) ⊕ Int32))} {g1 : AH} {a0 : Nat} {a1 : Int32} {a2 : Int32} {a3 : Int32} {a4 : Int32} {a5 : Int32} {s0 : Int32} {Kc Ks : Nat} (hkc : kc + 2 ≤ Kc ∧ Kc ≤ 170) (hks : ks + 12 ≤ Ks ∧ Ks ≤ 1020) (hc : ∀ s1, s9 = .inl s1 → WW M G 10 Q (kc + 2) (ks + 12) g1 259 [(0, .ref a0), (1, .int a1), (2, .int a2), (3, .int a3), (4, .int a4), (5, .int a5), (6, .int s1)] []) (hx : ∀ t, s9 = .inr t → Sum.elim (fun t1 => WW M G 10 Q Kc Ks g1 328 [(0, .ref a0), (1, .int a1), (2, .int a2), (3, .int a3), (4, .int a4), (5, .int a5)] []) (fun t2 => ∃ mc ms : Nat, Kc ≤ mc ∧ Ks ≤ ms ∧ Q = RQ M G (some (.int t2)) g1 mc ms) t) {g : AH} (E : l_same_l259 a0 a1 a2 a3 a4 a5 s0 g = some (s9, g1)) : WW M G 10 Q kc ks g 259 [(0, .ref a0), (1, .int a1), (2, .int a2), (3, .int a3), (4, .int a4), (5, .int a5), (6, .int s0)] [] := by
  unfold l_same_l259 at E
  refine r_iload X dL_same_259 rfl ?_
  refine r_aload_n X 0 dL_same_261 rfl rfl ?_
  obtain ⟨x1, e2, E⟩ := gb_some E
  refine r_getI X dL_same_262 f_L_175 e2 ?_
  refine r_icmp_ge X 328 dL_same_265 (by decide) (fun c3 => ?_) (fun c3 => ?_)
  · rw [if_pos c3] at E
    cases E
    exact r_widen X ⟨by (try dsimp only); omega, hkc.2⟩ ⟨by (try dsimp only); omega, hks.2⟩ <| r_pick (by rfl : lpick [(0, .ref a0), (1, .int a1), (2, .int a2), (3, .int a3), (4, .int a4), (5, .int a5), (6, .int s0)] [0, 1, 2, 3, 4, 5] = _) (hx _ rfl)
  · rw [if_neg c3] at E
    refine r_aload_n X 0 dL_same_268 rfl rfl ?_
    obtain ⟨x4, e5, E⟩ := gb_some E
    refine r_getR X dL_same_269 f_L_10 e5 ?_
    refine r_iload X dL_same_272 rfl ?_
    obtain ⟨r6, g7, e8, E⟩ := cb_some E
    refine r_callW X hl0 dL_same_274 y_L_hikerIn m_L_308 (t_l_hikerIn (l := l) hst (G := G) e8) rfl rfl (Nat.le_of_ble_eq_true rfl) ⟨by decide, by show _ + 1 ≤ 170; (try dsimp only); omega, by show _ + 6 ≤ 1020; (try dsimp only); omega⟩ ?_
    refine r_aload_n X 0 dL_same_277 rfl rfl ?_
    refine r_iload X dL_same_278 rfl ?_
    obtain ⟨u12, e13, E⟩ := gb_some E
    obtain ⟨r9, g10, e11, E⟩ := cb_some E
    refine r_callV0 X hl0 (ci := 10) dL_same_280 y_L_in m_L_256 rfl rfl e13 (t_l_in (l := l) hst (G := G) e11) rfl rfl (Nat.le_of_ble_eq_true rfl) (by decide) ?_
    rcases r9 with _ | y14
    · rw [nb_none] at E
      refine r_ifnonnull0 X dL_same_283 ?_
      refine r_iconst X (v := (-1)) dL_same_286 (by decide) ?_
      refine r_goto X 299 dL_same_287 (by decide) ?_
      exact r_widen X ⟨by (try dsimp only); omega, by (try dsimp only); omega⟩ ⟨by (try dsimp only); omega, by (try dsimp only); omega⟩ <| r_pick (by rfl : lpick [(0, .ref a0), (1, .int a1), (2, .int a2), (3, .int a3), (4, .int a4), (5, .int a5), (6, .int s0)] [0, 1, 2, 3, 4, 5, 6] = _) (t_l_same_j299_259 X hl0 hr hnm hst hkc hks hc hx E)
    · rw [nb_some] at E
      refine r_ifnonnull1 X 290 dL_same_283 (by decide) ?_
      refine r_aload_n X 0 dL_same_290 rfl rfl ?_
      refine r_iload X dL_same_291 rfl ?_
      obtain ⟨u18, e19, E⟩ := gb_some E
      obtain ⟨r15, g16, e17, E⟩ := cb_some E
      refine r_callV0 X hl0 (ci := 10) dL_same_293 y_L_in m_L_256 rfl rfl e19 (t_l_in (l := l) hst (G := G) e17) rfl rfl (Nat.le_of_ble_eq_true rfl) (by decide) ?_
      rcases r15 with _ | y20
      · rw [nb_none] at E; cases E
      rw [nb_some] at E
      obtain ⟨x21, e22, E⟩ := gb_some E
      refine r_getIN X (k := 0) dL_same_296 (List.mem_of_getElem? (i := 0) rfl) rfl (by decide) e22 ?_
      exact r_widen X ⟨by (try dsimp only); omega, by (try dsimp only); omega⟩ ⟨by (try dsimp only); omega, by (try dsimp only); omega⟩ <| r_pick (by rfl : lpick [(0, .ref a0), (1, .int a1), (2, .int a2), (3, .int a3), (4, .int a4), (5, .int a5), (6, .int s0)] [0, 1, 2, 3, 4, 5, 6] = _) (t_l_same_j299_259 X hl0 hr hnm hst hkc hks hc hx E)
set_option maxHeartbeats 4000000 in
theorem t_l_same_l259_r {l : Launch} {G : GG} {M : MC} (X : CX M G cL_same 10 RL ⟨10, 170, 1020, 301⟩) (hl0 : M.2.1 = l) (hr : (mM M).sig.returnType = (some .boolean)) (hnm : (mM M).name = yL_same.name) (hst : l.stackTraces = false) {Q : State → Prop} {Kc Ks : Nat} (hKc : Kc ≤ 170) (hKs : Ks ≤ 1020) {a0 : Nat} {a1 : Int32} {a2 : Int32} {a3 : Int32} {a4 : Int32} {a5 : Int32} : ∀ (n : Nat) (s0 : Int32) (g : AH) (t : ((Unit) ⊕ Int32)) (g1 : AH), loopX (l_same_l259 a0 a1 a2 a3 a4 a5) n s0 g = some (t, g1) → Sum.elim (fun t1 => WW M G 10 Q Kc Ks g1 328 [(0, .ref a0), (1, .int a1), (2, .int a2), (3, .int a3), (4, .int a4), (5, .int a5)] []) (fun t2 => ∃ mc ms : Nat, Kc ≤ mc ∧ Ks ≤ ms ∧ Q = RQ M G (some (.int t2)) g1 mc ms) t → ∀ kc ks : Nat, kc + n * 2 ≤ Kc → ks + n * 12 ≤ Ks → WW M G 10 Q kc ks g 259 [(0, .ref a0), (1, .int a1), (2, .int a2), (3, .int a3), (4, .int a4), (5, .int a5), (6, .int s0)] [] :=
  loop_cps (K := fun (t : ((Unit) ⊕ Int32)) g1 => Sum.elim (fun t1 => WW M G 10 Q Kc Ks g1 328 [(0, .ref a0), (1, .int a1), (2, .int a2), (3, .int a3), (4, .int a4), (5, .int a5)] []) (fun t2 => ∃ mc ms : Nat, Kc ≤ mc ∧ Ks ≤ ms ∧ Q = RQ M G (some (.int t2)) g1 mc ms) t) (fun n (s0 : Int32) g => ∀ kc ks : Nat, kc + n * 2 ≤ Kc → ks + n * 12 ≤ Ks → WW M G 10 Q kc ks g 259 [(0, .ref a0), (1, .int a1), (2, .int a2), (3, .int a3), (4, .int a4), (5, .int a5), (6, .int s0)] []) (fun n s0 g st g1 E hc hx kc ks h1 h2 => by
    have e1 : (n + 1) * 2 = n * 2 + 2 := by omega
    have e2 : (n + 1) * 12 = n * 12 + 12 := by omega
    exact t_l_same_l259 X hl0 hr hnm hst ⟨by omega, hKc⟩ ⟨by omega, hKs⟩ (fun s1 e => hc s1 e _ _ (by omega) (by omega)) hx E)
set_option maxHeartbeats 4000000 in
set_option maxRecDepth 100000 in
theorem t_l_same_j371_331 {l : Launch} {G : GG} {M : MC} (X : CX M G cL_same 10 RL ⟨10, 170, 1020, 301⟩) (hl0 : M.2.1 = l) (hr : (mM M).sig.returnType = (some .boolean)) (hnm : (mM M).name = yL_same.name) (hst : l.stackTraces = false) {Q : State → Prop} {kc ks : Nat} {s9 : ((Int32) ⊕ ((Unit) ⊕ Int32))} {g1 : AH} {a0 : Nat} {a1 : Int32} {a2 : Int32} {a3 : Int32} {a4 : Int32} {a5 : Int32} {a6 : Int32} {s0 : Int32} {s1 : Int32} {Kc Ks : Nat} (hkc : kc + 1 ≤ Kc ∧ Kc ≤ 170) (hks : ks + 6 ≤ Ks ∧ Ks ≤ 1020) (hc : ∀ s1, s9 = .inl s1 → WW M G 10 Q (kc + 1) (ks + 6) g1 331 [(0, .ref a0), (1, .int a1), (2, .int a2), (3, .int a3), (4, .int a4), (5, .int a5), (6, .int s1)] []) (hx : ∀ t, s9 = .inr t → Sum.elim (fun t1 => WW M G 10 Q Kc Ks g1 382 [(0, .ref a0), (1, .int a1), (2, .int a2), (3, .int a3), (4, .int a4), (5, .int a5)] []) (fun t2 => ∃ mc ms : Nat, Kc ≤ mc ∧ Ks ≤ ms ∧ Q = RQ M G (some (.int t2)) g1 mc ms) t) {g : AH} (E : l_same_j371_331 a0 a1 a2 a3 a4 a5 a6 s0 s1 g = some (s9, g1)) : WW M G 10 Q (kc + 1) (ks + 6) g 371 [(0, .ref a0), (1, .int a1), (2, .int a2), (3, .int a3), (4, .int a4), (5, .int a5), (6, .int a6)] [.int s0, .int s1] := by
  unfold l_same_j371_331 at E
  refine r_icmp_eq X 376 dL_same_371 (by decide) (fun c1 => ?_) (fun c1 => ?_)
  · rw [if_pos c1] at E
    refine r_iinc X (v := (a6 + 1)) (L1 := [(6, .int (a6 + 1)), (0, .ref a0), (1, .int a1), (2, .int a2), (3, .int a3), (4, .int a4), (5, .int a5)]) dL_same_376 rfl rfl (by decide) rfl ?_
    refine r_goto X 331 dL_same_379 (by decide) ?_
    cases E
    exact r_widen X ⟨by (try dsimp only); omega, Nat.le_trans hkc.1 hkc.2⟩ ⟨by (try dsimp only); omega, Nat.le_trans hks.1 hks.2⟩ <| r_pick (by rfl : lpick [(6, .int (a6 + 1)), (0, .ref a0), (1, .int a1), (2, .int a2), (3, .int a3), (4, .int a4), (5, .int a5)] [1, 2, 3, 4, 5, 6, 0] = _) (hc _ rfl)
  · rw [if_neg c1] at E
    refine r_iconst X (v := 0) dL_same_374 (by decide) ?_
    cases E
    obtain ⟨mc9, ms9, h91, h92, rfl⟩ := hx _ rfl
    exact r_zret X hr (Or.inl rfl) dL_same_375 (Nat.le_trans (by (try dsimp only); omega) h91) (Nat.le_trans (by (try dsimp only); omega) h92)
set_option maxHeartbeats 4000000 in
set_option maxRecDepth 100000 in
theorem t_l_same_l331 {l : Launch} {G : GG} {M : MC} (X : CX M G cL_same 10 RL ⟨10, 170, 1020, 301⟩) (hl0 : M.2.1 = l) (hr : (mM M).sig.returnType = (some .boolean)) (hnm : (mM M).name = yL_same.name) (hst : l.stackTraces = false) {Q : State → Prop} {kc ks : Nat} {s9 : ((Int32) ⊕ ((Unit) ⊕ Int32))} {g1 : AH} {a0 : Nat} {a1 : Int32} {a2 : Int32} {a3 : Int32} {a4 : Int32} {a5 : Int32} {s0 : Int32} {Kc Ks : Nat} (hkc : kc + 1 ≤ Kc ∧ Kc ≤ 170) (hks : ks + 6 ≤ Ks ∧ Ks ≤ 1020) (hc : ∀ s1, s9 = .inl s1 → WW M G 10 Q (kc + 1) (ks + 6) g1 331 [(0, .ref a0), (1, .int a1), (2, .int a2), (3, .int a3), (4, .int a4), (5, .int a5), (6, .int s1)] []) (hx : ∀ t, s9 = .inr t → Sum.elim (fun t1 => WW M G 10 Q Kc Ks g1 382 [(0, .ref a0), (1, .int a1), (2, .int a2), (3, .int a3), (4, .int a4), (5, .int a5)] []) (fun t2 => ∃ mc ms : Nat, Kc ≤ mc ∧ Ks ≤ ms ∧ Q = RQ M G (some (.int t2)) g1 mc ms) t) {g : AH} (E : l_same_l331 a0 a1 a2 a3 a4 a5 s0 g = some (s9, g1)) : WW M G 10 Q kc ks g 331 [(0, .ref a0), (1, .int a1), (2, .int a2), (3, .int a3), (4, .int a4), (5, .int a5), (6, .int s0)] [] := by
  unfold l_same_l331 at E
  refine r_iload X dL_same_331 rfl ?_
  refine r_aload_n X 0 dL_same_333 rfl rfl ?_
  obtain ⟨x1, e2, E⟩ := gb_some E
  refine r_getI X dL_same_334 f_L_178 e2 ?_
  refine r_icmp_ge X 382 dL_same_337 (by decide) (fun c3 => ?_) (fun c3 => ?_)
  · rw [if_pos c3] at E
    cases E
    exact r_widen X ⟨by (try dsimp only); omega, hkc.2⟩ ⟨by (try dsimp only); omega, hks.2⟩ <| r_pick (by rfl : lpick [(0, .ref a0), (1, .int a1), (2, .int a2), (3, .int a3), (4, .int a4), (5, .int a5), (6, .int s0)] [0, 1, 2, 3, 4, 5] = _) (hx _ rfl)
  · rw [if_neg c3] at E
    refine r_aload_n X 0 dL_same_340 rfl rfl ?_
    obtain ⟨x4, e5, E⟩ := gb_some E
    refine r_getR X dL_same_341 f_L_10 e5 ?_
    refine r_iload X dL_same_344 rfl ?_
    obtain ⟨r6, g7, e8, E⟩ := cb_some E
    refine r_callW X hl0 dL_same_346 y_L_userOf m_L_312 (t_l_userOf (l := l) hst (G := G) e8) rfl rfl (Nat.le_of_ble_eq_true rfl) ⟨by decide, by show _ + 1 ≤ 170; (try dsimp only); omega, by show _ + 6 ≤ 1020; (try dsimp only); omega⟩ ?_
    refine r_aload_n X 0 dL_same_349 rfl rfl ?_
    refine r_iload X dL_same_350 rfl ?_
    obtain ⟨u12, e13, E⟩ := gb_some E
    obtain ⟨r9, g10, e11, E⟩ := cb_some E
    refine r_callV0 X hl0 (ci := 10) dL_same_352 y_L_under m_L_314 rfl rfl e13 (t_l_under (l := l) hst (G := G) e11) rfl rfl (Nat.le_of_ble_eq_true rfl) (by decide) ?_
    rcases r9 with _ | y14
    · rw [nb_none] at E
      refine r_ifnonnull0 X dL_same_355 ?_
      refine r_iconst X (v := (-1)) dL_same_358 (by decide) ?_
      refine r_goto X 371 dL_same_359 (by decide) ?_
      exact r_widen X ⟨by (try dsimp only); omega, by (try dsimp only); omega⟩ ⟨by (try dsimp only); omega, by (try dsimp only); omega⟩ <| r_pick (by rfl : lpick [(0, .ref a0), (1, .int a1), (2, .int a2), (3, .int a3), (4, .int a4), (5, .int a5), (6, .int s0)] [0, 1, 2, 3, 4, 5, 6] = _) (t_l_same_j371_331 X hl0 hr hnm hst hkc hks hc hx E)
    · rw [nb_some] at E
      refine r_ifnonnull1 X 362 dL_same_355 (by decide) ?_
      refine r_aload_n X 0 dL_same_362 rfl rfl ?_
      refine r_iload X dL_same_363 rfl ?_
      obtain ⟨u18, e19, E⟩ := gb_some E
      obtain ⟨r15, g16, e17, E⟩ := cb_some E
      refine r_callV0 X hl0 (ci := 10) dL_same_365 y_L_under m_L_314 rfl rfl e19 (t_l_under (l := l) hst (G := G) e17) rfl rfl (Nat.le_of_ble_eq_true rfl) (by decide) ?_
      rcases r15 with _ | y20
      · rw [nb_none] at E; cases E
      rw [nb_some] at E
      obtain ⟨x21, e22, E⟩ := gb_some E
      refine r_getIN X (k := 0) dL_same_368 (List.mem_of_getElem? (i := 0) rfl) rfl (by decide) e22 ?_
      exact r_widen X ⟨by (try dsimp only); omega, by (try dsimp only); omega⟩ ⟨by (try dsimp only); omega, by (try dsimp only); omega⟩ <| r_pick (by rfl : lpick [(0, .ref a0), (1, .int a1), (2, .int a2), (3, .int a3), (4, .int a4), (5, .int a5), (6, .int s0)] [0, 1, 2, 3, 4, 5, 6] = _) (t_l_same_j371_331 X hl0 hr hnm hst hkc hks hc hx E)
set_option maxHeartbeats 4000000 in
theorem t_l_same_l331_r {l : Launch} {G : GG} {M : MC} (X : CX M G cL_same 10 RL ⟨10, 170, 1020, 301⟩) (hl0 : M.2.1 = l) (hr : (mM M).sig.returnType = (some .boolean)) (hnm : (mM M).name = yL_same.name) (hst : l.stackTraces = false) {Q : State → Prop} {Kc Ks : Nat} (hKc : Kc ≤ 170) (hKs : Ks ≤ 1020) {a0 : Nat} {a1 : Int32} {a2 : Int32} {a3 : Int32} {a4 : Int32} {a5 : Int32} : ∀ (n : Nat) (s0 : Int32) (g : AH) (t : ((Unit) ⊕ Int32)) (g1 : AH), loopX (l_same_l331 a0 a1 a2 a3 a4 a5) n s0 g = some (t, g1) → Sum.elim (fun t1 => WW M G 10 Q Kc Ks g1 382 [(0, .ref a0), (1, .int a1), (2, .int a2), (3, .int a3), (4, .int a4), (5, .int a5)] []) (fun t2 => ∃ mc ms : Nat, Kc ≤ mc ∧ Ks ≤ ms ∧ Q = RQ M G (some (.int t2)) g1 mc ms) t → ∀ kc ks : Nat, kc + n * 1 ≤ Kc → ks + n * 6 ≤ Ks → WW M G 10 Q kc ks g 331 [(0, .ref a0), (1, .int a1), (2, .int a2), (3, .int a3), (4, .int a4), (5, .int a5), (6, .int s0)] [] :=
  loop_cps (K := fun (t : ((Unit) ⊕ Int32)) g1 => Sum.elim (fun t1 => WW M G 10 Q Kc Ks g1 382 [(0, .ref a0), (1, .int a1), (2, .int a2), (3, .int a3), (4, .int a4), (5, .int a5)] []) (fun t2 => ∃ mc ms : Nat, Kc ≤ mc ∧ Ks ≤ ms ∧ Q = RQ M G (some (.int t2)) g1 mc ms) t) (fun n (s0 : Int32) g => ∀ kc ks : Nat, kc + n * 1 ≤ Kc → ks + n * 6 ≤ Ks → WW M G 10 Q kc ks g 331 [(0, .ref a0), (1, .int a1), (2, .int a2), (3, .int a3), (4, .int a4), (5, .int a5), (6, .int s0)] []) (fun n s0 g st g1 E hc hx kc ks h1 h2 => by
    have e1 : (n + 1) * 1 = n * 1 + 1 := by omega
    have e2 : (n + 1) * 6 = n * 6 + 6 := by omega
    exact t_l_same_l331 X hl0 hr hnm hst ⟨by omega, hKc⟩ ⟨by omega, hKs⟩ (fun s1 e => hc s1 e _ _ (by omega) (by omega)) hx E)
set_option maxHeartbeats 4000000 in
set_option maxRecDepth 100000 in
theorem t_l_same_j518_385 {l : Launch} {G : GG} {M : MC} (X : CX M G cL_same 10 RL ⟨10, 170, 1020, 301⟩) (hl0 : M.2.1 = l) (hr : (mM M).sig.returnType = (some .boolean)) (hnm : (mM M).name = yL_same.name) (hst : l.stackTraces = false) {Q : State → Prop} {kc ks : Nat} {s9 : ((Int32) ⊕ ((Unit) ⊕ Int32))} {g1 : AH} {a0 : Nat} {a1 : Int32} {a2 : Int32} {a3 : Int32} {a4 : Int32} {a5 : Int32} {a6 : Int32} {Kc Ks : Nat} (hkc : kc + 2 ≤ Kc ∧ Kc ≤ 170) (hks : ks + 12 ≤ Ks ∧ Ks ≤ 1020) (hc : ∀ s1, s9 = .inl s1 → WW M G 10 Q (kc + 2) (ks + 12) g1 385 [(0, .ref a0), (1, .int a1), (2, .int a2), (3, .int a3), (4, .int a4), (5, .int a5), (6, .int s1)] []) (hx : ∀ t, s9 = .inr t → Sum.elim (fun t1 => WW M G 10 Q Kc Ks g1 524 [(0, .ref a0), (1, .int a1), (2, .int a2), (3, .int a3), (4, .int a4), (5, .int a5)] []) (fun t2 => ∃ mc ms : Nat, Kc ≤ mc ∧ Ks ≤ ms ∧ Q = RQ M G (some (.int t2)) g1 mc ms) t) {g : AH} (E : l_same_j518_385 a0 a1 a2 a3 a4 a5 a6 g = some (s9, g1)) : WW M G 10 Q (kc + 2) (ks + 12) g 518 [(0, .ref a0), (1, .int a1), (2, .int a2), (3, .int a3), (4, .int a4), (5, .int a5), (6, .int a6)] [] := by
  unfold l_same_j518_385 at E
  refine r_iinc X (v := (a6 + 1)) (L1 := [(6, .int (a6 + 1)), (0, .ref a0), (1, .int a1), (2, .int a2), (3, .int a3), (4, .int a4), (5, .int a5)]) dL_same_518 rfl rfl (by decide) rfl ?_
  refine r_goto X 385 dL_same_521 (by decide) ?_
  cases E
  exact r_widen X ⟨by (try dsimp only); omega, Nat.le_trans hkc.1 hkc.2⟩ ⟨by (try dsimp only); omega, Nat.le_trans hks.1 hks.2⟩ <| r_pick (by rfl : lpick [(6, .int (a6 + 1)), (0, .ref a0), (1, .int a1), (2, .int a2), (3, .int a3), (4, .int a4), (5, .int a5)] [1, 2, 3, 4, 5, 6, 0] = _) (hc _ rfl)
set_option maxHeartbeats 4000000 in
set_option maxRecDepth 100000 in
theorem t_l_same_j491_385 {l : Launch} {G : GG} {M : MC} (X : CX M G cL_same 10 RL ⟨10, 170, 1020, 301⟩) (hl0 : M.2.1 = l) (hr : (mM M).sig.returnType = (some .boolean)) (hnm : (mM M).name = yL_same.name) (hst : l.stackTraces = false) {Q : State → Prop} {kc ks : Nat} {s9 : ((Int32) ⊕ ((Unit) ⊕ Int32))} {g1 : AH} {a0 : Nat} {a1 : Int32} {a2 : Int32} {a3 : Int32} {a4 : Int32} {a5 : Int32} {a6 : Int32} {a7 : Nat} {a8 : Nat} {s0 : Int32} {Kc Ks : Nat} (hkc : kc + 2 ≤ Kc ∧ Kc ≤ 170) (hks : ks + 12 ≤ Ks ∧ Ks ≤ 1020) (hc : ∀ s1, s9 = .inl s1 → WW M G 10 Q (kc + 2) (ks + 12) g1 385 [(0, .ref a0), (1, .int a1), (2, .int a2), (3, .int a3), (4, .int a4), (5, .int a5), (6, .int s1)] []) (hx : ∀ t, s9 = .inr t → Sum.elim (fun t1 => WW M G 10 Q Kc Ks g1 524 [(0, .ref a0), (1, .int a1), (2, .int a2), (3, .int a3), (4, .int a4), (5, .int a5)] []) (fun t2 => ∃ mc ms : Nat, Kc ≤ mc ∧ Ks ≤ ms ∧ Q = RQ M G (some (.int t2)) g1 mc ms) t) {g : AH} (E : l_same_j491_385 a0 a1 a2 a3 a4 a5 a6 a7 a8 s0 g = some (s9, g1)) : WW M G 10 Q (kc + 2) (ks + 12) g 491 [(0, .ref a0), (1, .int a1), (2, .int a2), (3, .int a3), (4, .int a4), (5, .int a5), (6, .int a6), (7, .ref a7), (8, .ref a8)] [.int s0] := by
  unfold l_same_j491_385 at E
  refine r_istore X (L1 := [(9, .int s0), (0, .ref a0), (1, .int a1), (2, .int a2), (3, .int a3), (4, .int a4), (5, .int a5), (6, .int a6), (7, .ref a7), (8, .ref a8)]) dL_same_491 (by decide) rfl ?_
  refine r_iload X dL_same_493 rfl ?_
  refine r_if_lt X 516 dL_same_495 (by decide) (fun c1 => ?_) (fun c1 => ?_)
  · rw [if_pos c1] at E
    refine r_iconst X (v := 0) dL_same_516 (by decide) ?_
    cases E
    obtain ⟨mc9, ms9, h91, h92, rfl⟩ := hx _ rfl
    exact r_zret X hr (Or.inl rfl) dL_same_517 (Nat.le_trans (by (try dsimp only); omega) h91) (Nat.le_trans (by (try dsimp only); omega) h92)
  · rw [if_neg c1] at E
    refine r_iload X dL_same_498 rfl ?_
    refine r_if_ne X 518 dL_same_500 (by decide) (fun c2 => ?_) (fun c2 => ?_)
    · rw [if_neg c2] at E
      exact r_widen X ⟨by (try dsimp only); omega, by (try dsimp only); omega⟩ ⟨by (try dsimp only); omega, by (try dsimp only); omega⟩ <| r_pick (by rfl : lpick [(9, .int s0), (0, .ref a0), (1, .int a1), (2, .int a2), (3, .int a3), (4, .int a4), (5, .int a5), (6, .int a6), (7, .ref a7), (8, .ref a8)] [1, 2, 3, 4, 5, 6, 7] = _) (t_l_same_j518_385 X hl0 hr hnm hst hkc hks hc hx E)
    · rw [if_pos c2] at E
      refine r_aload X dL_same_503 rfl ?_
      obtain ⟨x3, e4, E⟩ := gb_some E
      refine r_getIN X (k := 0) dL_same_505 (List.mem_of_getElem? (i := 0) rfl) rfl (by decide) e4 ?_
      refine r_aload X dL_same_508 rfl ?_
      obtain ⟨x5, e6, E⟩ := gb_some E
      refine r_getIN X (k := 0) dL_same_510 (List.mem_of_getElem? (i := 0) rfl) rfl (by decide) e6 ?_
      refine r_icmp_le X 518 dL_same_513 (by decide) (fun c7 => ?_) (fun c7 => ?_)
      · rw [if_pos c7] at E
        exact r_widen X ⟨by (try dsimp only); omega, by (try dsimp only); omega⟩ ⟨by (try dsimp only); omega, by (try dsimp only); omega⟩ <| r_pick (by rfl : lpick [(9, .int s0), (0, .ref a0), (1, .int a1), (2, .int a2), (3, .int a3), (4, .int a4), (5, .int a5), (6, .int a6), (7, .ref a7), (8, .ref a8)] [1, 2, 3, 4, 5, 6, 7] = _) (t_l_same_j518_385 X hl0 hr hnm hst hkc hks hc hx E)
      · rw [if_neg c7] at E
        refine r_iconst X (v := 0) dL_same_516 (by decide) ?_
        cases E
        obtain ⟨mc9, ms9, h91, h92, rfl⟩ := hx _ rfl
        exact r_zret X hr (Or.inl rfl) dL_same_517 (Nat.le_trans (by (try dsimp only); omega) h91) (Nat.le_trans (by (try dsimp only); omega) h92)
set_option maxHeartbeats 4000000 in
set_option maxRecDepth 100000 in
theorem t_l_same_l385 {l : Launch} {G : GG} {M : MC} (X : CX M G cL_same 10 RL ⟨10, 170, 1020, 301⟩) (hl0 : M.2.1 = l) (hr : (mM M).sig.returnType = (some .boolean)) (hnm : (mM M).name = yL_same.name) (hst : l.stackTraces = false) {Q : State → Prop} {kc ks : Nat} {s9 : ((Int32) ⊕ ((Unit) ⊕ Int32))} {g1 : AH} {a0 : Nat} {a1 : Int32} {a2 : Int32} {a3 : Int32} {a4 : Int32} {a5 : Int32} {s0 : Int32} {Kc Ks : Nat} (hkc : kc + 2 ≤ Kc ∧ Kc ≤ 170) (hks : ks + 12 ≤ Ks ∧ Ks ≤ 1020) (hc : ∀ s1, s9 = .inl s1 → WW M G 10 Q (kc + 2) (ks + 12) g1 385 [(0, .ref a0), (1, .int a1), (2, .int a2), (3, .int a3), (4, .int a4), (5, .int a5), (6, .int s1)] []) (hx : ∀ t, s9 = .inr t → Sum.elim (fun t1 => WW M G 10 Q Kc Ks g1 524 [(0, .ref a0), (1, .int a1), (2, .int a2), (3, .int a3), (4, .int a4), (5, .int a5)] []) (fun t2 => ∃ mc ms : Nat, Kc ≤ mc ∧ Ks ≤ ms ∧ Q = RQ M G (some (.int t2)) g1 mc ms) t) {g : AH} (E : l_same_l385 a0 a1 a2 a3 a4 a5 s0 g = some (s9, g1)) : WW M G 10 Q kc ks g 385 [(0, .ref a0), (1, .int a1), (2, .int a2), (3, .int a3), (4, .int a4), (5, .int a5), (6, .int s0)] [] := by
  unfold l_same_l385 at E
  refine r_iload X dL_same_385 rfl ?_
  refine r_aload_n X 0 dL_same_387 rfl rfl ?_
  obtain ⟨x1, e2, E⟩ := gb_some E
  refine r_getR X dL_same_388 f_L_19 e2 ?_
  obtain ⟨u6, e7, E⟩ := gb_some E
  obtain ⟨r3, g4, e5, E⟩ := cb_some E
  refine r_callV0 X hl0 (ci := 12) dL_same_391 y_Jx4a65c_size_8abf5 m_L_210 rfl rfl e7 (t_jx4a65c_size_8abf5 (l := l) (G := G) e5) rfl rfl (Nat.le_of_ble_eq_true rfl) (by decide) ?_
  refine r_icmp_ge X 524 dL_same_394 (by decide) (fun c8 => ?_) (fun c8 => ?_)
  · rw [if_pos c8] at E
    cases E
    exact r_widen X ⟨by (try dsimp only); omega, hkc.2⟩ ⟨by (try dsimp only); omega, hks.2⟩ <| r_pick (by rfl : lpick [(0, .ref a0), (1, .int a1), (2, .int a2), (3, .int a3), (4, .int a4), (5, .int a5), (6, .int s0)] [0, 1, 2, 3, 4, 5] = _) (hx _ rfl)
  · rw [if_neg c8] at E
    refine r_aload_n X 0 dL_same_397 rfl rfl ?_
    obtain ⟨x9, e10, E⟩ := gb_some E
    refine r_getR X dL_same_398 f_L_19 e10 ?_
    refine r_aload_n X 0 dL_same_401 rfl rfl ?_
    obtain ⟨x11, e12, E⟩ := gb_some E
    refine r_getR X dL_same_402 f_L_10 e12 ?_
    refine r_iload X dL_same_405 rfl ?_
    refine r_iconst X (v := 1) dL_same_407 (by decide) ?_
    refine r_isub X dL_same_408 ?_
    obtain ⟨r13, g14, e15, E⟩ := cb_some E
    refine r_callW X hl0 dL_same_409 y_L_ranked m_L_317 (t_l_ranked (l := l) hst (G := G) e15) rfl rfl (Nat.le_of_ble_eq_true rfl) ⟨by decide, by show _ + 1 ≤ 170; (try dsimp only); omega, by show _ + 6 ≤ 1020; (try dsimp only); omega⟩ ?_
    obtain ⟨u19, e20, E⟩ := gb_some E
    obtain ⟨r16, g17, e18, E⟩ := cb_some E
    refine r_callV0 X hl0 (ci := 12) dL_same_412 y_Jx4a65c_get_915e3 m_L_246 rfl rfl e20 (t_jx4a65c_get_915e3 (l := l) (G := G) e18) rfl rfl (Nat.le_of_ble_eq_true rfl) (by decide) ?_
    obtain ⟨u21, e22, E⟩ := gb_some E
    refine r_cast X (ci := 9) dL_same_415 rfl k_L_207 e22 ?_
    refine r_astore X (L1 := [(7, .ref r16), (0, .ref a0), (1, .int a1), (2, .int a2), (3, .int a3), (4, .int a4), (5, .int a5), (6, .int s0)]) dL_same_418 (by decide) rfl ?_
    refine r_aload_n X 0 dL_same_420 rfl rfl ?_
    obtain ⟨x23, e24, E⟩ := gb_some E
    refine r_getR X dL_same_421 f_L_19 e24 ?_
    refine r_aload_n X 0 dL_same_424 rfl rfl ?_
    obtain ⟨x25, e26, E⟩ := gb_some E
    refine r_getR X dL_same_425 f_L_10 e26 ?_
    refine r_iload X dL_same_428 rfl ?_
    obtain ⟨r27, g28, e29, E⟩ := cb_some E
    refine r_callW X hl0 dL_same_430 y_L_ranked m_L_317 (t_l_ranked (l := l) hst (G := G) e29) rfl rfl (Nat.le_of_ble_eq_true rfl) ⟨by decide, by show _ + 1 ≤ 170; (try dsimp only); omega, by show _ + 6 ≤ 1020; (try dsimp only); omega⟩ ?_
    obtain ⟨u33, e34, E⟩ := gb_some E
    obtain ⟨r30, g31, e32, E⟩ := cb_some E
    refine r_callV0 X hl0 (ci := 12) dL_same_433 y_Jx4a65c_get_915e3 m_L_246 rfl rfl e34 (t_jx4a65c_get_915e3 (l := l) (G := G) e32) rfl rfl (Nat.le_of_ble_eq_true rfl) (by decide) ?_
    obtain ⟨u35, e36, E⟩ := gb_some E
    refine r_cast X (ci := 9) dL_same_436 rfl k_L_207 e36 ?_
    refine r_astore X (L1 := [(8, .ref r30), (7, .ref r16), (0, .ref a0), (1, .int a1), (2, .int a2), (3, .int a3), (4, .int a4), (5, .int a5), (6, .int s0)]) dL_same_439 (by decide) rfl ?_
    refine r_aload X dL_same_441 rfl ?_
    obtain ⟨x37, e38, E⟩ := gb_some E
    refine r_getRN X (k := 7) dL_same_443 (List.mem_of_getElem? (i := 7) rfl) rfl (by decide) e38 ?_
    refine r_iconst X (v := 2) dL_same_446 (by decide) ?_
    obtain ⟨x39, e40, E⟩ := gb_some E
    refine r_iald X dL_same_447 e40 ?_
    refine r_aload X dL_same_448 rfl ?_
    obtain ⟨x41, e42, E⟩ := gb_some E
    refine r_getRN X (k := 7) dL_same_450 (List.mem_of_getElem? (i := 7) rfl) rfl (by decide) e42 ?_
    refine r_iconst X (v := 2) dL_same_453 (by decide) ?_
    obtain ⟨x43, e44, E⟩ := gb_some E
    refine r_iald X dL_same_454 e44 ?_
    refine r_icmp_eq X 476 dL_same_455 (by decide) (fun c45 => ?_) (fun c45 => ?_)
    · rw [if_pos c45] at E
      refine r_aload X dL_same_476 rfl ?_
      obtain ⟨x46, e47, E⟩ := gb_some E
      refine r_getRN X (k := 7) dL_same_478 (List.mem_of_getElem? (i := 7) rfl) rfl (by decide) e47 ?_
      refine r_iconst X (v := 0) dL_same_481 (by decide) ?_
      obtain ⟨x48, e49, E⟩ := gb_some E
      refine r_iald X dL_same_482 e49 ?_
      refine r_aload X dL_same_483 rfl ?_
      obtain ⟨x50, e51, E⟩ := gb_some E
      refine r_getRN X (k := 7) dL_same_485 (List.mem_of_getElem? (i := 7) rfl) rfl (by decide) e51 ?_
      refine r_iconst X (v := 0) dL_same_488 (by decide) ?_
      obtain ⟨x52, e53, E⟩ := gb_some E
      refine r_iald X dL_same_489 e53 ?_
      refine r_isub X dL_same_490 ?_
      exact r_widen X ⟨by (try dsimp only); omega, by (try dsimp only); omega⟩ ⟨by (try dsimp only); omega, by (try dsimp only); omega⟩ <| r_pick (by rfl : lpick [(8, .ref r30), (7, .ref r16), (0, .ref a0), (1, .int a1), (2, .int a2), (3, .int a3), (4, .int a4), (5, .int a5), (6, .int s0)] [2, 3, 4, 5, 6, 7, 8, 1, 0] = _) (t_l_same_j491_385 X hl0 hr hnm hst hkc hks hc hx E)
    · rw [if_neg c45] at E
      refine r_aload X dL_same_458 rfl ?_
      obtain ⟨x54, e55, E⟩ := gb_some E
      refine r_getRN X (k := 7) dL_same_460 (List.mem_of_getElem? (i := 7) rfl) rfl (by decide) e55 ?_
      refine r_iconst X (v := 2) dL_same_463 (by decide) ?_
      obtain ⟨x56, e57, E⟩ := gb_some E
      refine r_iald X dL_same_464 e57 ?_
      refine r_aload X dL_same_465 rfl ?_
      obtain ⟨x58, e59, E⟩ := gb_some E
      refine r_getRN X (k := 7) dL_same_467 (List.mem_of_getElem? (i := 7) rfl) rfl (by decide) e59 ?_
      refine r_iconst X (v := 2) dL_same_470 (by decide) ?_
      obtain ⟨x60, e61, E⟩ := gb_some E
      refine r_iald X dL_same_471 e61 ?_
      refine r_isub X dL_same_472 ?_
      refine r_goto X 491 dL_same_473 (by decide) ?_
      exact r_widen X ⟨by (try dsimp only); omega, by (try dsimp only); omega⟩ ⟨by (try dsimp only); omega, by (try dsimp only); omega⟩ <| r_pick (by rfl : lpick [(8, .ref r30), (7, .ref r16), (0, .ref a0), (1, .int a1), (2, .int a2), (3, .int a3), (4, .int a4), (5, .int a5), (6, .int s0)] [2, 3, 4, 5, 6, 7, 8, 1, 0] = _) (t_l_same_j491_385 X hl0 hr hnm hst hkc hks hc hx E)
set_option maxHeartbeats 4000000 in
theorem t_l_same_l385_r {l : Launch} {G : GG} {M : MC} (X : CX M G cL_same 10 RL ⟨10, 170, 1020, 301⟩) (hl0 : M.2.1 = l) (hr : (mM M).sig.returnType = (some .boolean)) (hnm : (mM M).name = yL_same.name) (hst : l.stackTraces = false) {Q : State → Prop} {Kc Ks : Nat} (hKc : Kc ≤ 170) (hKs : Ks ≤ 1020) {a0 : Nat} {a1 : Int32} {a2 : Int32} {a3 : Int32} {a4 : Int32} {a5 : Int32} : ∀ (n : Nat) (s0 : Int32) (g : AH) (t : ((Unit) ⊕ Int32)) (g1 : AH), loopX (l_same_l385 a0 a1 a2 a3 a4 a5) n s0 g = some (t, g1) → Sum.elim (fun t1 => WW M G 10 Q Kc Ks g1 524 [(0, .ref a0), (1, .int a1), (2, .int a2), (3, .int a3), (4, .int a4), (5, .int a5)] []) (fun t2 => ∃ mc ms : Nat, Kc ≤ mc ∧ Ks ≤ ms ∧ Q = RQ M G (some (.int t2)) g1 mc ms) t → ∀ kc ks : Nat, kc + n * 2 ≤ Kc → ks + n * 12 ≤ Ks → WW M G 10 Q kc ks g 385 [(0, .ref a0), (1, .int a1), (2, .int a2), (3, .int a3), (4, .int a4), (5, .int a5), (6, .int s0)] [] :=
  loop_cps (K := fun (t : ((Unit) ⊕ Int32)) g1 => Sum.elim (fun t1 => WW M G 10 Q Kc Ks g1 524 [(0, .ref a0), (1, .int a1), (2, .int a2), (3, .int a3), (4, .int a4), (5, .int a5)] []) (fun t2 => ∃ mc ms : Nat, Kc ≤ mc ∧ Ks ≤ ms ∧ Q = RQ M G (some (.int t2)) g1 mc ms) t) (fun n (s0 : Int32) g => ∀ kc ks : Nat, kc + n * 2 ≤ Kc → ks + n * 12 ≤ Ks → WW M G 10 Q kc ks g 385 [(0, .ref a0), (1, .int a1), (2, .int a2), (3, .int a3), (4, .int a4), (5, .int a5), (6, .int s0)] []) (fun n s0 g st g1 E hc hx kc ks h1 h2 => by
    have e1 : (n + 1) * 2 = n * 2 + 2 := by omega
    have e2 : (n + 1) * 12 = n * 12 + 12 := by omega
    exact t_l_same_l385 X hl0 hr hnm hst ⟨by omega, hKc⟩ ⟨by omega, hKs⟩ (fun s1 e => hc s1 e _ _ (by omega) (by omega)) hx E)
set_option maxHeartbeats 4000000 in
set_option maxRecDepth 100000 in
theorem t_l_same_j702 {l : Launch} {G : GG} {M : MC} (X : CX M G cL_same 10 RL ⟨10, 170, 1020, 301⟩) (hl0 : M.2.1 = l) (hr : (mM M).sig.returnType = (some .boolean)) (hnm : (mM M).name = yL_same.name) (hst : l.stackTraces = false) {a0 : Nat} {s0 : UInt32} {s1 : UInt32} {g : AH} {r : Int32} {g1 : AH} (E : l_same_j702 a0 s0 s1 g = some (r, g1)) : WW M G 10 (RQ M G (some (.int r)) g1 170 1020) 169 1014 g 702 [(0, .ref a0)] [.float s0, .float s1] := by
  unfold l_same_j702 at E
  refine r_fcmp X dL_same_702 ?_
  refine r_if_ne X 739 dL_same_703 (by decide) (fun c1 => ?_) (fun c1 => ?_)
  · rw [if_neg c1] at E
    refine r_iconst X (v := 0) dL_same_739 (by decide) ?_
    cases E
    exact r_zret X hr (Or.inl rfl) dL_same_740 (by decide) (by decide)
  · rw [if_pos c1] at E
    refine r_aload_n X 0 dL_same_706 rfl rfl ?_
    obtain ⟨x2, e3, E⟩ := gb_some E
    refine r_getR X dL_same_707 f_L_10 e3 ?_
    refine r_aload_n X 0 dL_same_710 rfl rfl ?_
    obtain ⟨x4, e5, E⟩ := gb_some E
    refine r_getR X dL_same_711 f_L_19 e5 ?_
    obtain ⟨u9, e10, E⟩ := gb_some E
    obtain ⟨r6, g7, e8, E⟩ := cb_some E
    refine r_callV0 X hl0 (ci := 12) dL_same_714 y_Jx4a65c_size_8abf5 m_L_210 rfl rfl e10 (t_jx4a65c_size_8abf5 (l := l) (G := G) e8) rfl rfl (Nat.le_of_ble_eq_true rfl) (by decide) ?_
    obtain ⟨r11, g12, e13, E⟩ := cb_some E
    refine r_callW X hl0 dL_same_717 y_L_ranked m_L_317 (t_l_ranked (l := l) hst (G := G) e13) rfl rfl (Nat.le_of_ble_eq_true rfl) (by decide) ?_
    refine r_bipush X (v := (-104)) dL_same_720 (by decide) ?_
    refine r_icmp_ne X 739 dL_same_722 (by decide) (fun c14 => ?_) (fun c14 => ?_)
    · rw [if_neg c14] at E
      refine r_iconst X (v := 0) dL_same_739 (by decide) ?_
      cases E
      exact r_zret X hr (Or.inl rfl) dL_same_740 (by decide) (by decide)
    · rw [if_pos c14] at E
      refine r_aload_n X 0 dL_same_725 rfl rfl ?_
      obtain ⟨x15, e16, E⟩ := gb_some E
      refine r_getR X dL_same_726 f_L_10 e16 ?_
      obtain ⟨u20, e21, E⟩ := gb_some E
      obtain ⟨r17, g18, e19, E⟩ := cb_some E
      refine r_callV0 X hl0 (ci := 8) dL_same_729 y_X8_auditDifference m_L_350 rfl rfl e21 (t_x8_auditDifference (l := l) (G := G) e19) rfl rfl (Nat.le_of_ble_eq_true rfl) (by decide) ?_
      refine r_if_ne X 739 dL_same_732 (by decide) (fun c22 => ?_) (fun c22 => ?_)
      · rw [if_neg c22] at E
        refine r_iconst X (v := 0) dL_same_739 (by decide) ?_
        cases E
        exact r_zret X hr (Or.inl rfl) dL_same_740 (by decide) (by decide)
      · rw [if_pos c22] at E
        refine r_iconst X (v := 1) dL_same_735 (by decide) ?_
        refine r_goto X 740 dL_same_736 (by decide) ?_
        cases E
        exact r_zret X hr (Or.inr rfl) dL_same_740 (by decide) (by decide)
set_option maxHeartbeats 4000000 in
set_option maxRecDepth 100000 in
theorem t_l_same_b {l : Launch} {G : GG} {M : MC} (X : CX M G cL_same 10 RL ⟨10, 170, 1020, 301⟩) (hl0 : M.2.1 = l) (hr : (mM M).sig.returnType = (some .boolean)) (hnm : (mM M).name = yL_same.name) (hst : l.stackTraces = false) {p : Nat} {g : AH} {r : Int32} {g1 : AH} (E : l_same p g = some (r, g1)) : WW M G 10 (RQ M G (some (.int r)) g1 170 1020) 0 0 g 0 [(0, .ref p)] [] := by
  unfold l_same at E
  refine r_iconst X (v := 0) dL_same_0 (by decide) ?_
  refine r_istore_n X 1 (L1 := [(1, .int 0), (0, .ref p)]) dL_same_1 rfl (by decide) rfl ?_
  refine r_iconst X (v := 0) dL_same_2 (by decide) ?_
  refine r_istore_n X 2 (L1 := [(2, .int 0), (1, .int 0), (0, .ref p)]) dL_same_3 rfl (by decide) rfl ?_
  refine r_iconst X (v := 0) dL_same_4 (by decide) ?_
  refine r_istore_n X 3 (L1 := [(3, .int 0), (2, .int 0), (1, .int 0), (0, .ref p)]) dL_same_5 rfl (by decide) rfl ?_
  refine r_iconst X (v := 0) dL_same_6 (by decide) ?_
  refine r_istore X (L1 := [(4, .int 0), (3, .int 0), (2, .int 0), (1, .int 0), (0, .ref p)]) dL_same_7 (by decide) rfl ?_
  refine r_iconst X (v := 0) dL_same_9 (by decide) ?_
  refine r_istore X (L1 := [(5, .int 0), (4, .int 0), (3, .int 0), (2, .int 0), (1, .int 0), (0, .ref p)]) dL_same_10 (by decide) rfl ?_
  refine r_iconst X (v := 0) dL_same_12 (by decide) ?_
  refine r_istore X (L1 := [(6, .int 0), (5, .int 0), (4, .int 0), (3, .int 0), (2, .int 0), (1, .int 0), (0, .ref p)]) dL_same_13 (by decide) rfl ?_
  obtain ⟨t1, g2, e3, E⟩ := cb_some E
  rcases t1 with t4 | t5
  · rw [Sum.elim_inl] at E
    refine r_pick (by rfl : lpick [(6, .int 0), (5, .int 0), (4, .int 0), (3, .int 0), (2, .int 0), (1, .int 0), (0, .ref p)] [6, 5, 4, 3, 2, 1, 0] = _) (t_l_same_l15_r (Kc := 128) (Ks := 768) X hl0 hr hnm hst (by decide) (by decide) _ _ _ _ _ e3 ?_ _ _ (by decide) (by decide))
    refine r_iconst X (v := 0) dL_same_256 (by decide) ?_
    refine r_istore X (L1 := [(6, .int 0), (0, .ref p), (1, .int t4.1), (2, .int t4.2.1), (3, .int t4.2.2.1), (4, .int t4.2.2.2.1), (5, .int t4.2.2.2.2)]) dL_same_257 (by decide) rfl ?_
    obtain ⟨t6, g7, e8, E⟩ := cb_some E
    rcases t6 with t9 | t10
    · rw [Sum.elim_inl] at E
      refine r_pick (by rfl : lpick [(6, .int 0), (0, .ref p), (1, .int t4.1), (2, .int t4.2.1), (3, .int t4.2.2.1), (4, .int t4.2.2.2.1), (5, .int t4.2.2.2.2)] [1, 2, 3, 4, 5, 6, 0] = _) (t_l_same_l259_r (Kc := 146) (Ks := 876) X hl0 hr hnm hst (by decide) (by decide) _ _ _ _ _ e8 ?_ _ _ (by decide) (by decide))
      refine r_iconst X (v := 0) dL_same_328 (by decide) ?_
      refine r_istore X (L1 := [(6, .int 0), (0, .ref p), (1, .int t4.1), (2, .int t4.2.1), (3, .int t4.2.2.1), (4, .int t4.2.2.2.1), (5, .int t4.2.2.2.2)]) dL_same_329 (by decide) rfl ?_
      obtain ⟨t11, g12, e13, E⟩ := cb_some E
      rcases t11 with t14 | t15
      · rw [Sum.elim_inl] at E
        refine r_pick (by rfl : lpick [(6, .int 0), (0, .ref p), (1, .int t4.1), (2, .int t4.2.1), (3, .int t4.2.2.1), (4, .int t4.2.2.2.1), (5, .int t4.2.2.2.2)] [1, 2, 3, 4, 5, 6, 0] = _) (t_l_same_l331_r (Kc := 153) (Ks := 918) X hl0 hr hnm hst (by decide) (by decide) _ _ _ _ _ e13 ?_ _ _ (by decide) (by decide))
        refine r_iconst X (v := 1) dL_same_382 (by decide) ?_
        refine r_istore X (L1 := [(6, .int 1), (0, .ref p), (1, .int t4.1), (2, .int t4.2.1), (3, .int t4.2.2.1), (4, .int t4.2.2.2.1), (5, .int t4.2.2.2.2)]) dL_same_383 (by decide) rfl ?_
        obtain ⟨t16, g17, e18, E⟩ := cb_some E
        rcases t16 with t19 | t20
        · rw [Sum.elim_inl] at E
          refine r_pick (by rfl : lpick [(6, .int 1), (0, .ref p), (1, .int t4.1), (2, .int t4.2.1), (3, .int t4.2.2.1), (4, .int t4.2.2.2.1), (5, .int t4.2.2.2.2)] [1, 2, 3, 4, 5, 6, 0] = _) (t_l_same_l385_r (Kc := 169) (Ks := 1014) X hl0 hr hnm hst (by decide) (by decide) _ _ _ _ _ e18 ?_ _ _ (by decide) (by decide))
          refine r_aload_n X 0 dL_same_524 rfl rfl ?_
          obtain ⟨x21, e22, E⟩ := gb_some E
          refine r_getI X dL_same_525 f_L_160 e22 ?_
          refine r_aload_n X 0 dL_same_528 rfl rfl ?_
          obtain ⟨x23, e24, E⟩ := gb_some E
          refine r_getR X dL_same_529 f_L_19 e24 ?_
          obtain ⟨u28, e29, E⟩ := gb_some E
          obtain ⟨r25, g26, e27, E⟩ := cb_some E
          refine r_callV0 X hl0 (ci := 12) dL_same_532 y_Jx4a65c_size_8abf5 m_L_210 rfl rfl e29 (t_jx4a65c_size_8abf5 (l := l) (G := G) e27) rfl rfl (Nat.le_of_ble_eq_true rfl) (by decide) ?_
          refine r_imul X dL_same_535 ?_
          refine r_istore X (L1 := [(6, .int (x21 * r25)), (0, .ref p), (1, .int t4.1), (2, .int t4.2.1), (3, .int t4.2.2.1), (4, .int t4.2.2.2.1), (5, .int t4.2.2.2.2)]) dL_same_536 (by decide) rfl ?_
          refine r_aload_n X 0 dL_same_538 rfl rfl ?_
          obtain ⟨x30, e31, E⟩ := gb_some E
          refine r_getR X dL_same_539 f_L_10 e31 ?_
          obtain ⟨u35, e36, E⟩ := gb_some E
          obtain ⟨r32, g33, e34, E⟩ := cb_some E
          refine r_callV0 X hl0 (ci := 8) dL_same_542 y_X8_hour m_L_320 rfl rfl e36 (t_x8_hour (l := l) (G := G) e34) rfl rfl (Nat.le_of_ble_eq_true rfl) (by decide) ?_
          refine r_aload_n X 0 dL_same_545 rfl rfl ?_
          obtain ⟨x37, e38, E⟩ := gb_some E
          refine r_getI X dL_same_546 f_L_160 e38 ?_
          refine r_icmp_ne X 739 dL_same_549 (by decide) (fun c39 => ?_) (fun c39 => ?_)
          · rw [if_neg c39] at E
            refine r_iconst X (v := 0) dL_same_739 (by decide) ?_
            cases E
            exact r_zret X hr (Or.inl rfl) dL_same_740 (by decide) (by decide)
          · rw [if_pos c39] at E
            refine r_aload_n X 0 dL_same_552 rfl rfl ?_
            obtain ⟨x40, e41, E⟩ := gb_some E
            refine r_getR X dL_same_553 f_L_10 e41 ?_
            obtain ⟨u45, e46, E⟩ := gb_some E
            obtain ⟨r42, g43, e44, E⟩ := cb_some E
            refine r_callV0 X hl0 (ci := 8) dL_same_556 y_X8_logs m_L_322 rfl rfl e46 (t_x8_logs (l := l) (G := G) e44) rfl rfl (Nat.le_of_ble_eq_true rfl) (by decide) ?_
            refine r_aload_n X 0 dL_same_559 rfl rfl ?_
            obtain ⟨x47, e48, E⟩ := gb_some E
            refine r_getI X dL_same_560 f_L_172 e48 ?_
            refine r_icmp_ne X 739 dL_same_563 (by decide) (fun c49 => ?_) (fun c49 => ?_)
            · rw [if_neg c49] at E
              refine r_iconst X (v := 0) dL_same_739 (by decide) ?_
              cases E
              exact r_zret X hr (Or.inl rfl) dL_same_740 (by decide) (by decide)
            · rw [if_pos c49] at E
              refine r_aload_n X 0 dL_same_566 rfl rfl ?_
              obtain ⟨x50, e51, E⟩ := gb_some E
              refine r_getR X dL_same_567 f_L_10 e51 ?_
              obtain ⟨u55, e56, E⟩ := gb_some E
              obtain ⟨r52, g53, e54, E⟩ := cb_some E
              refine r_callV0 X hl0 (ci := 8) dL_same_570 y_X8_temperature m_L_324 rfl rfl e56 (t_x8_temperature (l := l) (G := G) e54) rfl rfl (Nat.le_of_ble_eq_true rfl) (by decide) ?_
              refine r_aload_n X 0 dL_same_573 rfl rfl ?_
              obtain ⟨x57, e58, E⟩ := gb_some E
              refine r_getR X dL_same_574 f_L_30 e58 ?_
              refine r_aload_n X 0 dL_same_577 rfl rfl ?_
              obtain ⟨x59, e60, E⟩ := gb_some E
              refine r_getI X dL_same_578 f_L_160 e60 ?_
              refine r_aload_n X 0 dL_same_581 rfl rfl ?_
              obtain ⟨x61, e62, E⟩ := gb_some E
              refine r_getI X dL_same_582 f_L_181 e62 ?_
              by_cases c63 : x61 = 0
              · rw [if_pos c63] at E; cases E
              rw [if_neg c63] at E
              refine r_irem X dL_same_585 c63 ?_
              obtain ⟨x64, e65, E⟩ := gb_some E
              refine r_iald X dL_same_586 e65 ?_
              refine r_aload_n X 0 dL_same_587 rfl rfl ?_
              obtain ⟨x66, e67, E⟩ := gb_some E
              refine r_getI X dL_same_588 f_L_163 e67 ?_
              refine r_iadd X dL_same_591 ?_
              refine r_icmp_ne X 739 dL_same_592 (by decide) (fun c68 => ?_) (fun c68 => ?_)
              · rw [if_neg c68] at E
                refine r_iconst X (v := 0) dL_same_739 (by decide) ?_
                cases E
                exact r_zret X hr (Or.inl rfl) dL_same_740 (by decide) (by decide)
              · rw [if_pos c68] at E
                refine r_aload_n X 0 dL_same_595 rfl rfl ?_
                obtain ⟨x69, e70, E⟩ := gb_some E
                refine r_getR X dL_same_596 f_L_10 e70 ?_
                obtain ⟨u74, e75, E⟩ := gb_some E
                obtain ⟨r71, g72, e73, E⟩ := cb_some E
                refine r_callV0 X hl0 (ci := 8) dL_same_599 y_X8_hutCoins m_L_327 rfl rfl e75 (t_x8_hutCoins (l := l) (G := G) e73) rfl rfl (Nat.le_of_ble_eq_true rfl) (by decide) ?_
                refine r_aload_n X 0 dL_same_602 rfl rfl ?_
                obtain ⟨x76, e77, E⟩ := gb_some E
                refine r_getI X dL_same_603 f_L_151 e77 ?_
                refine r_icmp_ne X 739 dL_same_606 (by decide) (fun c78 => ?_) (fun c78 => ?_)
                · rw [if_neg c78] at E
                  refine r_iconst X (v := 0) dL_same_739 (by decide) ?_
                  cases E
                  exact r_zret X hr (Or.inl rfl) dL_same_740 (by decide) (by decide)
                · rw [if_pos c78] at E
                  refine r_aload_n X 0 dL_same_609 rfl rfl ?_
                  obtain ⟨x79, e80, E⟩ := gb_some E
                  refine r_getR X dL_same_610 f_L_10 e80 ?_
                  obtain ⟨u84, e85, E⟩ := gb_some E
                  obtain ⟨r81, g82, e83, E⟩ := cb_some E
                  refine r_callV0 X hl0 (ci := 8) dL_same_613 y_X8_burnedLogs m_L_330 rfl rfl e85 (t_x8_burnedLogs (l := l) (G := G) e83) rfl rfl (Nat.le_of_ble_eq_true rfl) (by decide) ?_
                  refine r_aload_n X 0 dL_same_616 rfl rfl ?_
                  obtain ⟨x86, e87, E⟩ := gb_some E
                  refine r_getI X dL_same_617 f_L_157 e87 ?_
                  refine r_icmp_ne X 739 dL_same_620 (by decide) (fun c88 => ?_) (fun c88 => ?_)
                  · rw [if_neg c88] at E
                    refine r_iconst X (v := 0) dL_same_739 (by decide) ?_
                    cases E
                    exact r_zret X hr (Or.inl rfl) dL_same_740 (by decide) (by decide)
                  · rw [if_pos c88] at E
                    refine r_aload_n X 0 dL_same_623 rfl rfl ?_
                    obtain ⟨x89, e90, E⟩ := gb_some E
                    refine r_getR X dL_same_624 f_L_10 e90 ?_
                    obtain ⟨u94, e95, E⟩ := gb_some E
                    obtain ⟨r91, g92, e93, E⟩ := cb_some E
                    refine r_callV0 X hl0 (ci := 8) dL_same_627 y_X8_totalDebt m_L_333 rfl rfl e95 (t_x8_totalDebt (l := l) (G := G) e93) rfl rfl (Nat.le_of_ble_eq_true rfl) (by decide) ?_
                    refine r_iload_n X 1 dL_same_630 rfl rfl ?_
                    refine r_icmp_ne X 739 dL_same_631 (by decide) (fun c96 => ?_) (fun c96 => ?_)
                    · rw [if_neg c96] at E
                      refine r_iconst X (v := 0) dL_same_739 (by decide) ?_
                      cases E
                      exact r_zret X hr (Or.inl rfl) dL_same_740 (by decide) (by decide)
                    · rw [if_pos c96] at E
                      refine r_aload_n X 0 dL_same_634 rfl rfl ?_
                      obtain ⟨x97, e98, E⟩ := gb_some E
                      refine r_getR X dL_same_635 f_L_10 e98 ?_
                      obtain ⟨u102, e103, E⟩ := gb_some E
                      obtain ⟨r99, g100, e101, E⟩ := cb_some E
                      refine r_callV0 X hl0 (ci := 8) dL_same_638 y_X8_coldHikers m_L_336 rfl rfl e103 (t_x8_coldHikers (l := l) (G := G) e101) rfl rfl (Nat.le_of_ble_eq_true rfl) (by decide) ?_
                      refine r_iload_n X 2 dL_same_641 rfl rfl ?_
                      refine r_icmp_ne X 739 dL_same_642 (by decide) (fun c104 => ?_) (fun c104 => ?_)
                      · rw [if_neg c104] at E
                        refine r_iconst X (v := 0) dL_same_739 (by decide) ?_
                        cases E
                        exact r_zret X hr (Or.inl rfl) dL_same_740 (by decide) (by decide)
                      · rw [if_pos c104] at E
                        refine r_aload_n X 0 dL_same_645 rfl rfl ?_
                        obtain ⟨x105, e106, E⟩ := gb_some E
                        refine r_getR X dL_same_646 f_L_10 e106 ?_
                        obtain ⟨u110, e111, E⟩ := gb_some E
                        obtain ⟨r107, g108, e109, E⟩ := cb_some E
                        refine r_callV0 X hl0 (ci := 8) dL_same_649 y_X8_hikersWithout m_L_339 rfl rfl e111 (t_x8_hikersWithout (l := l) (G := G) e109) rfl rfl (Nat.le_of_ble_eq_true rfl) (by decide) ?_
                        refine r_iload X dL_same_652 rfl ?_
                        refine r_icmp_ne X 739 dL_same_654 (by decide) (fun c112 => ?_) (fun c112 => ?_)
                        · rw [if_neg c112] at E
                          refine r_iconst X (v := 0) dL_same_739 (by decide) ?_
                          cases E
                          exact r_zret X hr (Or.inl rfl) dL_same_740 (by decide) (by decide)
                        · rw [if_pos c112] at E
                          refine r_aload_n X 0 dL_same_657 rfl rfl ?_
                          obtain ⟨x113, e114, E⟩ := gb_some E
                          refine r_getR X dL_same_658 f_L_10 e114 ?_
                          obtain ⟨u118, e119, E⟩ := gb_some E
                          obtain ⟨r115, g116, e117, E⟩ := cb_some E
                          refine r_callV0 X hl0 (ci := 8) dL_same_661 y_X8_meanWarmth m_L_342 rfl rfl e119 (t_x8_meanWarmth (l := l) (G := G) e117) rfl rfl (Nat.le_of_ble_eq_true rfl) (by decide) ?_
                          refine r_iload X dL_same_664 rfl ?_
                          refine r_i2d X dL_same_666 ?_
                          refine r_aload_n X 0 dL_same_667 rfl rfl ?_
                          obtain ⟨x120, e121, E⟩ := gb_some E
                          refine r_getR X dL_same_668 f_L_19 e121 ?_
                          obtain ⟨u125, e126, E⟩ := gb_some E
                          obtain ⟨r122, g123, e124, E⟩ := cb_some E
                          refine r_callV0 X hl0 (ci := 12) dL_same_671 y_Jx4a65c_size_8abf5 m_L_210 rfl rfl e126 (t_jx4a65c_size_8abf5 (l := l) (G := G) e124) rfl rfl (Nat.le_of_ble_eq_true rfl) (by decide) ?_
                          refine r_i2d X dL_same_674 ?_
                          by_cases c127 : n64 (FP.ddiv (FP.i2d t4.2.2.2.2) (FP.i2d r122))
                          rotate_left
                          · rw [if_neg c127] at E; cases E
                          rw [if_pos c127] at E
                          refine r_ddiv X dL_same_675 c127 ?_
                          refine r_dcmp X dL_same_676 ?_
                          refine r_if_ne X 739 dL_same_677 (by decide) (fun c128 => ?_) (fun c128 => ?_)
                          · rw [if_neg c128] at E
                            refine r_iconst X (v := 0) dL_same_739 (by decide) ?_
                            cases E
                            exact r_zret X hr (Or.inl rfl) dL_same_740 (by decide) (by decide)
                          · rw [if_pos c128] at E
                            refine r_aload_n X 0 dL_same_680 rfl rfl ?_
                            obtain ⟨x129, e130, E⟩ := gb_some E
                            refine r_getR X dL_same_681 f_L_10 e130 ?_
                            obtain ⟨u134, e135, E⟩ := gb_some E
                            obtain ⟨r131, g132, e133, E⟩ := cb_some E
                            refine r_callV0 X hl0 (ci := 8) dL_same_684 y_X8_sleepShare m_L_346 rfl rfl e135 (t_x8_sleepShare (l := l) (G := G) e133) rfl rfl (Nat.le_of_ble_eq_true rfl) (by decide) ?_
                            refine r_iload X dL_same_687 rfl ?_
                            refine r_if_ne X 696 dL_same_689 (by decide) (fun c136 => ?_) (fun c136 => ?_)
                            · rw [if_neg c136] at E
                              refine r_iload_n X 3 dL_same_696 rfl rfl ?_
                              refine r_i2f X dL_same_697 ?_
                              refine r_iload X dL_same_698 rfl ?_
                              refine r_i2f X dL_same_700 ?_
                              by_cases c137 : n32 (FP.fdiv (FP.i2f t4.2.2.1) (FP.i2f (x21 * r25)))
                              rotate_left
                              · rw [if_neg c137] at E; cases E
                              rw [if_pos c137] at E
                              refine r_fdiv X dL_same_701 c137 ?_
                              exact r_widen X (by decide) (by decide) <| r_pick (by rfl : lpick [(6, .int (x21 * r25)), (0, .ref p), (1, .int t4.1), (2, .int t4.2.1), (3, .int t4.2.2.1), (4, .int t4.2.2.2.1), (5, .int t4.2.2.2.2)] [1] = _) (t_l_same_j702 X hl0 hr hnm hst E)
                            · rw [if_pos c136] at E
                              refine r_fconst0 X dL_same_692 ?_
                              refine r_goto X 702 dL_same_693 (by decide) ?_
                              exact r_widen X (by decide) (by decide) <| r_pick (by rfl : lpick [(6, .int (x21 * r25)), (0, .ref p), (1, .int t4.1), (2, .int t4.2.1), (3, .int t4.2.2.1), (4, .int t4.2.2.2.1), (5, .int t4.2.2.2.2)] [1] = _) (t_l_same_j702 X hl0 hr hnm hst E)
        · rw [Sum.elim_inr] at E
          cases E
          exact r_pick (by rfl : lpick [(6, .int 1), (0, .ref p), (1, .int t4.1), (2, .int t4.2.1), (3, .int t4.2.2.1), (4, .int t4.2.2.2.1), (5, .int t4.2.2.2.2)] [1, 2, 3, 4, 5, 6, 0] = _) (t_l_same_l385_r (Kc := 169) (Ks := 1014) X hl0 hr hnm hst (by decide) (by decide) _ _ _ _ _ e18 ⟨_, _, by decide, by decide, rfl⟩ _ _ (by decide) (by decide))
      · rw [Sum.elim_inr] at E
        cases E
        exact r_pick (by rfl : lpick [(6, .int 0), (0, .ref p), (1, .int t4.1), (2, .int t4.2.1), (3, .int t4.2.2.1), (4, .int t4.2.2.2.1), (5, .int t4.2.2.2.2)] [1, 2, 3, 4, 5, 6, 0] = _) (t_l_same_l331_r (Kc := 153) (Ks := 918) X hl0 hr hnm hst (by decide) (by decide) _ _ _ _ _ e13 ⟨_, _, by decide, by decide, rfl⟩ _ _ (by decide) (by decide))
    · rw [Sum.elim_inr] at E
      cases E
      exact r_pick (by rfl : lpick [(6, .int 0), (0, .ref p), (1, .int t4.1), (2, .int t4.2.1), (3, .int t4.2.2.1), (4, .int t4.2.2.2.1), (5, .int t4.2.2.2.2)] [1, 2, 3, 4, 5, 6, 0] = _) (t_l_same_l259_r (Kc := 146) (Ks := 876) X hl0 hr hnm hst (by decide) (by decide) _ _ _ _ _ e8 ⟨_, _, by decide, by decide, rfl⟩ _ _ (by decide) (by decide))
  · rw [Sum.elim_inr] at E
    cases E
    exact r_pick (by rfl : lpick [(6, .int 0), (5, .int 0), (4, .int 0), (3, .int 0), (2, .int 0), (1, .int 0), (0, .ref p)] [6, 5, 4, 3, 2, 1, 0] = _) (t_l_same_l15_r (Kc := 128) (Ks := 768) X hl0 hr hnm hst (by decide) (by decide) _ _ _ _ _ e3 ⟨_, _, by decide, by decide, rfl⟩ _ _ (by decide) (by decide))
theorem t_l_same {l : Launch} (hst : l.stackTraces = false) {G : GG} {p : Nat} {g : AH} {r : Int32} {g1 : AH} (E : l_same p g = some (r, g1)) : Ct l G yL_same cL_same 10 (some .boolean) ⟨10, 170, 1020, 301⟩ [.ref p] g (some (.int r)) g1 :=
  ct_of (L0 := [(0, .ref p)]) y_L_same rfl (Nat.le_of_ble_eq_true rfl) fun M hl0 X hr hnm => t_l_same_b X hl0 hr hnm hst E
set_option maxHeartbeats 4000000 in
set_option maxRecDepth 100000 in
theorem t_l_pays_b {l : Launch} {G : GG} {M : MC} (X : CX M G cL_pays 4 RL ⟨3, 0, 0, 150⟩) (hl0 : M.2.1 = l) (hr : (mM M).sig.returnType = (some .int)) (hnm : (mM M).name = yL_pays.name) (hst : l.stackTraces = false) {p : Nat} {b0 : Nat} {b1 : Int32} {g : AH} {r : Int32} {g1 : AH} (E : l_pays p b0 b1 g = some (r, g1)) : WW M G 4 (RQ M G (some (.int r)) g1 0 0) 0 0 g 0 [(0, .ref p), (1, .ref b0), (2, .int b1)] [] := by
  unfold l_pays at E
  refine r_aload_n X 1 dL_pays_0 rfl rfl ?_
  obtain ⟨x1, e2, E⟩ := gb_some E
  refine r_getIN X (k := 3) dL_pays_1 (List.mem_of_getElem? (i := 3) rfl) rfl (by decide) e2 ?_
  refine r_iload_n X 2 dL_pays_4 rfl rfl ?_
  refine r_min X dL_pays_5 m_L_274m (by decide) (Nat.le_of_ble_eq_true rfl) ?_
  refine r_istore_n X 3 (L1 := [(3, .int (if b1 < x1 then b1 else x1)), (0, .ref p), (1, .ref b0), (2, .int b1)]) dL_pays_8 rfl (by decide) rfl ?_
  refine r_aload_n X 1 dL_pays_9 rfl rfl ?_
  refine r_dup X dL_pays_10 rfl ?_
  obtain ⟨x3, e4, E⟩ := gb_some E
  refine r_getIN X (k := 3) dL_pays_11 (List.mem_of_getElem? (i := 3) rfl) rfl (by decide) e4 ?_
  refine r_iload_n X 3 dL_pays_14 rfl rfl ?_
  refine r_isub X dL_pays_15 ?_
  obtain ⟨g5, e6, E⟩ := gb_some E
  refine r_putN X (k := 3) dL_pays_16 (List.mem_of_getElem? (i := 3) rfl) rfl (by decide) rfl rfl rfl e6 ?_
  refine r_aload_n X 1 dL_pays_19 rfl rfl ?_
  refine r_dup X dL_pays_20 rfl ?_
  obtain ⟨x7, e8, E⟩ := gb_some E
  refine r_getIN X (k := 4) dL_pays_21 (List.mem_of_getElem? (i := 6) rfl) rfl (by decide) e8 ?_
  refine r_iload_n X 2 dL_pays_24 rfl rfl ?_
  refine r_iload_n X 3 dL_pays_25 rfl rfl ?_
  refine r_isub X dL_pays_26 ?_
  refine r_iadd X dL_pays_27 ?_
  obtain ⟨g9, e10, E⟩ := gb_some E
  refine r_putN X (k := 4) dL_pays_28 (List.mem_of_getElem? (i := 6) rfl) rfl (by decide) rfl rfl rfl e10 ?_
  refine r_iload_n X 3 dL_pays_31 rfl rfl ?_
  cases E
  exact r_iret X hr dL_pays_32 (by decide) (by decide)
theorem t_l_pays {l : Launch} (hst : l.stackTraces = false) {G : GG} {p : Nat} {b0 : Nat} {b1 : Int32} {g : AH} {r : Int32} {g1 : AH} (E : l_pays p b0 b1 g = some (r, g1)) : Ct l G yL_pays cL_pays 4 (some .int) ⟨3, 0, 0, 150⟩ [.ref p, .ref b0, .int b1] g (some (.int r)) g1 :=
  ct_of (L0 := [(0, .ref p), (1, .ref b0), (2, .int b1)]) y_L_pays rfl (Nat.le_of_ble_eq_true rfl) fun M hl0 X hr hnm => t_l_pays_b X hl0 hr hnm hst E
set_option maxHeartbeats 4000000 in
set_option maxRecDepth 100000 in
theorem t_l_dawns_l23 {l : Launch} {G : GG} {M : MC} (X : CX M G cL_dawns 7 RL ⟨4, 0, 0, 173⟩) (hl0 : M.2.1 = l) (hr : (mM M).sig.returnType = none) (hnm : (mM M).name = yL_dawns.name) (hst : l.stackTraces = false) {Q : State → Prop} {kc ks : Nat} {s9 : ((Int32) ⊕ (Unit))} {g1 : AH} {a0 : Nat} {a1 : Int32} {a2 : Int32} {a3 : Int32} {a4 : Int32} {s0 : Int32} (hc : ∀ s1, s9 = .inl s1 → WW M G 7 Q kc ks g1 23 [(0, .ref a0), (1, .int a1), (2, .int a2), (3, .int a3), (4, .int a4), (5, .int s1)] []) (hx : ∀ t, s9 = .inr t → WW M G 7 Q kc ks g1 61 [(0, .ref a0), (1, .int a1), (2, .int a2), (3, .int a3), (4, .int a4)] []) {g : AH} (E : l_dawns_l23 a0 a1 a2 a3 a4 s0 g = some (s9, g1)) : WW M G 7 Q kc ks g 23 [(0, .ref a0), (1, .int a1), (2, .int a2), (3, .int a3), (4, .int a4), (5, .int s0)] [] := by
  unfold l_dawns_l23 at E
  refine r_iload X dL_dawns_23 rfl ?_
  refine r_iload_n X 1 dL_dawns_25 rfl rfl ?_
  refine r_icmp_ge X 61 dL_dawns_26 (by decide) (fun c1 => ?_) (fun c1 => ?_)
  · rw [if_pos c1] at E
    cases E
    exact r_pick (by rfl : lpick [(0, .ref a0), (1, .int a1), (2, .int a2), (3, .int a3), (4, .int a4), (5, .int s0)] [0, 1, 2, 3, 4] = _) (hx _ rfl)
  · rw [if_neg c1] at E
    refine r_aload_n X 0 dL_dawns_29 rfl rfl ?_
    refine r_dup X dL_dawns_30 rfl ?_
    obtain ⟨x2, e3, E⟩ := gb_some E
    refine r_getI X dL_dawns_31 f_L_151 e3 ?_
    refine r_aload_n X 0 dL_dawns_34 rfl rfl ?_
    refine r_aload_n X 0 dL_dawns_35 rfl rfl ?_
    obtain ⟨x4, e5, E⟩ := gb_some E
    refine r_getR X dL_dawns_36 f_L_19 e5 ?_
    refine r_iload X dL_dawns_39 rfl ?_
    obtain ⟨u9, e10, E⟩ := gb_some E
    obtain ⟨r6, g7, e8, E⟩ := cb_some E
    refine r_callV0 X hl0 (ci := 12) dL_dawns_41 y_Jx4a65c_get_915e3 m_L_246 rfl rfl e10 (t_jx4a65c_get_915e3 (l := l) (G := G) e8) rfl rfl (Nat.le_of_ble_eq_true rfl) (by decide) ?_
    obtain ⟨u11, e12, E⟩ := gb_some E
    refine r_cast X (ci := 9) dL_dawns_44 rfl k_L_207 e12 ?_
    refine r_iconst X (v := 3) dL_dawns_47 (by decide) ?_
    obtain ⟨u16, e17, E⟩ := gb_some E
    obtain ⟨r13, g14, e15, E⟩ := cb_some E
    refine r_callV0 X hl0 (ci := 10) dL_dawns_48 y_L_pays m_L_280 rfl rfl e17 (t_l_pays (l := l) hst (G := G) e15) rfl rfl (Nat.le_of_ble_eq_true rfl) (by decide) ?_
    refine r_iadd X dL_dawns_51 ?_
    obtain ⟨g18, e19, E⟩ := gb_some E
    refine r_put X dL_dawns_52 f_L_151 rfl rfl e19 ?_
    refine r_iinc X (v := (s0 + 1)) (L1 := [(5, .int (s0 + 1)), (0, .ref a0), (1, .int a1), (2, .int a2), (3, .int a3), (4, .int a4)]) dL_dawns_55 rfl rfl (by decide) rfl ?_
    refine r_goto X 23 dL_dawns_58 (by decide) ?_
    cases E
    exact r_pick (by rfl : lpick [(5, .int (s0 + 1)), (0, .ref a0), (1, .int a1), (2, .int a2), (3, .int a3), (4, .int a4)] [1, 2, 3, 4, 5, 0] = _) (hc _ rfl)
set_option maxHeartbeats 4000000 in
theorem t_l_dawns_l23_r {l : Launch} {G : GG} {M : MC} (X : CX M G cL_dawns 7 RL ⟨4, 0, 0, 173⟩) (hl0 : M.2.1 = l) (hr : (mM M).sig.returnType = none) (hnm : (mM M).name = yL_dawns.name) (hst : l.stackTraces = false) {Q : State → Prop} {kc ks : Nat} {a0 : Nat} {a1 : Int32} {a2 : Int32} {a3 : Int32} {a4 : Int32} : ∀ (n : Nat) (s0 : Int32) (g : AH) (t : (Unit)) (g1 : AH), loopX (l_dawns_l23 a0 a1 a2 a3 a4) n s0 g = some (t, g1) → WW M G 7 Q kc ks g1 61 [(0, .ref a0), (1, .int a1), (2, .int a2), (3, .int a3), (4, .int a4)] [] → WW M G 7 Q kc ks g 23 [(0, .ref a0), (1, .int a1), (2, .int a2), (3, .int a3), (4, .int a4), (5, .int s0)] [] :=
  loop_cps (K := fun (t : (Unit)) g1 => WW M G 7 Q kc ks g1 61 [(0, .ref a0), (1, .int a1), (2, .int a2), (3, .int a3), (4, .int a4)] []) (fun _ (s0 : Int32) g => WW M G 7 Q kc ks g 23 [(0, .ref a0), (1, .int a1), (2, .int a2), (3, .int a3), (4, .int a4), (5, .int s0)] []) (fun n s0 g st g1 E hc hx => t_l_dawns_l23 X hl0 hr hnm hst hc hx E)
set_option maxHeartbeats 4000000 in
set_option maxRecDepth 100000 in
theorem t_l_dawns_l64 {l : Launch} {G : GG} {M : MC} (X : CX M G cL_dawns 7 RL ⟨4, 0, 0, 173⟩) (hl0 : M.2.1 = l) (hr : (mM M).sig.returnType = none) (hnm : (mM M).name = yL_dawns.name) (hst : l.stackTraces = false) {Q : State → Prop} {kc ks : Nat} {s9 : ((Int32) ⊕ (Unit))} {g1 : AH} {a0 : Nat} {a1 : Int32} {a2 : Int32} {a3 : Int32} {a4 : Int32} {s0 : Int32} (hc : ∀ s1, s9 = .inl s1 → WW M G 7 Q kc ks g1 64 [(0, .ref a0), (1, .int a1), (2, .int a2), (3, .int a3), (4, .int a4), (5, .int s1)] []) (hx : ∀ t, s9 = .inr t → WW M G 7 Q kc ks g1 104 [(0, .ref a0), (1, .int a1), (2, .int a2), (3, .int a3), (4, .int a4)] []) {g : AH} (E : l_dawns_l64 a0 a1 a2 a3 a4 s0 g = some (s9, g1)) : WW M G 7 Q kc ks g 64 [(0, .ref a0), (1, .int a1), (2, .int a2), (3, .int a3), (4, .int a4), (5, .int s0)] [] := by
  unfold l_dawns_l64 at E
  refine r_iload X dL_dawns_64 rfl ?_
  refine r_iload_n X 1 dL_dawns_66 rfl rfl ?_
  refine r_icmp_ge X 104 dL_dawns_67 (by decide) (fun c1 => ?_) (fun c1 => ?_)
  · rw [if_pos c1] at E
    cases E
    exact r_pick (by rfl : lpick [(0, .ref a0), (1, .int a1), (2, .int a2), (3, .int a3), (4, .int a4), (5, .int s0)] [0, 1, 2, 3, 4] = _) (hx _ rfl)
  · rw [if_neg c1] at E
    refine r_aload_n X 0 dL_dawns_70 rfl rfl ?_
    refine r_dup X dL_dawns_71 rfl ?_
    obtain ⟨x2, e3, E⟩ := gb_some E
    refine r_getI X dL_dawns_72 f_L_151 e3 ?_
    refine r_aload_n X 0 dL_dawns_75 rfl rfl ?_
    refine r_aload_n X 0 dL_dawns_76 rfl rfl ?_
    obtain ⟨x4, e5, E⟩ := gb_some E
    refine r_getR X dL_dawns_77 f_L_19 e5 ?_
    refine r_iload X dL_dawns_80 rfl ?_
    obtain ⟨u9, e10, E⟩ := gb_some E
    obtain ⟨r6, g7, e8, E⟩ := cb_some E
    refine r_callV0 X hl0 (ci := 12) dL_dawns_82 y_Jx4a65c_get_915e3 m_L_246 rfl rfl e10 (t_jx4a65c_get_915e3 (l := l) (G := G) e8) rfl rfl (Nat.le_of_ble_eq_true rfl) (by decide) ?_
    obtain ⟨u11, e12, E⟩ := gb_some E
    refine r_cast X (ci := 9) dL_dawns_85 rfl k_L_207 e12 ?_
    refine r_iload_n X 2 dL_dawns_88 rfl rfl ?_
    refine r_iload_n X 1 dL_dawns_89 rfl rfl ?_
    by_cases c13 : a1 = 0
    · rw [if_pos c13] at E; cases E
    rw [if_neg c13] at E
    refine r_idiv X dL_dawns_90 c13 ?_
    obtain ⟨u17, e18, E⟩ := gb_some E
    obtain ⟨r14, g15, e16, E⟩ := cb_some E
    refine r_callV0 X hl0 (ci := 10) dL_dawns_91 y_L_pays m_L_280 rfl rfl e18 (t_l_pays (l := l) hst (G := G) e16) rfl rfl (Nat.le_of_ble_eq_true rfl) (by decide) ?_
    refine r_iadd X dL_dawns_94 ?_
    obtain ⟨g19, e20, E⟩ := gb_some E
    refine r_put X dL_dawns_95 f_L_151 rfl rfl e20 ?_
    refine r_iinc X (v := (s0 + 1)) (L1 := [(5, .int (s0 + 1)), (0, .ref a0), (1, .int a1), (2, .int a2), (3, .int a3), (4, .int a4)]) dL_dawns_98 rfl rfl (by decide) rfl ?_
    refine r_goto X 64 dL_dawns_101 (by decide) ?_
    cases E
    exact r_pick (by rfl : lpick [(5, .int (s0 + 1)), (0, .ref a0), (1, .int a1), (2, .int a2), (3, .int a3), (4, .int a4)] [1, 2, 3, 4, 5, 0] = _) (hc _ rfl)
set_option maxHeartbeats 4000000 in
theorem t_l_dawns_l64_r {l : Launch} {G : GG} {M : MC} (X : CX M G cL_dawns 7 RL ⟨4, 0, 0, 173⟩) (hl0 : M.2.1 = l) (hr : (mM M).sig.returnType = none) (hnm : (mM M).name = yL_dawns.name) (hst : l.stackTraces = false) {Q : State → Prop} {kc ks : Nat} {a0 : Nat} {a1 : Int32} {a2 : Int32} {a3 : Int32} {a4 : Int32} : ∀ (n : Nat) (s0 : Int32) (g : AH) (t : (Unit)) (g1 : AH), loopX (l_dawns_l64 a0 a1 a2 a3 a4) n s0 g = some (t, g1) → WW M G 7 Q kc ks g1 104 [(0, .ref a0), (1, .int a1), (2, .int a2), (3, .int a3), (4, .int a4)] [] → WW M G 7 Q kc ks g 64 [(0, .ref a0), (1, .int a1), (2, .int a2), (3, .int a3), (4, .int a4), (5, .int s0)] [] :=
  loop_cps (K := fun (t : (Unit)) g1 => WW M G 7 Q kc ks g1 104 [(0, .ref a0), (1, .int a1), (2, .int a2), (3, .int a3), (4, .int a4)] []) (fun _ (s0 : Int32) g => WW M G 7 Q kc ks g 64 [(0, .ref a0), (1, .int a1), (2, .int a2), (3, .int a3), (4, .int a4), (5, .int s0)] []) (fun n s0 g st g1 E hc hx => t_l_dawns_l64 X hl0 hr hnm hst hc hx E)
set_option maxHeartbeats 4000000 in
set_option maxRecDepth 100000 in
theorem t_l_dawns_l107 {l : Launch} {G : GG} {M : MC} (X : CX M G cL_dawns 7 RL ⟨4, 0, 0, 173⟩) (hl0 : M.2.1 = l) (hr : (mM M).sig.returnType = none) (hnm : (mM M).name = yL_dawns.name) (hst : l.stackTraces = false) {Q : State → Prop} {kc ks : Nat} {s9 : ((Int32) ⊕ (Unit))} {g1 : AH} {a0 : Nat} {a1 : Int32} {a2 : Int32} {a3 : Int32} {a4 : Int32} {s0 : Int32} (hc : ∀ s1, s9 = .inl s1 → WW M G 7 Q kc ks g1 107 [(0, .ref a0), (1, .int a1), (2, .int a2), (3, .int a3), (4, .int a4), (5, .int s1)] []) (hx : ∀ t, s9 = .inr t → WW M G 7 Q kc ks g1 151 [(0, .ref a0), (1, .int a1), (3, .int a3), (4, .int a4)] []) {g : AH} (E : l_dawns_l107 a0 a1 a2 a3 a4 s0 g = some (s9, g1)) : WW M G 7 Q kc ks g 107 [(0, .ref a0), (1, .int a1), (2, .int a2), (3, .int a3), (4, .int a4), (5, .int s0)] [] := by
  unfold l_dawns_l107 at E
  refine r_iload X dL_dawns_107 rfl ?_
  refine r_iload_n X 2 dL_dawns_109 rfl rfl ?_
  refine r_iload_n X 2 dL_dawns_110 rfl rfl ?_
  refine r_iload_n X 1 dL_dawns_111 rfl rfl ?_
  by_cases c1 : a1 = 0
  · rw [if_pos c1] at E; cases E
  rw [if_neg c1] at E
  refine r_idiv X dL_dawns_112 c1 ?_
  refine r_iload_n X 1 dL_dawns_113 rfl rfl ?_
  refine r_imul X dL_dawns_114 ?_
  refine r_isub X dL_dawns_115 ?_
  refine r_icmp_ge X 151 dL_dawns_116 (by decide) (fun c2 => ?_) (fun c2 => ?_)
  · rw [if_pos c2] at E
    cases E
    exact r_pick (by rfl : lpick [(0, .ref a0), (1, .int a1), (2, .int a2), (3, .int a3), (4, .int a4), (5, .int s0)] [0, 1, 3, 4] = _) (hx _ rfl)
  · rw [if_neg c2] at E
    refine r_aload_n X 0 dL_dawns_119 rfl rfl ?_
    refine r_dup X dL_dawns_120 rfl ?_
    obtain ⟨x3, e4, E⟩ := gb_some E
    refine r_getI X dL_dawns_121 f_L_151 e4 ?_
    refine r_aload_n X 0 dL_dawns_124 rfl rfl ?_
    refine r_aload_n X 0 dL_dawns_125 rfl rfl ?_
    obtain ⟨x5, e6, E⟩ := gb_some E
    refine r_getR X dL_dawns_126 f_L_19 e6 ?_
    refine r_iload X dL_dawns_129 rfl ?_
    obtain ⟨u10, e11, E⟩ := gb_some E
    obtain ⟨r7, g8, e9, E⟩ := cb_some E
    refine r_callV0 X hl0 (ci := 12) dL_dawns_131 y_Jx4a65c_get_915e3 m_L_246 rfl rfl e11 (t_jx4a65c_get_915e3 (l := l) (G := G) e9) rfl rfl (Nat.le_of_ble_eq_true rfl) (by decide) ?_
    obtain ⟨u12, e13, E⟩ := gb_some E
    refine r_cast X (ci := 9) dL_dawns_134 rfl k_L_207 e13 ?_
    refine r_iconst X (v := 1) dL_dawns_137 (by decide) ?_
    obtain ⟨u17, e18, E⟩ := gb_some E
    obtain ⟨r14, g15, e16, E⟩ := cb_some E
    refine r_callV0 X hl0 (ci := 10) dL_dawns_138 y_L_pays m_L_280 rfl rfl e18 (t_l_pays (l := l) hst (G := G) e16) rfl rfl (Nat.le_of_ble_eq_true rfl) (by decide) ?_
    refine r_iadd X dL_dawns_141 ?_
    obtain ⟨g19, e20, E⟩ := gb_some E
    refine r_put X dL_dawns_142 f_L_151 rfl rfl e20 ?_
    refine r_iinc X (v := (s0 + 1)) (L1 := [(5, .int (s0 + 1)), (0, .ref a0), (1, .int a1), (2, .int a2), (3, .int a3), (4, .int a4)]) dL_dawns_145 rfl rfl (by decide) rfl ?_
    refine r_goto X 107 dL_dawns_148 (by decide) ?_
    cases E
    exact r_pick (by rfl : lpick [(5, .int (s0 + 1)), (0, .ref a0), (1, .int a1), (2, .int a2), (3, .int a3), (4, .int a4)] [1, 2, 3, 4, 5, 0] = _) (hc _ rfl)
set_option maxHeartbeats 4000000 in
theorem t_l_dawns_l107_r {l : Launch} {G : GG} {M : MC} (X : CX M G cL_dawns 7 RL ⟨4, 0, 0, 173⟩) (hl0 : M.2.1 = l) (hr : (mM M).sig.returnType = none) (hnm : (mM M).name = yL_dawns.name) (hst : l.stackTraces = false) {Q : State → Prop} {kc ks : Nat} {a0 : Nat} {a1 : Int32} {a2 : Int32} {a3 : Int32} {a4 : Int32} : ∀ (n : Nat) (s0 : Int32) (g : AH) (t : (Unit)) (g1 : AH), loopX (l_dawns_l107 a0 a1 a2 a3 a4) n s0 g = some (t, g1) → WW M G 7 Q kc ks g1 151 [(0, .ref a0), (1, .int a1), (3, .int a3), (4, .int a4)] [] → WW M G 7 Q kc ks g 107 [(0, .ref a0), (1, .int a1), (2, .int a2), (3, .int a3), (4, .int a4), (5, .int s0)] [] :=
  loop_cps (K := fun (t : (Unit)) g1 => WW M G 7 Q kc ks g1 151 [(0, .ref a0), (1, .int a1), (3, .int a3), (4, .int a4)] []) (fun _ (s0 : Int32) g => WW M G 7 Q kc ks g 107 [(0, .ref a0), (1, .int a1), (2, .int a2), (3, .int a3), (4, .int a4), (5, .int s0)] []) (fun n s0 g st g1 E hc hx => t_l_dawns_l107 X hl0 hr hnm hst hc hx E)
set_option maxHeartbeats 4000000 in
set_option maxRecDepth 100000 in
theorem t_l_dawns_j230_154 {l : Launch} {G : GG} {M : MC} (X : CX M G cL_dawns 7 RL ⟨4, 0, 0, 173⟩) (hl0 : M.2.1 = l) (hr : (mM M).sig.returnType = none) (hnm : (mM M).name = yL_dawns.name) (hst : l.stackTraces = false) {Q : State → Prop} {kc ks : Nat} {s9 : ((Int32 × Int32 × Int32) ⊕ (Int32 × Int32))} {g1 : AH} {a0 : Nat} {a1 : Int32} {a3 : Int32} {a4 : Int32} {a5 : Int32} (hc : ∀ s1, s9 = .inl s1 → WW M G 7 Q kc ks g1 154 [(0, .ref a0), (1, .int a1), (3, .int s1.1), (4, .int s1.2.1), (5, .int s1.2.2)] []) (hx : ∀ t, s9 = .inr t → WW M G 7 Q kc ks g1 236 [(0, .ref a0), (1, .int a1), (3, .int t.1), (4, .int t.2)] []) {g : AH} (E : l_dawns_j230_154 a0 a1 a3 a4 a5 g = some (s9, g1)) : WW M G 7 Q kc ks g 230 [(0, .ref a0), (1, .int a1), (3, .int a3), (4, .int a4), (5, .int a5)] [] := by
  unfold l_dawns_j230_154 at E
  refine r_iinc X (v := (a5 + 1)) (L1 := [(5, .int (a5 + 1)), (0, .ref a0), (1, .int a1), (3, .int a3), (4, .int a4)]) dL_dawns_230 rfl rfl (by decide) rfl ?_
  refine r_goto X 154 dL_dawns_233 (by decide) ?_
  cases E
  exact r_pick (by rfl : lpick [(5, .int (a5 + 1)), (0, .ref a0), (1, .int a1), (3, .int a3), (4, .int a4)] [1, 2, 3, 4, 0] = _) (hc _ rfl)
set_option maxHeartbeats 4000000 in
set_option maxRecDepth 100000 in
theorem t_l_dawns_j224_154 {l : Launch} {G : GG} {M : MC} (X : CX M G cL_dawns 7 RL ⟨4, 0, 0, 173⟩) (hl0 : M.2.1 = l) (hr : (mM M).sig.returnType = none) (hnm : (mM M).name = yL_dawns.name) (hst : l.stackTraces = false) {Q : State → Prop} {kc ks : Nat} {s9 : ((Int32 × Int32 × Int32) ⊕ (Int32 × Int32))} {g1 : AH} {a0 : Nat} {a1 : Int32} {a4 : Int32} {a5 : Int32} {s0 : Int32} {s1 : Int32} {s2 : Nat} {s3 : Nat} {s4 : Int32} (hc : ∀ s1, s9 = .inl s1 → WW M G 7 Q kc ks g1 154 [(0, .ref a0), (1, .int a1), (3, .int s1.1), (4, .int s1.2.1), (5, .int s1.2.2)] []) (hx : ∀ t, s9 = .inr t → WW M G 7 Q kc ks g1 236 [(0, .ref a0), (1, .int a1), (3, .int t.1), (4, .int t.2)] []) {g : AH} (E : l_dawns_j224_154 a0 a1 a4 a5 s0 s1 s2 s3 s4 g = some (s9, g1)) : WW M G 7 Q kc ks g 224 [(0, .ref a0), (1, .int a1), (4, .int a4), (5, .int a5)] [.int s0, .int s1, .ref s2, .ref s3, .int s4] := by
  unfold l_dawns_j224_154 at E
  refine r_iadd X dL_dawns_224 ?_
  obtain ⟨u4, e5, E⟩ := gb_some E
  obtain ⟨r1, g2, e3, E⟩ := cb_some E
  refine r_callV0 X hl0 (ci := 10) dL_dawns_225 y_L_pays m_L_280 rfl rfl e5 (t_l_pays (l := l) hst (G := G) e3) rfl rfl (Nat.le_of_ble_eq_true rfl) (by decide) ?_
  refine r_iadd X dL_dawns_228 ?_
  refine r_istore_n X 3 (L1 := [(3, .int (s4 + r1)), (0, .ref a0), (1, .int a1), (4, .int a4), (5, .int a5)]) dL_dawns_229 rfl (by decide) rfl ?_
  exact r_pick (by rfl : lpick [(3, .int (s4 + r1)), (0, .ref a0), (1, .int a1), (4, .int a4), (5, .int a5)] [1, 2, 0, 3, 4] = _) (t_l_dawns_j230_154 X hl0 hr hnm hst hc hx E)
set_option maxHeartbeats 4000000 in
set_option maxRecDepth 100000 in
theorem t_l_dawns_l154 {l : Launch} {G : GG} {M : MC} (X : CX M G cL_dawns 7 RL ⟨4, 0, 0, 173⟩) (hl0 : M.2.1 = l) (hr : (mM M).sig.returnType = none) (hnm : (mM M).name = yL_dawns.name) (hst : l.stackTraces = false) {Q : State → Prop} {kc ks : Nat} {s9 : ((Int32 × Int32 × Int32) ⊕ (Int32 × Int32))} {g1 : AH} {a0 : Nat} {a1 : Int32} {s0 : Int32 × Int32 × Int32} (hc : ∀ s1, s9 = .inl s1 → WW M G 7 Q kc ks g1 154 [(0, .ref a0), (1, .int a1), (3, .int s1.1), (4, .int s1.2.1), (5, .int s1.2.2)] []) (hx : ∀ t, s9 = .inr t → WW M G 7 Q kc ks g1 236 [(0, .ref a0), (1, .int a1), (3, .int t.1), (4, .int t.2)] []) {g : AH} (E : l_dawns_l154 a0 a1 s0 g = some (s9, g1)) : WW M G 7 Q kc ks g 154 [(0, .ref a0), (1, .int a1), (3, .int s0.1), (4, .int s0.2.1), (5, .int s0.2.2)] [] := by
  unfold l_dawns_l154 at E
  refine r_iload X dL_dawns_154 rfl ?_
  refine r_iload_n X 1 dL_dawns_156 rfl rfl ?_
  refine r_icmp_ge X 236 dL_dawns_157 (by decide) (fun c1 => ?_) (fun c1 => ?_)
  · rw [if_pos c1] at E
    cases E
    exact r_pick (by rfl : lpick [(0, .ref a0), (1, .int a1), (3, .int s0.1), (4, .int s0.2.1), (5, .int s0.2.2)] [0, 1, 2, 3] = _) (hx _ rfl)
  · rw [if_neg c1] at E
    refine r_aload_n X 0 dL_dawns_160 rfl rfl ?_
    obtain ⟨x2, e3, E⟩ := gb_some E
    refine r_getR X dL_dawns_161 f_L_19 e3 ?_
    refine r_iload X dL_dawns_164 rfl ?_
    obtain ⟨u7, e8, E⟩ := gb_some E
    obtain ⟨r4, g5, e6, E⟩ := cb_some E
    refine r_callV0 X hl0 (ci := 12) dL_dawns_166 y_Jx4a65c_get_915e3 m_L_246 rfl rfl e8 (t_jx4a65c_get_915e3 (l := l) (G := G) e6) rfl rfl (Nat.le_of_ble_eq_true rfl) (by decide) ?_
    obtain ⟨u9, e10, E⟩ := gb_some E
    refine r_cast X (ci := 9) dL_dawns_169 rfl k_L_207 e10 ?_
    refine r_astore X (L1 := [(6, .ref r4), (0, .ref a0), (1, .int a1), (3, .int s0.1), (4, .int s0.2.1), (5, .int s0.2.2)]) dL_dawns_172 (by decide) rfl ?_
    refine r_aload X dL_dawns_174 rfl ?_
    obtain ⟨x11, e12, E⟩ := gb_some E
    refine r_getIN X (k := 6) dL_dawns_176 (List.mem_of_getElem? (i := 5) rfl) rfl (by decide) e12 ?_
    refine r_if_ge X 188 dL_dawns_179 (by decide) (fun c13 => ?_) (fun c13 => ?_)
    · rw [if_pos c13] at E
      refine r_iload_n X 3 dL_dawns_188 rfl rfl ?_
      refine r_aload_n X 0 dL_dawns_189 rfl rfl ?_
      refine r_aload X dL_dawns_190 rfl ?_
      refine r_aload_n X 0 dL_dawns_192 rfl rfl ?_
      obtain ⟨x14, e15, E⟩ := gb_some E
      refine r_getR X dL_dawns_193 f_L_27 e15 ?_
      refine r_aload X dL_dawns_196 rfl ?_
      obtain ⟨x16, e17, E⟩ := gb_some E
      refine r_getIN X (k := 6) dL_dawns_198 (List.mem_of_getElem? (i := 5) rfl) rfl (by decide) e17 ?_
      obtain ⟨x18, e19, E⟩ := gb_some E
      refine r_iald X dL_dawns_201 e19 ?_
      refine r_iconst X (v := 3) dL_dawns_202 (by decide) ?_
      refine r_idiv X dL_dawns_203 (by decide) ?_
      refine r_aload_n X 0 dL_dawns_204 rfl rfl ?_
      obtain ⟨x21, e22, E⟩ := gb_some E
      refine r_getR X dL_dawns_205 f_L_27 e22 ?_
      refine r_aload X dL_dawns_208 rfl ?_
      obtain ⟨x23, e24, E⟩ := gb_some E
      refine r_getIN X (k := 6) dL_dawns_210 (List.mem_of_getElem? (i := 5) rfl) rfl (by decide) e24 ?_
      obtain ⟨x25, e26, E⟩ := gb_some E
      refine r_iald X dL_dawns_213 e26 ?_
      refine r_iconst X (v := 3) dL_dawns_214 (by decide) ?_
      refine r_irem X dL_dawns_215 (by decide) ?_
      refine r_if_le X 223 dL_dawns_216 (by decide) (fun c28 => ?_) (fun c28 => ?_)
      · rw [if_pos c28] at E
        refine r_iconst X (v := 0) dL_dawns_223 (by decide) ?_
        exact r_pick (by rfl : lpick [(6, .ref r4), (0, .ref a0), (1, .int a1), (3, .int s0.1), (4, .int s0.2.1), (5, .int s0.2.2)] [1, 2, 4, 5] = _) (t_l_dawns_j224_154 X hl0 hr hnm hst hc hx E)
      · rw [if_neg c28] at E
        refine r_iconst X (v := 1) dL_dawns_219 (by decide) ?_
        refine r_goto X 224 dL_dawns_220 (by decide) ?_
        exact r_pick (by rfl : lpick [(6, .ref r4), (0, .ref a0), (1, .int a1), (3, .int s0.1), (4, .int s0.2.1), (5, .int s0.2.2)] [1, 2, 4, 5] = _) (t_l_dawns_j224_154 X hl0 hr hnm hst hc hx E)
    · rw [if_neg c13] at E
      refine r_iinc X (v := (s0.2.1 + 1)) (L1 := [(4, .int (s0.2.1 + 1)), (6, .ref r4), (0, .ref a0), (1, .int a1), (3, .int s0.1), (5, .int s0.2.2)]) dL_dawns_182 rfl rfl (by decide) rfl ?_
      refine r_goto X 230 dL_dawns_185 (by decide) ?_
      exact r_pick (by rfl : lpick [(4, .int (s0.2.1 + 1)), (6, .ref r4), (0, .ref a0), (1, .int a1), (3, .int s0.1), (5, .int s0.2.2)] [2, 3, 4, 0, 5] = _) (t_l_dawns_j230_154 X hl0 hr hnm hst hc hx E)
set_option maxHeartbeats 4000000 in
theorem t_l_dawns_l154_r {l : Launch} {G : GG} {M : MC} (X : CX M G cL_dawns 7 RL ⟨4, 0, 0, 173⟩) (hl0 : M.2.1 = l) (hr : (mM M).sig.returnType = none) (hnm : (mM M).name = yL_dawns.name) (hst : l.stackTraces = false) {Q : State → Prop} {kc ks : Nat} {a0 : Nat} {a1 : Int32} : ∀ (n : Nat) (s0 : Int32 × Int32 × Int32) (g : AH) (t : (Int32 × Int32)) (g1 : AH), loopX (l_dawns_l154 a0 a1) n s0 g = some (t, g1) → WW M G 7 Q kc ks g1 236 [(0, .ref a0), (1, .int a1), (3, .int t.1), (4, .int t.2)] [] → WW M G 7 Q kc ks g 154 [(0, .ref a0), (1, .int a1), (3, .int s0.1), (4, .int s0.2.1), (5, .int s0.2.2)] [] :=
  loop_cps (K := fun (t : (Int32 × Int32)) g1 => WW M G 7 Q kc ks g1 236 [(0, .ref a0), (1, .int a1), (3, .int t.1), (4, .int t.2)] []) (fun _ (s0 : Int32 × Int32 × Int32) g => WW M G 7 Q kc ks g 154 [(0, .ref a0), (1, .int a1), (3, .int s0.1), (4, .int s0.2.1), (5, .int s0.2.2)] []) (fun n s0 g st g1 E hc hx => t_l_dawns_l154 X hl0 hr hnm hst hc hx E)
set_option maxHeartbeats 4000000 in
set_option maxRecDepth 100000 in
theorem t_l_dawns_j287_239 {l : Launch} {G : GG} {M : MC} (X : CX M G cL_dawns 7 RL ⟨4, 0, 0, 173⟩) (hl0 : M.2.1 = l) (hr : (mM M).sig.returnType = none) (hnm : (mM M).name = yL_dawns.name) (hst : l.stackTraces = false) {Q : State → Prop} {kc ks : Nat} {s9 : ((Int32) ⊕ (Unit))} {g1 : AH} {a0 : Nat} {a1 : Int32} {a3 : Int32} {a4 : Int32} {a5 : Int32} {s0 : Int32} {s1 : Int32} {s2 : Nat} (hc : ∀ s1, s9 = .inl s1 → WW M G 7 Q kc ks g1 239 [(0, .ref a0), (1, .int a1), (3, .int a3), (4, .int a4), (5, .int s1)] []) (hx : ∀ t, s9 = .inr t → WW M G 7 Q kc ks g1 297 [(0, .ref a0), (3, .int a3), (4, .int a4)] []) {g : AH} (E : l_dawns_j287_239 a0 a1 a3 a4 a5 s0 s1 s2 g = some (s9, g1)) : WW M G 7 Q kc ks g 287 [(0, .ref a0), (1, .int a1), (3, .int a3), (4, .int a4), (5, .int a5)] [.int s0, .int s1, .ref s2] := by
  unfold l_dawns_j287_239 at E
  refine r_iadd X dL_dawns_287 ?_
  obtain ⟨g1, e2, E⟩ := gb_some E
  refine r_putN X (k := 3) dL_dawns_288 (List.mem_of_getElem? (i := 3) rfl) rfl (by decide) rfl rfl rfl e2 ?_
  refine r_iinc X (v := (a5 + 1)) (L1 := [(5, .int (a5 + 1)), (0, .ref a0), (1, .int a1), (3, .int a3), (4, .int a4)]) dL_dawns_291 rfl rfl (by decide) rfl ?_
  refine r_goto X 239 dL_dawns_294 (by decide) ?_
  cases E
  exact r_pick (by rfl : lpick [(5, .int (a5 + 1)), (0, .ref a0), (1, .int a1), (3, .int a3), (4, .int a4)] [1, 2, 3, 4, 0] = _) (hc _ rfl)
set_option maxHeartbeats 4000000 in
set_option maxRecDepth 100000 in
theorem t_l_dawns_l239 {l : Launch} {G : GG} {M : MC} (X : CX M G cL_dawns 7 RL ⟨4, 0, 0, 173⟩) (hl0 : M.2.1 = l) (hr : (mM M).sig.returnType = none) (hnm : (mM M).name = yL_dawns.name) (hst : l.stackTraces = false) {Q : State → Prop} {kc ks : Nat} {s9 : ((Int32) ⊕ (Unit))} {g1 : AH} {a0 : Nat} {a1 : Int32} {a3 : Int32} {a4 : Int32} {s0 : Int32} (hc : ∀ s1, s9 = .inl s1 → WW M G 7 Q kc ks g1 239 [(0, .ref a0), (1, .int a1), (3, .int a3), (4, .int a4), (5, .int s1)] []) (hx : ∀ t, s9 = .inr t → WW M G 7 Q kc ks g1 297 [(0, .ref a0), (3, .int a3), (4, .int a4)] []) {g : AH} (E : l_dawns_l239 a0 a1 a3 a4 s0 g = some (s9, g1)) : WW M G 7 Q kc ks g 239 [(0, .ref a0), (1, .int a1), (3, .int a3), (4, .int a4), (5, .int s0)] [] := by
  unfold l_dawns_l239 at E
  refine r_iload X dL_dawns_239 rfl ?_
  refine r_iload_n X 1 dL_dawns_241 rfl rfl ?_
  refine r_icmp_ge X 297 dL_dawns_242 (by decide) (fun c1 => ?_) (fun c1 => ?_)
  · rw [if_pos c1] at E
    cases E
    exact r_pick (by rfl : lpick [(0, .ref a0), (1, .int a1), (3, .int a3), (4, .int a4), (5, .int s0)] [0, 2, 3] = _) (hx _ rfl)
  · rw [if_neg c1] at E
    refine r_aload_n X 0 dL_dawns_245 rfl rfl ?_
    obtain ⟨x2, e3, E⟩ := gb_some E
    refine r_getR X dL_dawns_246 f_L_19 e3 ?_
    refine r_iload X dL_dawns_249 rfl ?_
    obtain ⟨u7, e8, E⟩ := gb_some E
    obtain ⟨r4, g5, e6, E⟩ := cb_some E
    refine r_callV0 X hl0 (ci := 12) dL_dawns_251 y_Jx4a65c_get_915e3 m_L_246 rfl rfl e8 (t_jx4a65c_get_915e3 (l := l) (G := G) e6) rfl rfl (Nat.le_of_ble_eq_true rfl) (by decide) ?_
    obtain ⟨u9, e10, E⟩ := gb_some E
    refine r_cast X (ci := 9) dL_dawns_254 rfl k_L_207 e10 ?_
    refine r_dup X dL_dawns_257 rfl ?_
    obtain ⟨x11, e12, E⟩ := gb_some E
    refine r_getIN X (k := 3) dL_dawns_258 (List.mem_of_getElem? (i := 3) rfl) rfl (by decide) e12 ?_
    refine r_aload_n X 0 dL_dawns_261 rfl rfl ?_
    obtain ⟨x13, e14, E⟩ := gb_some E
    refine r_getR X dL_dawns_262 f_L_19 e14 ?_
    refine r_iload X dL_dawns_265 rfl ?_
    obtain ⟨u18, e19, E⟩ := gb_some E
    obtain ⟨r15, g16, e17, E⟩ := cb_some E
    refine r_callV0 X hl0 (ci := 12) dL_dawns_267 y_Jx4a65c_get_915e3 m_L_246 rfl rfl e19 (t_jx4a65c_get_915e3 (l := l) (G := G) e17) rfl rfl (Nat.le_of_ble_eq_true rfl) (by decide) ?_
    obtain ⟨u20, e21, E⟩ := gb_some E
    refine r_cast X (ci := 9) dL_dawns_270 rfl k_L_207 e21 ?_
    obtain ⟨x22, e23, E⟩ := gb_some E
    refine r_getIN X (k := 6) dL_dawns_273 (List.mem_of_getElem? (i := 5) rfl) rfl (by decide) e23 ?_
    refine r_if_ge X 286 dL_dawns_276 (by decide) (fun c24 => ?_) (fun c24 => ?_)
    · rw [if_pos c24] at E
      refine r_iconst X (v := 0) dL_dawns_286 (by decide) ?_
      exact r_pick (by rfl : lpick [(0, .ref a0), (1, .int a1), (3, .int a3), (4, .int a4), (5, .int s0)] [0, 1, 2, 3, 4] = _) (t_l_dawns_j287_239 X hl0 hr hnm hst hc hx E)
    · rw [if_neg c24] at E
      refine r_iload_n X 3 dL_dawns_279 rfl rfl ?_
      refine r_iload X dL_dawns_280 rfl ?_
      by_cases c25 : a4 = 0
      · rw [if_pos c25] at E; cases E
      rw [if_neg c25] at E
      refine r_idiv X dL_dawns_282 c25 ?_
      refine r_goto X 287 dL_dawns_283 (by decide) ?_
      exact r_pick (by rfl : lpick [(0, .ref a0), (1, .int a1), (3, .int a3), (4, .int a4), (5, .int s0)] [0, 1, 2, 3, 4] = _) (t_l_dawns_j287_239 X hl0 hr hnm hst hc hx E)
set_option maxHeartbeats 4000000 in
theorem t_l_dawns_l239_r {l : Launch} {G : GG} {M : MC} (X : CX M G cL_dawns 7 RL ⟨4, 0, 0, 173⟩) (hl0 : M.2.1 = l) (hr : (mM M).sig.returnType = none) (hnm : (mM M).name = yL_dawns.name) (hst : l.stackTraces = false) {Q : State → Prop} {kc ks : Nat} {a0 : Nat} {a1 : Int32} {a3 : Int32} {a4 : Int32} : ∀ (n : Nat) (s0 : Int32) (g : AH) (t : (Unit)) (g1 : AH), loopX (l_dawns_l239 a0 a1 a3 a4) n s0 g = some (t, g1) → WW M G 7 Q kc ks g1 297 [(0, .ref a0), (3, .int a3), (4, .int a4)] [] → WW M G 7 Q kc ks g 239 [(0, .ref a0), (1, .int a1), (3, .int a3), (4, .int a4), (5, .int s0)] [] :=
  loop_cps (K := fun (t : (Unit)) g1 => WW M G 7 Q kc ks g1 297 [(0, .ref a0), (3, .int a3), (4, .int a4)] []) (fun _ (s0 : Int32) g => WW M G 7 Q kc ks g 239 [(0, .ref a0), (1, .int a1), (3, .int a3), (4, .int a4), (5, .int s0)] []) (fun n s0 g st g1 E hc hx => t_l_dawns_l239 X hl0 hr hnm hst hc hx E)
set_option maxHeartbeats 4000000 in
set_option maxRecDepth 100000 in
theorem t_l_dawns_j315 {l : Launch} {G : GG} {M : MC} (X : CX M G cL_dawns 7 RL ⟨4, 0, 0, 173⟩) (hl0 : M.2.1 = l) (hr : (mM M).sig.returnType = none) (hnm : (mM M).name = yL_dawns.name) (hst : l.stackTraces = false) {a0 : Nat} {s0 : Int32} {s1 : Int32} {s2 : Nat} {g : AH} {r : Unit} {g1 : AH} (E : l_dawns_j315 a0 s0 s1 s2 g = some (r, g1)) : WW M G 7 (RQ M G none g1 0 0) 0 0 g 315 [(0, .ref a0)] [.int s0, .int s1, .ref s2] := by
  unfold l_dawns_j315 at E
  refine r_iadd X dL_dawns_315 ?_
  obtain ⟨g1, e2, E⟩ := gb_some E
  refine r_put X dL_dawns_316 f_L_151 rfl rfl e2 ?_
  refine r_aload_n X 0 dL_dawns_319 rfl rfl ?_
  refine r_iconst X (v := 0) dL_dawns_320 (by decide) ?_
  obtain ⟨g3, e4, E⟩ := gb_some E
  refine r_put X dL_dawns_321 f_L_154 rfl rfl e4 ?_
  cases E
  exact r_vret X hr dL_dawns_324 (by decide) (by decide)
set_option maxHeartbeats 4000000 in
set_option maxRecDepth 100000 in
theorem t_l_dawns_b {l : Launch} {G : GG} {M : MC} (X : CX M G cL_dawns 7 RL ⟨4, 0, 0, 173⟩) (hl0 : M.2.1 = l) (hr : (mM M).sig.returnType = none) (hnm : (mM M).name = yL_dawns.name) (hst : l.stackTraces = false) {p : Nat} {g : AH} {r : Unit} {g1 : AH} (E : l_dawns p g = some (r, g1)) : WW M G 7 (RQ M G none g1 0 0) 0 0 g 0 [(0, .ref p)] [] := by
  unfold l_dawns at E
  refine r_aload_n X 0 dL_dawns_0 rfl rfl ?_
  obtain ⟨x1, e2, E⟩ := gb_some E
  refine r_getR X dL_dawns_1 f_L_19 e2 ?_
  obtain ⟨u6, e7, E⟩ := gb_some E
  obtain ⟨r3, g4, e5, E⟩ := cb_some E
  refine r_callV0 X hl0 (ci := 12) dL_dawns_4 y_Jx4a65c_size_8abf5 m_L_210 rfl rfl e7 (t_jx4a65c_size_8abf5 (l := l) (G := G) e5) rfl rfl (Nat.le_of_ble_eq_true rfl) (by decide) ?_
  refine r_istore_n X 1 (L1 := [(1, .int r3), (0, .ref p)]) dL_dawns_7 rfl (by decide) rfl ?_
  refine r_iconst X (v := 2) dL_dawns_8 (by decide) ?_
  refine r_aload_n X 0 dL_dawns_9 rfl rfl ?_
  obtain ⟨x8, e9, E⟩ := gb_some E
  refine r_getI X dL_dawns_10 f_L_154 e9 ?_
  refine r_imul X dL_dawns_13 ?_
  refine r_istore_n X 2 (L1 := [(2, .int (2 * x8)), (1, .int r3), (0, .ref p)]) dL_dawns_14 rfl (by decide) rfl ?_
  refine r_iconst X (v := 0) dL_dawns_15 (by decide) ?_
  refine r_istore_n X 3 (L1 := [(3, .int 0), (2, .int (2 * x8)), (1, .int r3), (0, .ref p)]) dL_dawns_16 rfl (by decide) rfl ?_
  refine r_iconst X (v := 0) dL_dawns_17 (by decide) ?_
  refine r_istore X (L1 := [(4, .int 0), (3, .int 0), (2, .int (2 * x8)), (1, .int r3), (0, .ref p)]) dL_dawns_18 (by decide) rfl ?_
  refine r_iconst X (v := 0) dL_dawns_20 (by decide) ?_
  refine r_istore X (L1 := [(5, .int 0), (4, .int 0), (3, .int 0), (2, .int (2 * x8)), (1, .int r3), (0, .ref p)]) dL_dawns_21 (by decide) rfl ?_
  obtain ⟨t10, g11, e12, E⟩ := cb_some E
  refine r_pick (by rfl : lpick [(5, .int 0), (4, .int 0), (3, .int 0), (2, .int (2 * x8)), (1, .int r3), (0, .ref p)] [5, 4, 3, 2, 1, 0] = _) (t_l_dawns_l23_r X hl0 hr hnm hst _ _ _ _ _ e12 ?_)
  refine r_iconst X (v := 0) dL_dawns_61 (by decide) ?_
  refine r_istore X (L1 := [(5, .int 0), (0, .ref p), (1, .int r3), (2, .int (2 * x8)), (3, .int 0), (4, .int 0)]) dL_dawns_62 (by decide) rfl ?_
  obtain ⟨t13, g14, e15, E⟩ := cb_some E
  refine r_pick (by rfl : lpick [(5, .int 0), (0, .ref p), (1, .int r3), (2, .int (2 * x8)), (3, .int 0), (4, .int 0)] [1, 2, 3, 4, 5, 0] = _) (t_l_dawns_l64_r X hl0 hr hnm hst _ _ _ _ _ e15 ?_)
  refine r_iconst X (v := 0) dL_dawns_104 (by decide) ?_
  refine r_istore X (L1 := [(5, .int 0), (0, .ref p), (1, .int r3), (2, .int (2 * x8)), (3, .int 0), (4, .int 0)]) dL_dawns_105 (by decide) rfl ?_
  obtain ⟨t16, g17, e18, E⟩ := cb_some E
  refine r_pick (by rfl : lpick [(5, .int 0), (0, .ref p), (1, .int r3), (2, .int (2 * x8)), (3, .int 0), (4, .int 0)] [1, 2, 3, 4, 5, 0] = _) (t_l_dawns_l107_r X hl0 hr hnm hst _ _ _ _ _ e18 ?_)
  refine r_iconst X (v := 0) dL_dawns_151 (by decide) ?_
  refine r_istore X (L1 := [(5, .int 0), (0, .ref p), (1, .int r3), (3, .int 0), (4, .int 0)]) dL_dawns_152 (by decide) rfl ?_
  obtain ⟨t19, g20, e21, E⟩ := cb_some E
  refine r_pick (by rfl : lpick [(5, .int 0), (0, .ref p), (1, .int r3), (3, .int 0), (4, .int 0)] [1, 2, 3, 4, 0] = _) (t_l_dawns_l154_r X hl0 hr hnm hst _ _ _ _ _ e21 ?_)
  refine r_iconst X (v := 0) dL_dawns_236 (by decide) ?_
  refine r_istore X (L1 := [(5, .int 0), (0, .ref p), (1, .int r3), (3, .int t19.1), (4, .int t19.2)]) dL_dawns_237 (by decide) rfl ?_
  obtain ⟨t22, g23, e24, E⟩ := cb_some E
  refine r_pick (by rfl : lpick [(5, .int 0), (0, .ref p), (1, .int r3), (3, .int t19.1), (4, .int t19.2)] [1, 2, 3, 4, 0] = _) (t_l_dawns_l239_r X hl0 hr hnm hst _ _ _ _ _ e24 ?_)
  refine r_aload_n X 0 dL_dawns_297 rfl rfl ?_
  refine r_dup X dL_dawns_298 rfl ?_
  obtain ⟨x25, e26, E⟩ := gb_some E
  refine r_getI X dL_dawns_299 f_L_151 e26 ?_
  refine r_iload X dL_dawns_302 rfl ?_
  refine r_if_ne X 311 dL_dawns_304 (by decide) (fun c27 => ?_) (fun c27 => ?_)
  · rw [if_neg c27] at E
    refine r_iload_n X 3 dL_dawns_311 rfl rfl ?_
    refine r_iload X dL_dawns_312 rfl ?_
    by_cases c28 : t19.2 = 0
    · rw [if_pos c28] at E; cases E
    rw [if_neg c28] at E
    refine r_irem X dL_dawns_314 c28 ?_
    exact r_pick (by rfl : lpick [(0, .ref p), (3, .int t19.1), (4, .int t19.2)] [0] = _) (t_l_dawns_j315 X hl0 hr hnm hst E)
  · rw [if_pos c27] at E
    refine r_iload_n X 3 dL_dawns_307 rfl rfl ?_
    refine r_goto X 315 dL_dawns_308 (by decide) ?_
    exact r_pick (by rfl : lpick [(0, .ref p), (3, .int t19.1), (4, .int t19.2)] [0] = _) (t_l_dawns_j315 X hl0 hr hnm hst E)
theorem t_l_dawns {l : Launch} (hst : l.stackTraces = false) {G : GG} {p : Nat} {g : AH} {r : Unit} {g1 : AH} (E : l_dawns p g = some (r, g1)) : Ct l G yL_dawns cL_dawns 7 none ⟨4, 0, 0, 173⟩ [.ref p] g none g1 :=
  ct_of (L0 := [(0, .ref p)]) y_L_dawns rfl (Nat.le_of_ble_eq_true rfl) fun M hl0 X hr hnm => t_l_dawns_b X hl0 hr hnm hst E
