/-! functions and contracts, by program: at, draw, lays, loads, in, warm, isCold, loud, noise, does -/
def l_at_j13 (k9 : KK) (a1 : Int32) (s0 : Int32) (g : AH) : Option (Int32 × AH) :=
  if s0 ≤ 0 then
  some (s0, g)
  else
  if 512 ≤ s0 then
  some (s0, g)
  else
  some (((s0 * (-1640531535)) ^^^ (a1 * (-2048144789))), g)
def l_at (k9 : KK) (b0 : Nat) (b1 : Int32) (g : AH) : Option (Int32 × AH) :=
  gb (slenS k9 b0) fun x1 => if x1 ≤ b1 then
  l_at_j13 k9 b1 0 g
  else
  gb (saldS k9 b0 b1) fun x4 => l_at_j13 k9 b1 x4 g
def l_draw (k9 : KK) (p : Nat) (b0 : Int32) (g : AH) : Option (Int32 × AH) :=
  gb (getR 10 g p 1) fun x1 => gb (getI 10 g p 2) fun x3 => gb (getR 10 g p 1) fun x5 => gb (slenS k9 x5) fun x7 => if (if 1 < x7 then x7 else 1) = 0 then none else cb (l_at k9 x1 (x3 - x3 / (if 1 < x7 then x7 else 1) * (if 1 < x7 then x7 else 1)) g) fun r10 g11 => gb (getI 10 g11 p 2) fun x13 => gb (getI 10 g11 p 2) fun x15 => gb (putV 10 g11 p 2 (.int (x15 + 1))) fun g17 => if b0 = 0 then none else some (((((((r10 + (x13 * 668265263)) ^^^ (ushr (r10 + (x13 * 668265263)) 15)) * 739982445) ^^^ (ushr (((r10 + (x13 * 668265263)) ^^^ (ushr (r10 + (x13 * 668265263)) 15)) * 739982445) 13)) &&& 2147483647) - (((((r10 + (x13 * 668265263)) ^^^ (ushr (r10 + (x13 * 668265263)) 15)) * 739982445) ^^^ (ushr (((r10 + (x13 * 668265263)) ^^^ (ushr (r10 + (x13 * 668265263)) 15)) * 739982445) 13)) &&& 2147483647) / b0 * b0), g17)
def l_lays_j65_28 (a0 : Nat) (a1 : Nat) (a2 : Int32) (a4 : Int32) (s0 : Int32) (s1 : Int32) (g : AH) : Option (((Int32 × Int32) ⊕ (Int32)) × AH) :=
  some (.inl ((s1 ||| s0), (a4 + 1)), g)
def l_lays_l28 (a0 : Nat) (a1 : Nat) (a2 : Int32) (s0 : Int32 × Int32) (g : AH) : Option (((Int32 × Int32) ⊕ (Int32)) × AH) :=
  if 4 ≤ s0.2 then
  some (.inr s0.1, g)
  else
  gb (isO 13 g a1) fun _ => cb (j0_length_8abf5 a1 g) fun r2 g3 => if r2 ≤ (a2 + s0.2) then
  l_lays_j65_28 a0 a1 a2 s0.2 0 (s0.1 <<< (8 &&& 31)) g3
  else
  gb (isO 13 g3 a1) fun _ => cb (j0_charAt_5068e a1 (a2 + s0.2) g3) fun r8 g9 => l_lays_j65_28 a0 a1 a2 s0.2 (r8 &&& 255) (s0.1 <<< (8 &&& 31)) g9
def l_lays_l15 (a0 : Nat) (a1 : Nat) (s0 : Int32) (g : AH) : Option (((Int32) ⊕ ((Unit) ⊕ Int32)) × AH) :=
  gb (isO 13 g a1) fun _ => cb (j0_length_8abf5 a1 g) fun r1 g2 => if r1 ≤ s0 then
  some (.inr (.inl ()), g2)
  else
  cb (loopX (l_lays_l28 a0 a1 s0) 1000 (0, 0) g2) fun t7 g8 =>
  gb (getR 10 g8 a0 0) fun x10 => cb (l_appendText x10 t7 g8) fun r12 g13 => if r12 = (s0 + 4) then
  some (.inl (s0 + 4), g13)
  else
  some (.inr (.inr 0), g13)
def l_lays (p : Nat) (b0 : Nat) (g : AH) : Option (Int32 × AH) :=
  gb (getR 10 g p 0) fun x1 => cb (l_truncateText x1 0 g) fun r3 g4 => if r3 = 0 then
  cb (loopX (l_lays_l15 p b0) 126 0 g4) fun t7 g8 => Sum.elim (fun t10 =>
  gb (getR 10 g8 p 0) fun x12 => gb (isO 13 g8 b0) fun _ => cb (j0_length_8abf5 b0 g8) fun r14 g15 => cb (l_truncateText x12 r14 g15) fun r19 g20 => gb (isO 13 g20 b0) fun _ => cb (j0_length_8abf5 b0 g20) fun r22 g23 => if r19 = r22 then
  some (1, g23)
  else
  some (0, g23)) (fun t11 => some (t11, g8)) t7
  else
  some (0, g4)
def l_loads_l105 (k9 : KK) (a0 : Nat) (a1 : Nat) (s0 : Int32) (g : AH) : Option (((Int32) ⊕ (Unit)) × AH) :=
  gb (getI 10 g a0 7) fun x1 => if x1 ≤ s0 then
  some (.inr (), g)
  else
  gb (isO 11 g a1) fun _ => cb (j4_append_cf468 a1 32 g) fun r4 g5 => gb (getR 10 g5 a0 4) fun x9 => gb (isO 10 g5 a0) fun _ => cb (l_draw k9 a0 6 g5) fun r11 g12 => gb (astI 0 g12 x9 s0 r11) fun g16 => gb (isO 11 g16 r4) fun _ => cb (j4_append_bf812 r4 r11 g16) fun r18 g19 => some (.inl (s0 + 1), g19)
def l_loads_l151 (k9 : KK) (a0 : Nat) (a1 : Nat) (s0 : Int32) (g : AH) : Option (((Int32) ⊕ (Unit)) × AH) :=
  gb (getI 10 g a0 8) fun x1 => if x1 ≤ s0 then
  some (.inr (), g)
  else
  gb (isO 11 g a1) fun _ => cb (j4_append_cf468 a1 32 g) fun r4 g5 => gb (getR 10 g5 a0 5) fun x9 => gb (isO 10 g5 a0) fun _ => cb (l_draw k9 a0 9 g5) fun r11 g12 => gb (astI 0 g12 x9 s0 (1 + r11)) fun g16 => gb (isO 11 g16 r4) fun _ => cb (j4_append_bf812 r4 (1 + r11) g16) fun r18 g19 => some (.inl (s0 + 1), g19)
def l_loads_l199 (k9 : KK) (a0 : Nat) (a1 : Nat) (s0 : Int32) (g : AH) : Option (((Int32) ⊕ (Unit)) × AH) :=
  gb (getI 10 g a0 9) fun x1 => if x1 ≤ s0 then
  some (.inr (), g)
  else
  gb (isO 11 g a1) fun _ => cb (j4_append_cf468 a1 32 g) fun r4 g5 => gb (getR 10 g5 a0 6) fun x9 => gb (isO 10 g5 a0) fun _ => cb (l_draw k9 a0 14 g5) fun r11 g12 => gb (astI 0 g12 x9 s0 r11) fun g16 => gb (isO 11 g16 r4) fun _ => cb (j4_append_bf812 r4 r11 g16) fun r18 g19 => some (.inl (s0 + 1), g19)
def l_loads_l252 (k9 : KK) (a0 : Nat) (a1 : Nat) (s0 : Int32) (g : AH) : Option (((Int32) ⊕ (Unit)) × AH) :=
  if s0 ≤ 0 then
  some (.inr (), g)
  else
  cb (newO 9 tyX9 g) fun x2 g3 => cb (x9_init x2 g3) fun r5 g6 => gb (getR 10 g6 a0 3) fun x8 => gb (isO 12 g6 x8) fun _ => cb (jx4a65c_size_8abf5 x8 g6) fun r10 g11 => gb (putV 9 g11 x2 0 (.int r10)) fun g15 => gb (isO 10 g15 a0) fun _ => cb (l_draw k9 a0 18 g15) fun r17 g18 => gb (putV 9 g18 x2 1 (.int (1 + r17))) fun g22 => gb (isO 10 g22 a0) fun _ => cb (l_draw k9 a0 10 g22) fun r24 g25 => gb (putV 9 g25 x2 2 (.int r24)) fun g29 => gb (isO 10 g29 a0) fun _ => cb (l_draw k9 a0 40 g29) fun r31 g32 => gb (putV 9 g32 x2 3 (.int r31)) fun g36 => gb (getR 10 g36 a0 3) fun x38 => gb (isO 12 g36 x38) fun _ => cb (jx4a65c_add_9ea2d k9 x38 x2 g36) fun r40 g41 => gb (isO 11 g41 a1) fun _ => cb (j4_append_15ec4 a1 10 g41) fun r45 g46 => gb (getI 9 g46 x2 1) fun x50 => gb (isO 11 g46 r45) fun _ => cb (j4_append_bf812 r45 x50 g46) fun r52 g53 => gb (isO 11 g53 r52) fun _ => cb (j4_append_cf468 r52 32 g53) fun r57 g58 => gb (getI 9 g58 x2 2) fun x62 => gb (isO 11 g58 r57) fun _ => cb (j4_append_bf812 r57 x62 g58) fun r64 g65 => gb (isO 11 g65 r64) fun _ => cb (j4_append_cf468 r64 32 g65) fun r69 g70 => gb (getI 9 g70 x2 3) fun x74 => gb (isO 11 g70 r69) fun _ => cb (j4_append_bf812 r69 x74 g70) fun r76 g77 => gb (isO 11 g77 r76) fun _ => cb (j4_append_cf468 r76 59 g77) fun r81 g82 => some (.inl (s0 + (-1)), g82)
def l_loads (k9 : KK) (p : Nat) (g : AH) : Option (Int32 × AH) :=
  gb (getR 10 g p 3) fun x1 => gb (isO 12 g x1) fun _ => cb (jx4a65c_clear_da8c8 x1 g) fun r3 g4 => gb (putV 10 g4 p 16 (.int 0)) fun g8 => gb (putV 10 g8 p 15 (.int 0)) fun g10 => gb (putV 10 g10 p 14 (.int 0)) fun g12 => gb (putV 10 g12 p 13 (.int 0)) fun g14 => gb (putV 10 g14 p 12 (.int 0)) fun g16 => gb (putV 10 g16 p 11 (.int 0)) fun g18 => gb (isO 10 g18 p) fun _ => cb (l_draw k9 p 100 g18) fun r20 g21 => gb (putV 10 g21 p 10 (.int r20)) fun g25 => gb (isO 10 g25 p) fun _ => cb (l_draw k9 p 8 g25) fun r27 g28 => gb (putV 10 g28 p 7 (.int (1 + r27))) fun g32 => gb (isO 10 g32 p) fun _ => cb (l_draw k9 p 7 g32) fun r34 g35 => gb (putV 10 g35 p 8 (.int r34)) fun g39 => gb (isO 10 g39 p) fun _ => cb (l_draw k9 p 6 g39) fun r41 g42 => gb (putV 10 g42 p 9 (.int (1 + r41))) fun g46 => cb (newO 11 tyJ4 g46) fun x48 g49 => cb (j4_init_a7421 x48 6 g49) fun r51 g52 => gb (getI 10 g52 p 10) fun x54 => gb (isO 11 g52 x48) fun _ => cb (j4_append_bf812 x48 x54 g52) fun r56 g57 => gb (isO 11 g57 r56) fun _ => cb (j4_append_15ec4 r56 7 g57) fun r61 g62 => cb (loopX (l_loads_l105 k9 p r61) 9 0 g62) fun t66 g67 =>
  gb (isO 11 g67 r61) fun _ => cb (j4_append_15ec4 r61 8 g67) fun r69 g70 => cb (loopX (l_loads_l151 k9 p r61) 7 0 g70) fun t74 g75 =>
  gb (isO 11 g75 r61) fun _ => cb (j4_append_15ec4 r61 9 g75) fun r77 g78 => cb (loopX (l_loads_l199 k9 p r61) 7 0 g78) fun t82 g83 =>
  gb (isO 11 g83 r61) fun _ => cb (j4_append_cf468 r61 59 g83) fun r85 g86 => gb (isO 10 g86 p) fun _ => cb (l_draw k9 p 7 g86) fun r90 g91 => cb (loopX (l_loads_l252 k9 p r61) 8 (1 + r90) g91) fun t95 g96 =>
  gb (isO 11 g96 r61) fun _ => cb (j4_toString_0e30d r61 g96) fun r98 g99 => gb (isO 10 g99 p) fun _ => cb (l_lays p r98 g99) fun r103 g104 => if r103 = 0 then
  some (0, g104)
  else
  gb (getR 10 g104 p 0) fun x109 => gb (isO 8 g104 x109) fun _ => cb (x8_loadSetup x109 g104) fun r111 g112 => gb (getR 10 g112 p 3) fun x116 => gb (isO 12 g112 x116) fun _ => cb (jx4a65c_size_8abf5 x116 g112) fun r118 g119 => if r111 = r118 then
  gb (getR 10 g119 p 0) fun x124 => cb (l_back x124 g119) fun r126 g127 => if r126 = (-103) then
  some (1, g127)
  else
  some (0, g127)
  else
  some (0, g119)
def l_in_j47_2 (a0 : Nat) (a1 : Int32) (a2 : Int32) (g : AH) : Option (((Int32) ⊕ ((Unit) ⊕ Option Nat)) × AH) :=
  some (.inl (a2 + 1), g)
def l_in_l2 (a0 : Nat) (a1 : Int32) (s0 : Int32) (g : AH) : Option (((Int32) ⊕ ((Unit) ⊕ Option Nat)) × AH) :=
  gb (getR 10 g a0 3) fun x1 => gb (isO 12 g x1) fun _ => cb (jx4a65c_size_8abf5 x1 g) fun r3 g4 => if r3 ≤ s0 then
  some (.inr (.inl ()), g4)
  else
  if a1 < 0 then
  l_in_j47_2 a0 a1 s0 g4
  else
  gb (getR 10 g4 a0 3) fun x10 => gb (isO 12 g4 x10) fun _ => cb (jx4a65c_get_915e3 x10 s0 g4) fun r12 g13 => gb (isO 9 g13 r12) fun u17 => gb (getI 9 g13 r12 5) fun x19 => if x19 = a1 then
  gb (getR 10 g13 a0 3) fun x22 => gb (isO 12 g13 x22) fun _ => cb (jx4a65c_get_915e3 x22 s0 g13) fun r24 g25 => gb (isO 9 g25 r24) fun u29 => some (.inr (.inr r24), g25)
  else
  l_in_j47_2 a0 a1 s0 g13
def l_in (p : Nat) (b0 : Int32) (g : AH) : Option (Option Nat × AH) :=
  cb (loopX (l_in_l2 p b0) 1000 0 g) fun t1 g2 => Sum.elim (fun t4 =>
  some (none, g2)) (fun t5 => some (t5, g2)) t1
def l_warm_j79 (a0 : Nat) (a1 : Nat) (s0 : Int32) (s1 : Int32) (g : AH) : Option (Int32 × AH) :=
  gb (getI 9 g a1 5) fun x1 => gb (isO 10 g a0) fun _ => cb (l_in a0 (x1 + 1) g) fun r3 g4 => nb r3 (some (((s1 + s0) + 0), g4)) (fun y8 =>
  some (((s1 + s0) + 1), g4))
def l_warm_j39 (a0 : Nat) (a1 : Nat) (s0 : Int32) (s1 : Int32) (g : AH) : Option (Int32 × AH) :=
  gb (getI 9 g a1 5) fun x1 => if 0 ≤ x1 then
  gb (getR 10 g a0 4) fun x4 => gb (getI 9 g a1 5) fun x6 => gb (aldI 0 g x4 x6) fun x8 => gb (getI 9 g a1 5) fun x10 => gb (isO 10 g a0) fun _ => cb (l_in a0 (x10 - 1) g) fun r12 g13 => nb r12 (l_warm_j79 a0 a1 0 ((s1 + s0) + x8) g13) (fun y17 =>
  l_warm_j79 a0 a1 1 ((s1 + s0) + x8) g13)
  else
  some ((s1 + s0), g)
def l_warm (p : Nat) (b0 : Nat) (g : AH) : Option (Int32 × AH) :=
  gb (getR 10 g p 6) fun x1 => gb (getI 10 g p 13) fun x3 => gb (getI 10 g p 9) fun x5 => if x5 = 0 then none else gb (aldI 0 g x1 (x3 - x3 / x5 * x5)) fun x8 => gb (getI 10 g p 12) fun x10 => gb (getI 9 g b0 6) fun x12 => if 0 ≤ x12 then
  gb (getR 10 g p 5) fun x15 => gb (getI 9 g b0 6) fun x17 => gb (aldI 0 g x15 x17) fun x19 => l_warm_j39 p b0 x19 (x8 + x10) g
  else
  l_warm_j39 p b0 0 (x8 + x10) g
def l_isCold (p : Nat) (b0 : Nat) (g : AH) : Option (Int32 × AH) :=
  gb (isO 10 g p) fun _ => cb (l_warm p b0 g) fun r1 g2 => gb (getI 9 g2 b0 1) fun x6 => if x6 ≤ r1 then
  some (0, g2)
  else
  some (1, g2)
def l_loud_j18  (g : AH) : Option (Int32 × AH) :=
  some (0, g)
def l_loud (p : Nat) (b0 : Int32) (g : AH) : Option (Int32 × AH) :=
  gb (isO 10 g p) fun _ => cb (l_in p b0 g) fun r1 g2 => nb r1 (l_loud_j18  g2) (fun y6 =>
  gb (isO 10 g2 p) fun _ => cb (l_isCold p y6 g2) fun r7 g8 => if r7 = 0 then
  gb (getI 9 g8 y6 2) fun x13 => some (x13, g8)
  else
  l_loud_j18  g8)
def l_noise (p : Nat) (b0 : Int32) (g : AH) : Option (Int32 × AH) :=
  gb (isO 10 g p) fun _ => cb (l_loud p (b0 - 2) g) fun r1 g2 => gb (isO 10 g2 p) fun _ => cb (l_loud p (b0 + 2) g2) fun r6 g7 => gb (isO 10 g7 p) fun _ => cb (l_loud p (b0 - 1) g7) fun r11 g12 => gb (isO 10 g12 p) fun _ => cb (l_loud p (b0 + 1) g12) fun r16 g17 => some (((r11 + r16) + ((r1 + r6) / 2)), g17)
def l_does (p : Nat) (b0 : Nat) (g : AH) : Option (Int32 × AH) :=
  gb (isO 10 g p) fun _ => cb (l_isCold p b0 g) fun r1 g2 => if r1 = 0 then
  gb (getI 9 g2 b0 5) fun x7 => if 0 ≤ x7 then
  gb (getI 9 g2 b0 5) fun x10 => gb (isO 10 g2 p) fun _ => cb (l_noise p x10 g2) fun r12 g13 => if r12 ≤ 6 then
  some (2, g13)
  else
  some (1, g13)
  else
  some (3, g2)
  else
  some (0, g2)
set_option maxHeartbeats 4000000 in
set_option maxRecDepth 100000 in
theorem t_l_at_j13 {l : Launch} {G : GG} {M : MC} (X : CX M G cL_at 3 RL ⟨1, 0, 0, 60⟩) (hl0 : M.2.1 = l) (hr : (mM M).sig.returnType = (some .int)) (hnm : (mM M).name = yL_at.name) (hst : l.stackTraces = false) {a1 : Int32} {s0 : Int32} {g : AH} {r : Int32} {g1 : AH} (E : l_at_j13 (GK G) a1 s0 g = some (r, g1)) : WW M G 3 (RQ M G (some (.int r)) g1 0 0) 0 0 g 13 [(1, .int a1)] [.int s0] := by
  unfold l_at_j13 at E
  refine r_istore_n X 2 (L1 := [(2, .int s0), (1, .int a1)]) dL_at_13 rfl (by decide) rfl ?_
  refine r_iload_n X 2 dL_at_14 rfl rfl ?_
  refine r_if_le X 37 dL_at_15 (by decide) (fun c1 => ?_) (fun c1 => ?_)
  · rw [if_pos c1] at E
    refine r_iload_n X 2 dL_at_37 rfl rfl ?_
    cases E
    exact r_iret X hr dL_at_38 (by decide) (by decide)
  · rw [if_neg c1] at E
    refine r_iload_n X 2 dL_at_18 rfl rfl ?_
    refine r_sipush X (v := 512) dL_at_19 (by decide) ?_
    refine r_icmp_ge X 37 dL_at_22 (by decide) (fun c2 => ?_) (fun c2 => ?_)
    · rw [if_pos c2] at E
      refine r_iload_n X 2 dL_at_37 rfl rfl ?_
      cases E
      exact r_iret X hr dL_at_38 (by decide) (by decide)
    · rw [if_neg c2] at E
      refine r_iload_n X 2 dL_at_25 rfl rfl ?_
      refine r_ldcI X dL_at_26 q_L_33 ?_
      refine r_imul X dL_at_28 ?_
      refine r_iload_n X 1 dL_at_29 rfl rfl ?_
      refine r_ldcI X dL_at_30 q_L_34 ?_
      refine r_imul X dL_at_32 ?_
      refine r_ixor X dL_at_33 ?_
      refine r_goto X 38 dL_at_34 (by decide) ?_
      cases E
      exact r_iret X hr dL_at_38 (by decide) (by decide)
set_option maxHeartbeats 4000000 in
set_option maxRecDepth 100000 in
theorem t_l_at_b {l : Launch} {G : GG} {M : MC} (X : CX M G cL_at 3 RL ⟨1, 0, 0, 60⟩) (hl0 : M.2.1 = l) (hr : (mM M).sig.returnType = (some .int)) (hnm : (mM M).name = yL_at.name) (hst : l.stackTraces = false) {b0 : Nat} {b1 : Int32} {g : AH} {r : Int32} {g1 : AH} (E : l_at (GK G) b0 b1 g = some (r, g1)) : WW M G 3 (RQ M G (some (.int r)) g1 0 0) 0 0 g 0 [(0, .ref b0), (1, .int b1)] [] := by
  unfold l_at at E
  refine r_iload_n X 1 dL_at_0 rfl rfl ?_
  refine r_aload_n X 0 dL_at_1 rfl rfl ?_
  obtain ⟨x1, e2, E⟩ := gb_some E
  refine r_slenS X dL_at_2 e2 ?_
  refine r_icmp_ge X 12 dL_at_3 (by decide) (fun c3 => ?_) (fun c3 => ?_)
  · rw [if_pos c3] at E
    refine r_iconst X (v := 0) dL_at_12 (by decide) ?_
    exact r_pick (by rfl : lpick [(0, .ref b0), (1, .int b1)] [1] = _) (t_l_at_j13 X hl0 hr hnm hst E)
  · rw [if_neg c3] at E
    refine r_aload_n X 0 dL_at_6 rfl rfl ?_
    refine r_iload_n X 1 dL_at_7 rfl rfl ?_
    obtain ⟨x4, e5, E⟩ := gb_some E
    refine r_saldS X dL_at_8 e5 ?_
    refine r_goto X 13 dL_at_9 (by decide) ?_
    exact r_pick (by rfl : lpick [(0, .ref b0), (1, .int b1)] [1] = _) (t_l_at_j13 X hl0 hr hnm hst E)
theorem t_l_at {l : Launch} (hst : l.stackTraces = false) {G : GG} {b0 : Nat} {b1 : Int32} {g : AH} {r : Int32} {g1 : AH} (E : l_at (GK G) b0 b1 g = some (r, g1)) : Ct l G yL_at cL_at 3 (some .int) ⟨1, 0, 0, 60⟩ [.ref b0, .int b1] g (some (.int r)) g1 :=
  ct_of (L0 := [(0, .ref b0), (1, .int b1)]) y_L_at rfl (Nat.le_of_ble_eq_true rfl) fun M hl0 X hr hnm => t_l_at_b X hl0 hr hnm hst E
set_option maxHeartbeats 4000000 in
set_option maxRecDepth 100000 in
theorem t_l_draw_b {l : Launch} {G : GG} {M : MC} (X : CX M G cL_draw 3 RL ⟨3, 0, 0, 150⟩) (hl0 : M.2.1 = l) (hr : (mM M).sig.returnType = (some .int)) (hnm : (mM M).name = yL_draw.name) (hst : l.stackTraces = false) {p : Nat} {b0 : Int32} {g : AH} {r : Int32} {g1 : AH} (E : l_draw (GK G) p b0 g = some (r, g1)) : WW M G 3 (RQ M G (some (.int r)) g1 0 0) 0 0 g 0 [(0, .ref p), (1, .int b0)] [] := by
  unfold l_draw at E
  refine r_aload_n X 0 dL_draw_0 rfl rfl ?_
  obtain ⟨x1, e2, E⟩ := gb_some E
  refine r_getR X dL_draw_1 f_L_35 e2 ?_
  refine r_aload_n X 0 dL_draw_4 rfl rfl ?_
  obtain ⟨x3, e4, E⟩ := gb_some E
  refine r_getI X dL_draw_5 f_L_38 e4 ?_
  refine r_iconst X (v := 1) dL_draw_8 (by decide) ?_
  refine r_aload_n X 0 dL_draw_9 rfl rfl ?_
  obtain ⟨x5, e6, E⟩ := gb_some E
  refine r_getR X dL_draw_10 f_L_35 e6 ?_
  obtain ⟨x7, e8, E⟩ := gb_some E
  refine r_slenS X dL_draw_13 e8 ?_
  refine r_max X dL_draw_14 m_L_42m (by decide) (Nat.le_of_ble_eq_true rfl) ?_
  by_cases c9 : (if 1 < x7 then x7 else 1) = 0
  · rw [if_pos c9] at E; cases E
  rw [if_neg c9] at E
  refine r_irem X dL_draw_17 c9 ?_
  obtain ⟨r10, g11, e12, E⟩ := cb_some E
  refine r_callS0 X hl0 dL_draw_18 y_L_at m_L_48 (t_l_at (l := l) hst (G := G) e12) rfl rfl (Nat.le_of_ble_eq_true rfl) (by decide) ?_
  refine r_aload_n X 0 dL_draw_21 rfl rfl ?_
  obtain ⟨x13, e14, E⟩ := gb_some E
  refine r_getI X dL_draw_22 f_L_38 e14 ?_
  refine r_ldcI X dL_draw_25 q_L_52 ?_
  refine r_imul X dL_draw_27 ?_
  refine r_iadd X dL_draw_28 ?_
  refine r_istore_n X 2 (L1 := [(2, .int (r10 + (x13 * 668265263))), (0, .ref p), (1, .int b0)]) dL_draw_29 rfl (by decide) rfl ?_
  refine r_aload_n X 0 dL_draw_30 rfl rfl ?_
  refine r_dup X dL_draw_31 rfl ?_
  obtain ⟨x15, e16, E⟩ := gb_some E
  refine r_getI X dL_draw_32 f_L_38 e16 ?_
  refine r_iconst X (v := 1) dL_draw_35 (by decide) ?_
  refine r_iadd X dL_draw_36 ?_
  obtain ⟨g17, e18, E⟩ := gb_some E
  refine r_put X dL_draw_37 f_L_38 rfl rfl e18 ?_
  refine r_iload_n X 2 dL_draw_40 rfl rfl ?_
  refine r_iload_n X 2 dL_draw_41 rfl rfl ?_
  refine r_bipush X (v := 15) dL_draw_42 (by decide) ?_
  refine r_iushr X dL_draw_44 ?_
  refine r_ixor X dL_draw_45 ?_
  refine r_istore_n X 2 (L1 := [(2, .int ((r10 + (x13 * 668265263)) ^^^ (ushr (r10 + (x13 * 668265263)) 15))), (0, .ref p), (1, .int b0)]) dL_draw_46 rfl (by decide) rfl ?_
  refine r_iload_n X 2 dL_draw_47 rfl rfl ?_
  refine r_ldcI X dL_draw_48 q_L_53 ?_
  refine r_imul X dL_draw_50 ?_
  refine r_istore_n X 2 (L1 := [(2, .int (((r10 + (x13 * 668265263)) ^^^ (ushr (r10 + (x13 * 668265263)) 15)) * 739982445)), (0, .ref p), (1, .int b0)]) dL_draw_51 rfl (by decide) rfl ?_
  refine r_iload_n X 2 dL_draw_52 rfl rfl ?_
  refine r_iload_n X 2 dL_draw_53 rfl rfl ?_
  refine r_bipush X (v := 13) dL_draw_54 (by decide) ?_
  refine r_iushr X dL_draw_56 ?_
  refine r_ixor X dL_draw_57 ?_
  refine r_istore_n X 2 (L1 := [(2, .int ((((r10 + (x13 * 668265263)) ^^^ (ushr (r10 + (x13 * 668265263)) 15)) * 739982445) ^^^ (ushr (((r10 + (x13 * 668265263)) ^^^ (ushr (r10 + (x13 * 668265263)) 15)) * 739982445) 13))), (0, .ref p), (1, .int b0)]) dL_draw_58 rfl (by decide) rfl ?_
  refine r_iload_n X 2 dL_draw_59 rfl rfl ?_
  refine r_ldcI X dL_draw_60 q_L_54 ?_
  refine r_iand X dL_draw_62 ?_
  refine r_iload_n X 1 dL_draw_63 rfl rfl ?_
  by_cases c19 : b0 = 0
  · rw [if_pos c19] at E; cases E
  rw [if_neg c19] at E
  refine r_irem X dL_draw_64 c19 ?_
  cases E
  exact r_iret X hr dL_draw_65 (by decide) (by decide)
theorem t_l_draw {l : Launch} (hst : l.stackTraces = false) {G : GG} {p : Nat} {b0 : Int32} {g : AH} {r : Int32} {g1 : AH} (E : l_draw (GK G) p b0 g = some (r, g1)) : Ct l G yL_draw cL_draw 3 (some .int) ⟨3, 0, 0, 150⟩ [.ref p, .int b0] g (some (.int r)) g1 :=
  ct_of (L0 := [(0, .ref p), (1, .int b0)]) y_L_draw rfl (Nat.le_of_ble_eq_true rfl) fun M hl0 X hr hnm => t_l_draw_b X hl0 hr hnm hst E
set_option maxHeartbeats 4000000 in
set_option maxRecDepth 100000 in
theorem t_l_lays_j65_28 {l : Launch} {G : GG} {M : MC} (X : CX M G cL_lays 5 RL ⟨9, 128, 768, 243⟩) (hl0 : M.2.1 = l) (hr : (mM M).sig.returnType = (some .boolean)) (hnm : (mM M).name = yL_lays.name) (hst : l.stackTraces = false) {Q : State → Prop} {kc ks : Nat} {s9 : ((Int32 × Int32) ⊕ (Int32))} {g1 : AH} {a0 : Nat} {a1 : Nat} {a2 : Int32} {a4 : Int32} {s0 : Int32} {s1 : Int32} (hc : ∀ s1, s9 = .inl s1 → WW M G 5 Q kc ks g1 28 [(0, .ref a0), (1, .ref a1), (2, .int a2), (3, .int s1.1), (4, .int s1.2)] []) (hx : ∀ t, s9 = .inr t → WW M G 5 Q kc ks g1 73 [(0, .ref a0), (1, .ref a1), (2, .int a2), (3, .int t)] []) {g : AH} (E : l_lays_j65_28 a0 a1 a2 a4 s0 s1 g = some (s9, g1)) : WW M G 5 Q kc ks g 65 [(0, .ref a0), (1, .ref a1), (2, .int a2), (4, .int a4)] [.int s0, .int s1] := by
  unfold l_lays_j65_28 at E
  refine r_ior X dL_lays_65 ?_
  refine r_istore_n X 3 (L1 := [(3, .int (s1 ||| s0)), (0, .ref a0), (1, .ref a1), (2, .int a2), (4, .int a4)]) dL_lays_66 rfl (by decide) rfl ?_
  refine r_iinc X (v := (a4 + 1)) (L1 := [(4, .int (a4 + 1)), (3, .int (s1 ||| s0)), (0, .ref a0), (1, .ref a1), (2, .int a2)]) dL_lays_67 rfl rfl (by decide) rfl ?_
  refine r_goto X 28 dL_lays_70 (by decide) ?_
  cases E
  exact r_pick (by rfl : lpick [(4, .int (a4 + 1)), (3, .int (s1 ||| s0)), (0, .ref a0), (1, .ref a1), (2, .int a2)] [2, 3, 4, 1, 0] = _) (hc _ rfl)
set_option maxHeartbeats 4000000 in
set_option maxRecDepth 100000 in
theorem t_l_lays_l28 {l : Launch} {G : GG} {M : MC} (X : CX M G cL_lays 5 RL ⟨9, 128, 768, 243⟩) (hl0 : M.2.1 = l) (hr : (mM M).sig.returnType = (some .boolean)) (hnm : (mM M).name = yL_lays.name) (hst : l.stackTraces = false) {Q : State → Prop} {kc ks : Nat} {s9 : ((Int32 × Int32) ⊕ (Int32))} {g1 : AH} {a0 : Nat} {a1 : Nat} {a2 : Int32} {s0 : Int32 × Int32} (hc : ∀ s1, s9 = .inl s1 → WW M G 5 Q kc ks g1 28 [(0, .ref a0), (1, .ref a1), (2, .int a2), (3, .int s1.1), (4, .int s1.2)] []) (hx : ∀ t, s9 = .inr t → WW M G 5 Q kc ks g1 73 [(0, .ref a0), (1, .ref a1), (2, .int a2), (3, .int t)] []) {g : AH} (E : l_lays_l28 a0 a1 a2 s0 g = some (s9, g1)) : WW M G 5 Q kc ks g 28 [(0, .ref a0), (1, .ref a1), (2, .int a2), (3, .int s0.1), (4, .int s0.2)] [] := by
  unfold l_lays_l28 at E
  refine r_iload X dL_lays_28 rfl ?_
  refine r_iconst X (v := 4) dL_lays_30 (by decide) ?_
  refine r_icmp_ge X 73 dL_lays_31 (by decide) (fun c1 => ?_) (fun c1 => ?_)
  · rw [if_pos c1] at E
    cases E
    exact r_pick (by rfl : lpick [(0, .ref a0), (1, .ref a1), (2, .int a2), (3, .int s0.1), (4, .int s0.2)] [0, 1, 2, 3] = _) (hx _ rfl)
  · rw [if_neg c1] at E
    refine r_iload_n X 3 dL_lays_34 rfl rfl ?_
    refine r_bipush X (v := 8) dL_lays_35 (by decide) ?_
    refine r_ishl X dL_lays_37 ?_
    refine r_iload_n X 2 dL_lays_38 rfl rfl ?_
    refine r_iload X dL_lays_39 rfl ?_
    refine r_iadd X dL_lays_41 ?_
    refine r_aload_n X 1 dL_lays_42 rfl rfl ?_
    obtain ⟨u5, e6, E⟩ := gb_some E
    obtain ⟨r2, g3, e4, E⟩ := cb_some E
    refine r_callV0 X hl0 (ci := 13) dL_lays_43 y_J0_length_8abf5 m_L_128 rfl rfl e6 (t_j0_length_8abf5 (l := l) (G := G) e4) rfl rfl (Nat.le_of_ble_eq_true rfl) (by decide) ?_
    refine r_icmp_ge X 64 dL_lays_46 (by decide) (fun c7 => ?_) (fun c7 => ?_)
    · rw [if_pos c7] at E
      refine r_iconst X (v := 0) dL_lays_64 (by decide) ?_
      exact r_pick (by rfl : lpick [(0, .ref a0), (1, .ref a1), (2, .int a2), (3, .int s0.1), (4, .int s0.2)] [0, 1, 2, 4] = _) (t_l_lays_j65_28 X hl0 hr hnm hst hc hx E)
    · rw [if_neg c7] at E
      refine r_aload_n X 1 dL_lays_49 rfl rfl ?_
      refine r_iload_n X 2 dL_lays_50 rfl rfl ?_
      refine r_iload X dL_lays_51 rfl ?_
      refine r_iadd X dL_lays_53 ?_
      obtain ⟨u11, e12, E⟩ := gb_some E
      obtain ⟨r8, g9, e10, E⟩ := cb_some E
      refine r_callV0 X hl0 (ci := 13) dL_lays_54 y_J0_charAt_5068e m_L_134 rfl rfl e12 (t_j0_charAt_5068e (l := l) (G := G) e10) rfl rfl (Nat.le_of_ble_eq_true rfl) (by decide) ?_
      refine r_sipush X (v := 255) dL_lays_57 (by decide) ?_
      refine r_iand X dL_lays_60 ?_
      refine r_goto X 65 dL_lays_61 (by decide) ?_
      exact r_pick (by rfl : lpick [(0, .ref a0), (1, .ref a1), (2, .int a2), (3, .int s0.1), (4, .int s0.2)] [0, 1, 2, 4] = _) (t_l_lays_j65_28 X hl0 hr hnm hst hc hx E)
set_option maxHeartbeats 4000000 in
theorem t_l_lays_l28_r {l : Launch} {G : GG} {M : MC} (X : CX M G cL_lays 5 RL ⟨9, 128, 768, 243⟩) (hl0 : M.2.1 = l) (hr : (mM M).sig.returnType = (some .boolean)) (hnm : (mM M).name = yL_lays.name) (hst : l.stackTraces = false) {Q : State → Prop} {kc ks : Nat} {a0 : Nat} {a1 : Nat} {a2 : Int32} : ∀ (n : Nat) (s0 : Int32 × Int32) (g : AH) (t : (Int32)) (g1 : AH), loopX (l_lays_l28 a0 a1 a2) n s0 g = some (t, g1) → WW M G 5 Q kc ks g1 73 [(0, .ref a0), (1, .ref a1), (2, .int a2), (3, .int t)] [] → WW M G 5 Q kc ks g 28 [(0, .ref a0), (1, .ref a1), (2, .int a2), (3, .int s0.1), (4, .int s0.2)] [] :=
  loop_cps (K := fun (t : (Int32)) g1 => WW M G 5 Q kc ks g1 73 [(0, .ref a0), (1, .ref a1), (2, .int a2), (3, .int t)] []) (fun _ (s0 : Int32 × Int32) g => WW M G 5 Q kc ks g 28 [(0, .ref a0), (1, .ref a1), (2, .int a2), (3, .int s0.1), (4, .int s0.2)] []) (fun n s0 g st g1 E hc hx => t_l_lays_l28 X hl0 hr hnm hst hc hx E)
set_option maxHeartbeats 4000000 in
set_option maxRecDepth 100000 in
theorem t_l_lays_l15 {l : Launch} {G : GG} {M : MC} (X : CX M G cL_lays 5 RL ⟨9, 128, 768, 243⟩) (hl0 : M.2.1 = l) (hr : (mM M).sig.returnType = (some .boolean)) (hnm : (mM M).name = yL_lays.name) (hst : l.stackTraces = false) {Q : State → Prop} {kc ks : Nat} {s9 : ((Int32) ⊕ ((Unit) ⊕ Int32))} {g1 : AH} {a0 : Nat} {a1 : Nat} {s0 : Int32} {Kc Ks : Nat} (hkc : kc + 1 ≤ Kc ∧ Kc ≤ 128) (hks : ks + 6 ≤ Ks ∧ Ks ≤ 768) (hc : ∀ s1, s9 = .inl s1 → WW M G 5 Q (kc + 1) (ks + 6) g1 15 [(0, .ref a0), (1, .ref a1), (2, .int s1)] []) (hx : ∀ t, s9 = .inr t → Sum.elim (fun t1 => WW M G 5 Q Kc Ks g1 95 [(0, .ref a0), (1, .ref a1)] []) (fun t2 => ∃ mc ms : Nat, Kc ≤ mc ∧ Ks ≤ ms ∧ Q = RQ M G (some (.int t2)) g1 mc ms) t) {g : AH} (E : l_lays_l15 a0 a1 s0 g = some (s9, g1)) : WW M G 5 Q kc ks g 15 [(0, .ref a0), (1, .ref a1), (2, .int s0)] [] := by
  unfold l_lays_l15 at E
  refine r_iload_n X 2 dL_lays_15 rfl rfl ?_
  refine r_aload_n X 1 dL_lays_16 rfl rfl ?_
  obtain ⟨u4, e5, E⟩ := gb_some E
  obtain ⟨r1, g2, e3, E⟩ := cb_some E
  refine r_callV0 X hl0 (ci := 13) dL_lays_17 y_J0_length_8abf5 m_L_128 rfl rfl e5 (t_j0_length_8abf5 (l := l) (G := G) e3) rfl rfl (Nat.le_of_ble_eq_true rfl) (by decide) ?_
  refine r_icmp_ge X 95 dL_lays_20 (by decide) (fun c6 => ?_) (fun c6 => ?_)
  · rw [if_pos c6] at E
    cases E
    exact r_widen X ⟨by (try dsimp only); omega, hkc.2⟩ ⟨by (try dsimp only); omega, hks.2⟩ <| r_pick (by rfl : lpick [(0, .ref a0), (1, .ref a1), (2, .int s0)] [0, 1] = _) (hx _ rfl)
  · rw [if_neg c6] at E
    refine r_iconst X (v := 0) dL_lays_23 (by decide) ?_
    refine r_istore_n X 3 (L1 := [(3, .int 0), (0, .ref a0), (1, .ref a1), (2, .int s0)]) dL_lays_24 rfl (by decide) rfl ?_
    refine r_iconst X (v := 0) dL_lays_25 (by decide) ?_
    refine r_istore X (L1 := [(4, .int 0), (3, .int 0), (0, .ref a0), (1, .ref a1), (2, .int s0)]) dL_lays_26 (by decide) rfl ?_
    obtain ⟨t7, g8, e9, E⟩ := cb_some E
    refine r_pick (by rfl : lpick [(4, .int 0), (3, .int 0), (0, .ref a0), (1, .ref a1), (2, .int s0)] [2, 3, 4, 1, 0] = _) (t_l_lays_l28_r X hl0 hr hnm hst _ _ _ _ _ e9 ?_)
    refine r_aload_n X 0 dL_lays_73 rfl rfl ?_
    obtain ⟨x10, e11, E⟩ := gb_some E
    refine r_getR X dL_lays_74 f_L_10 e11 ?_
    refine r_iload_n X 3 dL_lays_77 rfl rfl ?_
    obtain ⟨r12, g13, e14, E⟩ := cb_some E
    refine r_callW X hl0 dL_lays_78 y_L_appendText m_L_138 (t_l_appendText (l := l) hst (G := G) e14) rfl rfl (Nat.le_of_ble_eq_true rfl) ⟨by decide, by show _ + 1 ≤ 128; (try dsimp only); omega, by show _ + 6 ≤ 768; (try dsimp only); omega⟩ ?_
    refine r_iload_n X 2 dL_lays_81 rfl rfl ?_
    refine r_iconst X (v := 4) dL_lays_82 (by decide) ?_
    refine r_iadd X dL_lays_83 ?_
    refine r_icmp_eq X 89 dL_lays_84 (by decide) (fun c15 => ?_) (fun c15 => ?_)
    · rw [if_pos c15] at E
      refine r_iinc X (v := (s0 + 4)) (L1 := [(2, .int (s0 + 4)), (0, .ref a0), (1, .ref a1), (3, .int t7)]) dL_lays_89 rfl rfl (by decide) rfl ?_
      refine r_goto X 15 dL_lays_92 (by decide) ?_
      cases E
      exact r_widen X ⟨by (try dsimp only); omega, Nat.le_trans hkc.1 hkc.2⟩ ⟨by (try dsimp only); omega, Nat.le_trans hks.1 hks.2⟩ <| r_pick (by rfl : lpick [(2, .int (s0 + 4)), (0, .ref a0), (1, .ref a1), (3, .int t7)] [1, 2, 0] = _) (hc _ rfl)
    · rw [if_neg c15] at E
      refine r_iconst X (v := 0) dL_lays_87 (by decide) ?_
      cases E
      obtain ⟨mc9, ms9, h91, h92, rfl⟩ := hx _ rfl
      exact r_zret X hr (Or.inl rfl) dL_lays_88 (Nat.le_trans (by (try dsimp only); omega) h91) (Nat.le_trans (by (try dsimp only); omega) h92)
set_option maxHeartbeats 4000000 in
theorem t_l_lays_l15_r {l : Launch} {G : GG} {M : MC} (X : CX M G cL_lays 5 RL ⟨9, 128, 768, 243⟩) (hl0 : M.2.1 = l) (hr : (mM M).sig.returnType = (some .boolean)) (hnm : (mM M).name = yL_lays.name) (hst : l.stackTraces = false) {Q : State → Prop} {Kc Ks : Nat} (hKc : Kc ≤ 128) (hKs : Ks ≤ 768) {a0 : Nat} {a1 : Nat} : ∀ (n : Nat) (s0 : Int32) (g : AH) (t : ((Unit) ⊕ Int32)) (g1 : AH), loopX (l_lays_l15 a0 a1) n s0 g = some (t, g1) → Sum.elim (fun t1 => WW M G 5 Q Kc Ks g1 95 [(0, .ref a0), (1, .ref a1)] []) (fun t2 => ∃ mc ms : Nat, Kc ≤ mc ∧ Ks ≤ ms ∧ Q = RQ M G (some (.int t2)) g1 mc ms) t → ∀ kc ks : Nat, kc + n * 1 ≤ Kc → ks + n * 6 ≤ Ks → WW M G 5 Q kc ks g 15 [(0, .ref a0), (1, .ref a1), (2, .int s0)] [] :=
  loop_cps (K := fun (t : ((Unit) ⊕ Int32)) g1 => Sum.elim (fun t1 => WW M G 5 Q Kc Ks g1 95 [(0, .ref a0), (1, .ref a1)] []) (fun t2 => ∃ mc ms : Nat, Kc ≤ mc ∧ Ks ≤ ms ∧ Q = RQ M G (some (.int t2)) g1 mc ms) t) (fun n (s0 : Int32) g => ∀ kc ks : Nat, kc + n * 1 ≤ Kc → ks + n * 6 ≤ Ks → WW M G 5 Q kc ks g 15 [(0, .ref a0), (1, .ref a1), (2, .int s0)] []) (fun n s0 g st g1 E hc hx kc ks h1 h2 => by
    have e1 : (n + 1) * 1 = n * 1 + 1 := by omega
    have e2 : (n + 1) * 6 = n * 6 + 6 := by omega
    exact t_l_lays_l15 X hl0 hr hnm hst ⟨by omega, hKc⟩ ⟨by omega, hKs⟩ (fun s1 e => hc s1 e _ _ (by omega) (by omega)) hx E)
set_option maxHeartbeats 4000000 in
set_option maxRecDepth 100000 in
theorem t_l_lays_b {l : Launch} {G : GG} {M : MC} (X : CX M G cL_lays 5 RL ⟨9, 128, 768, 243⟩) (hl0 : M.2.1 = l) (hr : (mM M).sig.returnType = (some .boolean)) (hnm : (mM M).name = yL_lays.name) (hst : l.stackTraces = false) {p : Nat} {b0 : Nat} {g : AH} {r : Int32} {g1 : AH} (E : l_lays p b0 g = some (r, g1)) : WW M G 5 (RQ M G (some (.int r)) g1 128 768) 0 0 g 0 [(0, .ref p), (1, .ref b0)] [] := by
  unfold l_lays at E
  refine r_aload_n X 0 dL_lays_0 rfl rfl ?_
  obtain ⟨x1, e2, E⟩ := gb_some E
  refine r_getR X dL_lays_1 f_L_10 e2 ?_
  refine r_iconst X (v := 0) dL_lays_4 (by decide) ?_
  obtain ⟨r3, g4, e5, E⟩ := cb_some E
  refine r_callW X hl0 dL_lays_5 y_L_truncateText m_L_125 (t_l_truncateText (l := l) hst (G := G) e5) rfl rfl (Nat.le_of_ble_eq_true rfl) (by decide) ?_
  refine r_if_eq X 13 dL_lays_8 (by decide) (fun c6 => ?_) (fun c6 => ?_)
  · rw [if_pos c6] at E
    refine r_iconst X (v := 0) dL_lays_13 (by decide) ?_
    refine r_istore_n X 2 (L1 := [(2, .int 0), (0, .ref p), (1, .ref b0)]) dL_lays_14 rfl (by decide) rfl ?_
    obtain ⟨t7, g8, e9, E⟩ := cb_some E
    rcases t7 with t10 | t11
    · rw [Sum.elim_inl] at E
      refine r_pick (by rfl : lpick [(2, .int 0), (0, .ref p), (1, .ref b0)] [1, 2, 0] = _) (t_l_lays_l15_r (Kc := 127) (Ks := 762) X hl0 hr hnm hst (by decide) (by decide) _ _ _ _ _ e9 ?_ _ _ (by decide) (by decide))
      refine r_aload_n X 0 dL_lays_95 rfl rfl ?_
      obtain ⟨x12, e13, E⟩ := gb_some E
      refine r_getR X dL_lays_96 f_L_10 e13 ?_
      refine r_aload_n X 1 dL_lays_99 rfl rfl ?_
      obtain ⟨u17, e18, E⟩ := gb_some E
      obtain ⟨r14, g15, e16, E⟩ := cb_some E
      refine r_callV0 X hl0 (ci := 13) dL_lays_100 y_J0_length_8abf5 m_L_128 rfl rfl e18 (t_j0_length_8abf5 (l := l) (G := G) e16) rfl rfl (Nat.le_of_ble_eq_true rfl) (by decide) ?_
      obtain ⟨r19, g20, e21, E⟩ := cb_some E
      refine r_callW X hl0 dL_lays_103 y_L_truncateText m_L_125 (t_l_truncateText (l := l) hst (G := G) e21) rfl rfl (Nat.le_of_ble_eq_true rfl) (by decide) ?_
      refine r_aload_n X 1 dL_lays_106 rfl rfl ?_
      obtain ⟨u25, e26, E⟩ := gb_some E
      obtain ⟨r22, g23, e24, E⟩ := cb_some E
      refine r_callV0 X hl0 (ci := 13) dL_lays_107 y_J0_length_8abf5 m_L_128 rfl rfl e26 (t_j0_length_8abf5 (l := l) (G := G) e24) rfl rfl (Nat.le_of_ble_eq_true rfl) (by decide) ?_
      refine r_icmp_ne X 117 dL_lays_110 (by decide) (fun c27 => ?_) (fun c27 => ?_)
      · rw [if_neg c27] at E
        refine r_iconst X (v := 0) dL_lays_117 (by decide) ?_
        cases E
        exact r_zret X hr (Or.inl rfl) dL_lays_118 (by decide) (by decide)
      · rw [if_pos c27] at E
        refine r_iconst X (v := 1) dL_lays_113 (by decide) ?_
        refine r_goto X 118 dL_lays_114 (by decide) ?_
        cases E
        exact r_zret X hr (Or.inr rfl) dL_lays_118 (by decide) (by decide)
    · rw [Sum.elim_inr] at E
      cases E
      exact r_pick (by rfl : lpick [(2, .int 0), (0, .ref p), (1, .ref b0)] [1, 2, 0] = _) (t_l_lays_l15_r (Kc := 127) (Ks := 762) X hl0 hr hnm hst (by decide) (by decide) _ _ _ _ _ e9 ⟨_, _, by decide, by decide, rfl⟩ _ _ (by decide) (by decide))
  · rw [if_neg c6] at E
    refine r_iconst X (v := 0) dL_lays_11 (by decide) ?_
    cases E
    exact r_zret X hr (Or.inl rfl) dL_lays_12 (by decide) (by decide)
theorem t_l_lays {l : Launch} (hst : l.stackTraces = false) {G : GG} {p : Nat} {b0 : Nat} {g : AH} {r : Int32} {g1 : AH} (E : l_lays p b0 g = some (r, g1)) : Ct l G yL_lays cL_lays 5 (some .boolean) ⟨9, 128, 768, 243⟩ [.ref p, .ref b0] g (some (.int r)) g1 :=
  ct_of (L0 := [(0, .ref p), (1, .ref b0)]) y_L_lays rfl (Nat.le_of_ble_eq_true rfl) fun M hl0 X hr hnm => t_l_lays_b X hl0 hr hnm hst E
set_option maxHeartbeats 4000000 in
set_option maxRecDepth 100000 in
theorem t_l_loads_l105 {l : Launch} {G : GG} {M : MC} (X : CX M G cL_loads 4 RL ⟨13, 266, 45358, 354⟩) (hl0 : M.2.1 = l) (hr : (mM M).sig.returnType = (some .boolean)) (hnm : (mM M).name = yL_loads.name) (hst : l.stackTraces = false) {Q : State → Prop} {kc ks : Nat} {s9 : ((Int32) ⊕ (Unit))} {g1 : AH} {a0 : Nat} {a1 : Nat} {s0 : Int32} {Kc Ks : Nat} (hkc : kc + 2 ≤ Kc ∧ Kc ≤ 266) (hks : ks + 800 ≤ Ks ∧ Ks ≤ 45358) (hc : ∀ s1, s9 = .inl s1 → WW M G 4 Q (kc + 2) (ks + 800) g1 105 [(0, .ref a0), (1, .ref a1), (2, .int s1)] []) (hx : ∀ t, s9 = .inr t → WW M G 4 Q Kc Ks g1 142 [(0, .ref a0), (1, .ref a1)] []) {g : AH} (E : l_loads_l105 (GK G) a0 a1 s0 g = some (s9, g1)) : WW M G 4 Q kc ks g 105 [(0, .ref a0), (1, .ref a1), (2, .int s0)] [] := by
  unfold l_loads_l105 at E
  refine r_iload_n X 2 dL_loads_105 rfl rfl ?_
  refine r_aload_n X 0 dL_loads_106 rfl rfl ?_
  obtain ⟨x1, e2, E⟩ := gb_some E
  refine r_getI X dL_loads_107 f_L_175 e2 ?_
  refine r_icmp_ge X 142 dL_loads_110 (by decide) (fun c3 => ?_) (fun c3 => ?_)
  · rw [if_pos c3] at E
    cases E
    exact r_widen X ⟨by (try dsimp only); omega, hkc.2⟩ ⟨by (try dsimp only); omega, hks.2⟩ <| r_pick (by rfl : lpick [(0, .ref a0), (1, .ref a1), (2, .int s0)] [0, 1] = _) (hx _ rfl)
  · rw [if_neg c3] at E
    refine r_aload_n X 1 dL_loads_113 rfl rfl ?_
    refine r_bipush X (v := 32) dL_loads_114 (by decide) ?_
    obtain ⟨u7, e8, E⟩ := gb_some E
    obtain ⟨r4, g5, e6, E⟩ := cb_some E
    refine r_callV X hl0 (ci := 11) dL_loads_116 y_J4_append_cf468 m_L_200 rfl rfl e8 (t_j4_append_cf468 (l := l) (G := G) e6) rfl rfl (Nat.le_of_ble_eq_true rfl) ⟨by decide, by show _ + 1 ≤ 266; (try dsimp only); omega, by show _ + 400 ≤ 45358; (try dsimp only); omega⟩ ?_
    refine r_aload_n X 0 dL_loads_119 rfl rfl ?_
    obtain ⟨x9, e10, E⟩ := gb_some E
    refine r_getR X dL_loads_120 f_L_23 e10 ?_
    refine r_iload_n X 2 dL_loads_123 rfl rfl ?_
    refine r_aload_n X 0 dL_loads_124 rfl rfl ?_
    refine r_bipush X (v := 6) dL_loads_125 (by decide) ?_
    obtain ⟨u14, e15, E⟩ := gb_some E
    obtain ⟨r11, g12, e13, E⟩ := cb_some E
    refine r_callV0 X hl0 (ci := 10) dL_loads_127 y_L_draw m_L_169 rfl rfl e15 (t_l_draw (l := l) hst (G := G) e13) rfl rfl (Nat.le_of_ble_eq_true rfl) (by decide) ?_
    refine r_dup_x2 X dL_loads_130 rfl rfl rfl ?_
    obtain ⟨g16, e17, E⟩ := gb_some E
    refine r_iast X dL_loads_131 e17 ?_
    obtain ⟨u21, e22, E⟩ := gb_some E
    obtain ⟨r18, g19, e20, E⟩ := cb_some E
    refine r_callV X hl0 (ci := 11) dL_loads_132 y_J4_append_bf812 m_L_191 rfl rfl e22 (t_j4_append_bf812 (l := l) (G := G) e20) rfl rfl (Nat.le_of_ble_eq_true rfl) ⟨by decide, by show _ + 1 ≤ 266; (try dsimp only); omega, by show _ + 400 ≤ 45358; (try dsimp only); omega⟩ ?_
    refine r_pop X dL_loads_135 rfl ?_
    refine r_iinc X (v := (s0 + 1)) (L1 := [(2, .int (s0 + 1)), (0, .ref a0), (1, .ref a1)]) dL_loads_136 rfl rfl (by decide) rfl ?_
    refine r_goto X 105 dL_loads_139 (by decide) ?_
    cases E
    exact r_widen X ⟨by (try dsimp only); omega, Nat.le_trans hkc.1 hkc.2⟩ ⟨by (try dsimp only); omega, Nat.le_trans hks.1 hks.2⟩ <| r_pick (by rfl : lpick [(2, .int (s0 + 1)), (0, .ref a0), (1, .ref a1)] [1, 2, 0] = _) (hc _ rfl)
set_option maxHeartbeats 4000000 in
theorem t_l_loads_l105_r {l : Launch} {G : GG} {M : MC} (X : CX M G cL_loads 4 RL ⟨13, 266, 45358, 354⟩) (hl0 : M.2.1 = l) (hr : (mM M).sig.returnType = (some .boolean)) (hnm : (mM M).name = yL_loads.name) (hst : l.stackTraces = false) {Q : State → Prop} {Kc Ks : Nat} (hKc : Kc ≤ 266) (hKs : Ks ≤ 45358) {a0 : Nat} {a1 : Nat} : ∀ (n : Nat) (s0 : Int32) (g : AH) (t : (Unit)) (g1 : AH), loopX (l_loads_l105 (GK G) a0 a1) n s0 g = some (t, g1) → WW M G 4 Q Kc Ks g1 142 [(0, .ref a0), (1, .ref a1)] [] → ∀ kc ks : Nat, kc + n * 2 ≤ Kc → ks + n * 800 ≤ Ks → WW M G 4 Q kc ks g 105 [(0, .ref a0), (1, .ref a1), (2, .int s0)] [] :=
  loop_cps (K := fun (t : (Unit)) g1 => WW M G 4 Q Kc Ks g1 142 [(0, .ref a0), (1, .ref a1)] []) (fun n (s0 : Int32) g => ∀ kc ks : Nat, kc + n * 2 ≤ Kc → ks + n * 800 ≤ Ks → WW M G 4 Q kc ks g 105 [(0, .ref a0), (1, .ref a1), (2, .int s0)] []) (fun n s0 g st g1 E hc hx kc ks h1 h2 => by
    have e1 : (n + 1) * 2 = n * 2 + 2 := by omega
    have e2 : (n + 1) * 800 = n * 800 + 800 := by omega
    exact t_l_loads_l105 X hl0 hr hnm hst ⟨by omega, hKc⟩ ⟨by omega, hKs⟩ (fun s1 e => hc s1 e _ _ (by omega) (by omega)) hx E)
set_option maxHeartbeats 4000000 in
set_option maxRecDepth 100000 in
theorem t_l_loads_l151 {l : Launch} {G : GG} {M : MC} (X : CX M G cL_loads 4 RL ⟨13, 266, 45358, 354⟩) (hl0 : M.2.1 = l) (hr : (mM M).sig.returnType = (some .boolean)) (hnm : (mM M).name = yL_loads.name) (hst : l.stackTraces = false) {Q : State → Prop} {kc ks : Nat} {s9 : ((Int32) ⊕ (Unit))} {g1 : AH} {a0 : Nat} {a1 : Nat} {s0 : Int32} {Kc Ks : Nat} (hkc : kc + 2 ≤ Kc ∧ Kc ≤ 266) (hks : ks + 800 ≤ Ks ∧ Ks ≤ 45358) (hc : ∀ s1, s9 = .inl s1 → WW M G 4 Q (kc + 2) (ks + 800) g1 151 [(0, .ref a0), (1, .ref a1), (2, .int s1)] []) (hx : ∀ t, s9 = .inr t → WW M G 4 Q Kc Ks g1 190 [(0, .ref a0), (1, .ref a1)] []) {g : AH} (E : l_loads_l151 (GK G) a0 a1 s0 g = some (s9, g1)) : WW M G 4 Q kc ks g 151 [(0, .ref a0), (1, .ref a1), (2, .int s0)] [] := by
  unfold l_loads_l151 at E
  refine r_iload_n X 2 dL_loads_151 rfl rfl ?_
  refine r_aload_n X 0 dL_loads_152 rfl rfl ?_
  obtain ⟨x1, e2, E⟩ := gb_some E
  refine r_getI X dL_loads_153 f_L_178 e2 ?_
  refine r_icmp_ge X 190 dL_loads_156 (by decide) (fun c3 => ?_) (fun c3 => ?_)
  · rw [if_pos c3] at E
    cases E
    exact r_widen X ⟨by (try dsimp only); omega, hkc.2⟩ ⟨by (try dsimp only); omega, hks.2⟩ <| r_pick (by rfl : lpick [(0, .ref a0), (1, .ref a1), (2, .int s0)] [0, 1] = _) (hx _ rfl)
  · rw [if_neg c3] at E
    refine r_aload_n X 1 dL_loads_159 rfl rfl ?_
    refine r_bipush X (v := 32) dL_loads_160 (by decide) ?_
    obtain ⟨u7, e8, E⟩ := gb_some E
    obtain ⟨r4, g5, e6, E⟩ := cb_some E
    refine r_callV X hl0 (ci := 11) dL_loads_162 y_J4_append_cf468 m_L_200 rfl rfl e8 (t_j4_append_cf468 (l := l) (G := G) e6) rfl rfl (Nat.le_of_ble_eq_true rfl) ⟨by decide, by show _ + 1 ≤ 266; (try dsimp only); omega, by show _ + 400 ≤ 45358; (try dsimp only); omega⟩ ?_
    refine r_aload_n X 0 dL_loads_165 rfl rfl ?_
    obtain ⟨x9, e10, E⟩ := gb_some E
    refine r_getR X dL_loads_166 f_L_27 e10 ?_
    refine r_iload_n X 2 dL_loads_169 rfl rfl ?_
    refine r_iconst X (v := 1) dL_loads_170 (by decide) ?_
    refine r_aload_n X 0 dL_loads_171 rfl rfl ?_
    refine r_bipush X (v := 9) dL_loads_172 (by decide) ?_
    obtain ⟨u14, e15, E⟩ := gb_some E
    obtain ⟨r11, g12, e13, E⟩ := cb_some E
    refine r_callV0 X hl0 (ci := 10) dL_loads_174 y_L_draw m_L_169 rfl rfl e15 (t_l_draw (l := l) hst (G := G) e13) rfl rfl (Nat.le_of_ble_eq_true rfl) (by decide) ?_
    refine r_iadd X dL_loads_177 ?_
    refine r_dup_x2 X dL_loads_178 rfl rfl rfl ?_
    obtain ⟨g16, e17, E⟩ := gb_some E
    refine r_iast X dL_loads_179 e17 ?_
    obtain ⟨u21, e22, E⟩ := gb_some E
    obtain ⟨r18, g19, e20, E⟩ := cb_some E
    refine r_callV X hl0 (ci := 11) dL_loads_180 y_J4_append_bf812 m_L_191 rfl rfl e22 (t_j4_append_bf812 (l := l) (G := G) e20) rfl rfl (Nat.le_of_ble_eq_true rfl) ⟨by decide, by show _ + 1 ≤ 266; (try dsimp only); omega, by show _ + 400 ≤ 45358; (try dsimp only); omega⟩ ?_
    refine r_pop X dL_loads_183 rfl ?_
    refine r_iinc X (v := (s0 + 1)) (L1 := [(2, .int (s0 + 1)), (0, .ref a0), (1, .ref a1)]) dL_loads_184 rfl rfl (by decide) rfl ?_
    refine r_goto X 151 dL_loads_187 (by decide) ?_
    cases E
    exact r_widen X ⟨by (try dsimp only); omega, Nat.le_trans hkc.1 hkc.2⟩ ⟨by (try dsimp only); omega, Nat.le_trans hks.1 hks.2⟩ <| r_pick (by rfl : lpick [(2, .int (s0 + 1)), (0, .ref a0), (1, .ref a1)] [1, 2, 0] = _) (hc _ rfl)
set_option maxHeartbeats 4000000 in
theorem t_l_loads_l151_r {l : Launch} {G : GG} {M : MC} (X : CX M G cL_loads 4 RL ⟨13, 266, 45358, 354⟩) (hl0 : M.2.1 = l) (hr : (mM M).sig.returnType = (some .boolean)) (hnm : (mM M).name = yL_loads.name) (hst : l.stackTraces = false) {Q : State → Prop} {Kc Ks : Nat} (hKc : Kc ≤ 266) (hKs : Ks ≤ 45358) {a0 : Nat} {a1 : Nat} : ∀ (n : Nat) (s0 : Int32) (g : AH) (t : (Unit)) (g1 : AH), loopX (l_loads_l151 (GK G) a0 a1) n s0 g = some (t, g1) → WW M G 4 Q Kc Ks g1 190 [(0, .ref a0), (1, .ref a1)] [] → ∀ kc ks : Nat, kc + n * 2 ≤ Kc → ks + n * 800 ≤ Ks → WW M G 4 Q kc ks g 151 [(0, .ref a0), (1, .ref a1), (2, .int s0)] [] :=
  loop_cps (K := fun (t : (Unit)) g1 => WW M G 4 Q Kc Ks g1 190 [(0, .ref a0), (1, .ref a1)] []) (fun n (s0 : Int32) g => ∀ kc ks : Nat, kc + n * 2 ≤ Kc → ks + n * 800 ≤ Ks → WW M G 4 Q kc ks g 151 [(0, .ref a0), (1, .ref a1), (2, .int s0)] []) (fun n s0 g st g1 E hc hx kc ks h1 h2 => by
    have e1 : (n + 1) * 2 = n * 2 + 2 := by omega
    have e2 : (n + 1) * 800 = n * 800 + 800 := by omega
    exact t_l_loads_l151 X hl0 hr hnm hst ⟨by omega, hKc⟩ ⟨by omega, hKs⟩ (fun s1 e => hc s1 e _ _ (by omega) (by omega)) hx E)
set_option maxHeartbeats 4000000 in
set_option maxRecDepth 100000 in
theorem t_l_loads_l199 {l : Launch} {G : GG} {M : MC} (X : CX M G cL_loads 4 RL ⟨13, 266, 45358, 354⟩) (hl0 : M.2.1 = l) (hr : (mM M).sig.returnType = (some .boolean)) (hnm : (mM M).name = yL_loads.name) (hst : l.stackTraces = false) {Q : State → Prop} {kc ks : Nat} {s9 : ((Int32) ⊕ (Unit))} {g1 : AH} {a0 : Nat} {a1 : Nat} {s0 : Int32} {Kc Ks : Nat} (hkc : kc + 2 ≤ Kc ∧ Kc ≤ 266) (hks : ks + 800 ≤ Ks ∧ Ks ≤ 45358) (hc : ∀ s1, s9 = .inl s1 → WW M G 4 Q (kc + 2) (ks + 800) g1 199 [(0, .ref a0), (1, .ref a1), (2, .int s1)] []) (hx : ∀ t, s9 = .inr t → WW M G 4 Q Kc Ks g1 236 [(0, .ref a0), (1, .ref a1)] []) {g : AH} (E : l_loads_l199 (GK G) a0 a1 s0 g = some (s9, g1)) : WW M G 4 Q kc ks g 199 [(0, .ref a0), (1, .ref a1), (2, .int s0)] [] := by
  unfold l_loads_l199 at E
  refine r_iload_n X 2 dL_loads_199 rfl rfl ?_
  refine r_aload_n X 0 dL_loads_200 rfl rfl ?_
  obtain ⟨x1, e2, E⟩ := gb_some E
  refine r_getI X dL_loads_201 f_L_181 e2 ?_
  refine r_icmp_ge X 236 dL_loads_204 (by decide) (fun c3 => ?_) (fun c3 => ?_)
  · rw [if_pos c3] at E
    cases E
    exact r_widen X ⟨by (try dsimp only); omega, hkc.2⟩ ⟨by (try dsimp only); omega, hks.2⟩ <| r_pick (by rfl : lpick [(0, .ref a0), (1, .ref a1), (2, .int s0)] [0, 1] = _) (hx _ rfl)
  · rw [if_neg c3] at E
    refine r_aload_n X 1 dL_loads_207 rfl rfl ?_
    refine r_bipush X (v := 32) dL_loads_208 (by decide) ?_
    obtain ⟨u7, e8, E⟩ := gb_some E
    obtain ⟨r4, g5, e6, E⟩ := cb_some E
    refine r_callV X hl0 (ci := 11) dL_loads_210 y_J4_append_cf468 m_L_200 rfl rfl e8 (t_j4_append_cf468 (l := l) (G := G) e6) rfl rfl (Nat.le_of_ble_eq_true rfl) ⟨by decide, by show _ + 1 ≤ 266; (try dsimp only); omega, by show _ + 400 ≤ 45358; (try dsimp only); omega⟩ ?_
    refine r_aload_n X 0 dL_loads_213 rfl rfl ?_
    obtain ⟨x9, e10, E⟩ := gb_some E
    refine r_getR X dL_loads_214 f_L_30 e10 ?_
    refine r_iload_n X 2 dL_loads_217 rfl rfl ?_
    refine r_aload_n X 0 dL_loads_218 rfl rfl ?_
    refine r_bipush X (v := 14) dL_loads_219 (by decide) ?_
    obtain ⟨u14, e15, E⟩ := gb_some E
    obtain ⟨r11, g12, e13, E⟩ := cb_some E
    refine r_callV0 X hl0 (ci := 10) dL_loads_221 y_L_draw m_L_169 rfl rfl e15 (t_l_draw (l := l) hst (G := G) e13) rfl rfl (Nat.le_of_ble_eq_true rfl) (by decide) ?_
    refine r_dup_x2 X dL_loads_224 rfl rfl rfl ?_
    obtain ⟨g16, e17, E⟩ := gb_some E
    refine r_iast X dL_loads_225 e17 ?_
    obtain ⟨u21, e22, E⟩ := gb_some E
    obtain ⟨r18, g19, e20, E⟩ := cb_some E
    refine r_callV X hl0 (ci := 11) dL_loads_226 y_J4_append_bf812 m_L_191 rfl rfl e22 (t_j4_append_bf812 (l := l) (G := G) e20) rfl rfl (Nat.le_of_ble_eq_true rfl) ⟨by decide, by show _ + 1 ≤ 266; (try dsimp only); omega, by show _ + 400 ≤ 45358; (try dsimp only); omega⟩ ?_
    refine r_pop X dL_loads_229 rfl ?_
    refine r_iinc X (v := (s0 + 1)) (L1 := [(2, .int (s0 + 1)), (0, .ref a0), (1, .ref a1)]) dL_loads_230 rfl rfl (by decide) rfl ?_
    refine r_goto X 199 dL_loads_233 (by decide) ?_
    cases E
    exact r_widen X ⟨by (try dsimp only); omega, Nat.le_trans hkc.1 hkc.2⟩ ⟨by (try dsimp only); omega, Nat.le_trans hks.1 hks.2⟩ <| r_pick (by rfl : lpick [(2, .int (s0 + 1)), (0, .ref a0), (1, .ref a1)] [1, 2, 0] = _) (hc _ rfl)
set_option maxHeartbeats 4000000 in
theorem t_l_loads_l199_r {l : Launch} {G : GG} {M : MC} (X : CX M G cL_loads 4 RL ⟨13, 266, 45358, 354⟩) (hl0 : M.2.1 = l) (hr : (mM M).sig.returnType = (some .boolean)) (hnm : (mM M).name = yL_loads.name) (hst : l.stackTraces = false) {Q : State → Prop} {Kc Ks : Nat} (hKc : Kc ≤ 266) (hKs : Ks ≤ 45358) {a0 : Nat} {a1 : Nat} : ∀ (n : Nat) (s0 : Int32) (g : AH) (t : (Unit)) (g1 : AH), loopX (l_loads_l199 (GK G) a0 a1) n s0 g = some (t, g1) → WW M G 4 Q Kc Ks g1 236 [(0, .ref a0), (1, .ref a1)] [] → ∀ kc ks : Nat, kc + n * 2 ≤ Kc → ks + n * 800 ≤ Ks → WW M G 4 Q kc ks g 199 [(0, .ref a0), (1, .ref a1), (2, .int s0)] [] :=
  loop_cps (K := fun (t : (Unit)) g1 => WW M G 4 Q Kc Ks g1 236 [(0, .ref a0), (1, .ref a1)] []) (fun n (s0 : Int32) g => ∀ kc ks : Nat, kc + n * 2 ≤ Kc → ks + n * 800 ≤ Ks → WW M G 4 Q kc ks g 199 [(0, .ref a0), (1, .ref a1), (2, .int s0)] []) (fun n s0 g st g1 E hc hx kc ks h1 h2 => by
    have e1 : (n + 1) * 2 = n * 2 + 2 := by omega
    have e2 : (n + 1) * 800 = n * 800 + 800 := by omega
    exact t_l_loads_l199 X hl0 hr hnm hst ⟨by omega, hKc⟩ ⟨by omega, hKs⟩ (fun s1 e => hc s1 e _ _ (by omega) (by omega)) hx E)
set_option maxHeartbeats 4000000 in
set_option maxRecDepth 100000 in
theorem t_l_loads_l252 {l : Launch} {G : GG} {M : MC} (X : CX M G cL_loads 4 RL ⟨13, 266, 45358, 354⟩) (hl0 : M.2.1 = l) (hr : (mM M).sig.returnType = (some .boolean)) (hnm : (mM M).name = yL_loads.name) (hst : l.stackTraces = false) {Q : State → Prop} {kc ks : Nat} {s9 : ((Int32) ⊕ (Unit))} {g1 : AH} {a0 : Nat} {a1 : Nat} {s0 : Int32} {Kc Ks : Nat} (hkc : kc + 10 ≤ Kc ∧ Kc ≤ 266) (hks : ks + 2822 ≤ Ks ∧ Ks ≤ 45358) (hc : ∀ s1, s9 = .inl s1 → WW M G 4 Q (kc + 10) (ks + 2822) g1 252 [(0, .ref a0), (1, .ref a1), (2, .int s1)] []) (hx : ∀ t, s9 = .inr t → WW M G 4 Q Kc Ks g1 365 [(0, .ref a0), (1, .ref a1)] []) {g : AH} (E : l_loads_l252 (GK G) a0 a1 s0 g = some (s9, g1)) : WW M G 4 Q kc ks g 252 [(0, .ref a0), (1, .ref a1), (2, .int s0)] [] := by
  unfold l_loads_l252 at E
  refine r_iload_n X 2 dL_loads_252 rfl rfl ?_
  refine r_if_le X 365 dL_loads_253 (by decide) (fun c1 => ?_) (fun c1 => ?_)
  · rw [if_pos c1] at E
    cases E
    exact r_widen X ⟨by (try dsimp only); omega, hkc.2⟩ ⟨by (try dsimp only); omega, hks.2⟩ <| r_pick (by rfl : lpick [(0, .ref a0), (1, .ref a1), (2, .int s0)] [0, 1] = _) (hx _ rfl)
  · rw [if_neg c1] at E
    obtain ⟨x2, g3, e4, E⟩ := cb_some E
    refine r_new X (ci := 9) dL_loads_256 rfl tyX9_ok flc9 k_L_207 n_X9 ⟨by show _ + 1 ≤ 266; (try dsimp only); omega, by show _ + 8 ≤ 45358; (try dsimp only); omega⟩ e4 ?_
    refine r_dup X dL_loads_259 rfl ?_
    obtain ⟨r5, g6, e7, E⟩ := cb_some E
    refine r_callIN2 X hl0 dL_loads_260 y_X9_init (List.mem_of_getElem? (i := 0) rfl) (t_x9_init (l := l) (G := G) e7) rfl rfl (Nat.le_of_ble_eq_true rfl) ⟨by decide, by show _ + 1 ≤ 266; (try dsimp only); omega, by show _ + 4 ≤ 45358; (try dsimp only); omega⟩ ?_
    refine r_astore_n X 3 (L1 := [(3, .ref x2), (0, .ref a0), (1, .ref a1), (2, .int s0)]) dL_loads_263 rfl (by decide) rfl ?_
    refine r_aload_n X 3 dL_loads_264 rfl rfl ?_
    refine r_aload_n X 0 dL_loads_265 rfl rfl ?_
    obtain ⟨x8, e9, E⟩ := gb_some E
    refine r_getR X dL_loads_266 f_L_19 e9 ?_
    obtain ⟨u13, e14, E⟩ := gb_some E
    obtain ⟨r10, g11, e12, E⟩ := cb_some E
    refine r_callV0 X hl0 (ci := 12) dL_loads_269 y_Jx4a65c_size_8abf5 m_L_210 rfl rfl e14 (t_jx4a65c_size_8abf5 (l := l) (G := G) e12) rfl rfl (Nat.le_of_ble_eq_true rfl) (by decide) ?_
    obtain ⟨g15, e16, E⟩ := gb_some E
    refine r_putN X (k := 0) dL_loads_272 (List.mem_of_getElem? (i := 0) rfl) rfl (by decide) rfl rfl rfl e16 ?_
    refine r_aload_n X 3 dL_loads_275 rfl rfl ?_
    refine r_iconst X (v := 1) dL_loads_276 (by decide) ?_
    refine r_aload_n X 0 dL_loads_277 rfl rfl ?_
    refine r_bipush X (v := 18) dL_loads_278 (by decide) ?_
    obtain ⟨u20, e21, E⟩ := gb_some E
    obtain ⟨r17, g18, e19, E⟩ := cb_some E
    refine r_callV0 X hl0 (ci := 10) dL_loads_280 y_L_draw m_L_169 rfl rfl e21 (t_l_draw (l := l) hst (G := G) e19) rfl rfl (Nat.le_of_ble_eq_true rfl) (by decide) ?_
    refine r_iadd X dL_loads_283 ?_
    obtain ⟨g22, e23, E⟩ := gb_some E
    refine r_putN X (k := 1) dL_loads_284 (List.mem_of_getElem? (i := 1) rfl) rfl (by decide) rfl rfl rfl e23 ?_
    refine r_aload_n X 3 dL_loads_287 rfl rfl ?_
    refine r_aload_n X 0 dL_loads_288 rfl rfl ?_
    refine r_bipush X (v := 10) dL_loads_289 (by decide) ?_
    obtain ⟨u27, e28, E⟩ := gb_some E
    obtain ⟨r24, g25, e26, E⟩ := cb_some E
    refine r_callV0 X hl0 (ci := 10) dL_loads_291 y_L_draw m_L_169 rfl rfl e28 (t_l_draw (l := l) hst (G := G) e26) rfl rfl (Nat.le_of_ble_eq_true rfl) (by decide) ?_
    obtain ⟨g29, e30, E⟩ := gb_some E
    refine r_putN X (k := 2) dL_loads_294 (List.mem_of_getElem? (i := 2) rfl) rfl (by decide) rfl rfl rfl e30 ?_
    refine r_aload_n X 3 dL_loads_297 rfl rfl ?_
    refine r_aload_n X 0 dL_loads_298 rfl rfl ?_
    refine r_bipush X (v := 40) dL_loads_299 (by decide) ?_
    obtain ⟨u34, e35, E⟩ := gb_some E
    obtain ⟨r31, g32, e33, E⟩ := cb_some E
    refine r_callV0 X hl0 (ci := 10) dL_loads_301 y_L_draw m_L_169 rfl rfl e35 (t_l_draw (l := l) hst (G := G) e33) rfl rfl (Nat.le_of_ble_eq_true rfl) (by decide) ?_
    obtain ⟨g36, e37, E⟩ := gb_some E
    refine r_putN X (k := 3) dL_loads_304 (List.mem_of_getElem? (i := 3) rfl) rfl (by decide) rfl rfl rfl e37 ?_
    refine r_aload_n X 0 dL_loads_307 rfl rfl ?_
    obtain ⟨x38, e39, E⟩ := gb_some E
    refine r_getR X dL_loads_308 f_L_19 e39 ?_
    refine r_aload_n X 3 dL_loads_311 rfl rfl ?_
    obtain ⟨u43, e44, E⟩ := gb_some E
    obtain ⟨r40, g41, e42, E⟩ := cb_some E
    refine r_callV X hl0 (ci := 12) dL_loads_312 y_Jx4a65c_add_9ea2d m_L_225 rfl rfl e44 (t_jx4a65c_add_9ea2d (l := l) (G := G) e42) rfl rfl (Nat.le_of_ble_eq_true rfl) ⟨by decide, by show _ + 1 ≤ 266; (try dsimp only); omega, by show _ + 10 ≤ 45358; (try dsimp only); omega⟩ ?_
    refine r_pop X dL_loads_315 rfl ?_
    refine r_aload_n X 1 dL_loads_316 rfl rfl ?_
    refine r_ldcS X dL_loads_317 (List.mem_of_getElem? (i := 21) rfl) ?_
    obtain ⟨u48, e49, E⟩ := gb_some E
    obtain ⟨r45, g46, e47, E⟩ := cb_some E
    refine r_callV X hl0 (ci := 11) dL_loads_319 y_J4_append_15ec4 m_L_197 rfl rfl e49 (t_j4_append_15ec4 (l := l) (G := G) e47) rfl rfl (Nat.le_of_ble_eq_true rfl) ⟨by decide, by show _ + 1 ≤ 266; (try dsimp only); omega, by show _ + 400 ≤ 45358; (try dsimp only); omega⟩ ?_
    refine r_aload_n X 3 dL_loads_322 rfl rfl ?_
    obtain ⟨x50, e51, E⟩ := gb_some E
    refine r_getIN X (k := 1) dL_loads_323 (List.mem_of_getElem? (i := 1) rfl) rfl (by decide) e51 ?_
    obtain ⟨u55, e56, E⟩ := gb_some E
    obtain ⟨r52, g53, e54, E⟩ := cb_some E
    refine r_callV X hl0 (ci := 11) dL_loads_326 y_J4_append_bf812 m_L_191 rfl rfl e56 (t_j4_append_bf812 (l := l) (G := G) e54) rfl rfl (Nat.le_of_ble_eq_true rfl) ⟨by decide, by show _ + 1 ≤ 266; (try dsimp only); omega, by show _ + 400 ≤ 45358; (try dsimp only); omega⟩ ?_
    refine r_bipush X (v := 32) dL_loads_329 (by decide) ?_
    obtain ⟨u60, e61, E⟩ := gb_some E
    obtain ⟨r57, g58, e59, E⟩ := cb_some E
    refine r_callV X hl0 (ci := 11) dL_loads_331 y_J4_append_cf468 m_L_200 rfl rfl e61 (t_j4_append_cf468 (l := l) (G := G) e59) rfl rfl (Nat.le_of_ble_eq_true rfl) ⟨by decide, by show _ + 1 ≤ 266; (try dsimp only); omega, by show _ + 400 ≤ 45358; (try dsimp only); omega⟩ ?_
    refine r_aload_n X 3 dL_loads_334 rfl rfl ?_
    obtain ⟨x62, e63, E⟩ := gb_some E
    refine r_getIN X (k := 2) dL_loads_335 (List.mem_of_getElem? (i := 2) rfl) rfl (by decide) e63 ?_
    obtain ⟨u67, e68, E⟩ := gb_some E
    obtain ⟨r64, g65, e66, E⟩ := cb_some E
    refine r_callV X hl0 (ci := 11) dL_loads_338 y_J4_append_bf812 m_L_191 rfl rfl e68 (t_j4_append_bf812 (l := l) (G := G) e66) rfl rfl (Nat.le_of_ble_eq_true rfl) ⟨by decide, by show _ + 1 ≤ 266; (try dsimp only); omega, by show _ + 400 ≤ 45358; (try dsimp only); omega⟩ ?_
    refine r_bipush X (v := 32) dL_loads_341 (by decide) ?_
    obtain ⟨u72, e73, E⟩ := gb_some E
    obtain ⟨r69, g70, e71, E⟩ := cb_some E
    refine r_callV X hl0 (ci := 11) dL_loads_343 y_J4_append_cf468 m_L_200 rfl rfl e73 (t_j4_append_cf468 (l := l) (G := G) e71) rfl rfl (Nat.le_of_ble_eq_true rfl) ⟨by decide, by show _ + 1 ≤ 266; (try dsimp only); omega, by show _ + 400 ≤ 45358; (try dsimp only); omega⟩ ?_
    refine r_aload_n X 3 dL_loads_346 rfl rfl ?_
    obtain ⟨x74, e75, E⟩ := gb_some E
    refine r_getIN X (k := 3) dL_loads_347 (List.mem_of_getElem? (i := 3) rfl) rfl (by decide) e75 ?_
    obtain ⟨u79, e80, E⟩ := gb_some E
    obtain ⟨r76, g77, e78, E⟩ := cb_some E
    refine r_callV X hl0 (ci := 11) dL_loads_350 y_J4_append_bf812 m_L_191 rfl rfl e80 (t_j4_append_bf812 (l := l) (G := G) e78) rfl rfl (Nat.le_of_ble_eq_true rfl) ⟨by decide, by show _ + 1 ≤ 266; (try dsimp only); omega, by show _ + 400 ≤ 45358; (try dsimp only); omega⟩ ?_
    refine r_bipush X (v := 59) dL_loads_353 (by decide) ?_
    obtain ⟨u84, e85, E⟩ := gb_some E
    obtain ⟨r81, g82, e83, E⟩ := cb_some E
    refine r_callV X hl0 (ci := 11) dL_loads_355 y_J4_append_cf468 m_L_200 rfl rfl e85 (t_j4_append_cf468 (l := l) (G := G) e83) rfl rfl (Nat.le_of_ble_eq_true rfl) ⟨by decide, by show _ + 1 ≤ 266; (try dsimp only); omega, by show _ + 400 ≤ 45358; (try dsimp only); omega⟩ ?_
    refine r_pop X dL_loads_358 rfl ?_
    refine r_iinc X (v := (s0 + (-1))) (L1 := [(2, .int (s0 + (-1))), (3, .ref x2), (0, .ref a0), (1, .ref a1)]) dL_loads_359 rfl rfl (by decide) rfl ?_
    refine r_goto X 252 dL_loads_362 (by decide) ?_
    cases E
    exact r_widen X ⟨by (try dsimp only); omega, Nat.le_trans hkc.1 hkc.2⟩ ⟨by (try dsimp only); omega, Nat.le_trans hks.1 hks.2⟩ <| r_pick (by rfl : lpick [(2, .int (s0 + (-1))), (3, .ref x2), (0, .ref a0), (1, .ref a1)] [2, 3, 0] = _) (hc _ rfl)
set_option maxHeartbeats 4000000 in
theorem t_l_loads_l252_r {l : Launch} {G : GG} {M : MC} (X : CX M G cL_loads 4 RL ⟨13, 266, 45358, 354⟩) (hl0 : M.2.1 = l) (hr : (mM M).sig.returnType = (some .boolean)) (hnm : (mM M).name = yL_loads.name) (hst : l.stackTraces = false) {Q : State → Prop} {Kc Ks : Nat} (hKc : Kc ≤ 266) (hKs : Ks ≤ 45358) {a0 : Nat} {a1 : Nat} : ∀ (n : Nat) (s0 : Int32) (g : AH) (t : (Unit)) (g1 : AH), loopX (l_loads_l252 (GK G) a0 a1) n s0 g = some (t, g1) → WW M G 4 Q Kc Ks g1 365 [(0, .ref a0), (1, .ref a1)] [] → ∀ kc ks : Nat, kc + n * 10 ≤ Kc → ks + n * 2822 ≤ Ks → WW M G 4 Q kc ks g 252 [(0, .ref a0), (1, .ref a1), (2, .int s0)] [] :=
  loop_cps (K := fun (t : (Unit)) g1 => WW M G 4 Q Kc Ks g1 365 [(0, .ref a0), (1, .ref a1)] []) (fun n (s0 : Int32) g => ∀ kc ks : Nat, kc + n * 10 ≤ Kc → ks + n * 2822 ≤ Ks → WW M G 4 Q kc ks g 252 [(0, .ref a0), (1, .ref a1), (2, .int s0)] []) (fun n s0 g st g1 E hc hx kc ks h1 h2 => by
    have e1 : (n + 1) * 10 = n * 10 + 10 := by omega
    have e2 : (n + 1) * 2822 = n * 2822 + 2822 := by omega
    exact t_l_loads_l252 X hl0 hr hnm hst ⟨by omega, hKc⟩ ⟨by omega, hKs⟩ (fun s1 e => hc s1 e _ _ (by omega) (by omega)) hx E)
set_option maxHeartbeats 4000000 in
set_option maxRecDepth 100000 in
theorem t_l_loads_b {l : Launch} {G : GG} {M : MC} (X : CX M G cL_loads 4 RL ⟨13, 266, 45358, 354⟩) (hl0 : M.2.1 = l) (hr : (mM M).sig.returnType = (some .boolean)) (hnm : (mM M).name = yL_loads.name) (hst : l.stackTraces = false) {p : Nat} {g : AH} {r : Int32} {g1 : AH} (E : l_loads (GK G) p g = some (r, g1)) : WW M G 4 (RQ M G (some (.int r)) g1 266 45358) 0 0 g 0 [(0, .ref p)] [] := by
  unfold l_loads at E
  refine r_aload_n X 0 dL_loads_0 rfl rfl ?_
  obtain ⟨x1, e2, E⟩ := gb_some E
  refine r_getR X dL_loads_1 f_L_19 e2 ?_
  obtain ⟨u6, e7, E⟩ := gb_some E
  obtain ⟨r3, g4, e5, E⟩ := cb_some E
  refine r_callV0 X hl0 (ci := 12) dL_loads_4 y_Jx4a65c_clear_da8c8 m_L_148 rfl rfl e7 (t_jx4a65c_clear_da8c8 (l := l) (G := G) e5) rfl rfl (Nat.le_of_ble_eq_true rfl) (by decide) ?_
  refine r_aload_n X 0 dL_loads_7 rfl rfl ?_
  refine r_aload_n X 0 dL_loads_8 rfl rfl ?_
  refine r_aload_n X 0 dL_loads_9 rfl rfl ?_
  refine r_aload_n X 0 dL_loads_10 rfl rfl ?_
  refine r_aload_n X 0 dL_loads_11 rfl rfl ?_
  refine r_aload_n X 0 dL_loads_12 rfl rfl ?_
  refine r_iconst X (v := 0) dL_loads_13 (by decide) ?_
  refine r_dup_x1 X dL_loads_14 rfl rfl ?_
  obtain ⟨g8, e9, E⟩ := gb_some E
  refine r_put X dL_loads_15 f_L_151 rfl rfl e9 ?_
  refine r_dup_x1 X dL_loads_18 rfl rfl ?_
  obtain ⟨g10, e11, E⟩ := gb_some E
  refine r_put X dL_loads_19 f_L_154 rfl rfl e11 ?_
  refine r_dup_x1 X dL_loads_22 rfl rfl ?_
  obtain ⟨g12, e13, E⟩ := gb_some E
  refine r_put X dL_loads_23 f_L_157 rfl rfl e13 ?_
  refine r_dup_x1 X dL_loads_26 rfl rfl ?_
  obtain ⟨g14, e15, E⟩ := gb_some E
  refine r_put X dL_loads_27 f_L_160 rfl rfl e15 ?_
  refine r_dup_x1 X dL_loads_30 rfl rfl ?_
  obtain ⟨g16, e17, E⟩ := gb_some E
  refine r_put X dL_loads_31 f_L_163 rfl rfl e17 ?_
  obtain ⟨g18, e19, E⟩ := gb_some E
  refine r_put X dL_loads_34 f_L_166 rfl rfl e19 ?_
  refine r_aload_n X 0 dL_loads_37 rfl rfl ?_
  refine r_aload_n X 0 dL_loads_38 rfl rfl ?_
  refine r_bipush X (v := 100) dL_loads_39 (by decide) ?_
  obtain ⟨u23, e24, E⟩ := gb_some E
  obtain ⟨r20, g21, e22, E⟩ := cb_some E
  refine r_callV0 X hl0 (ci := 10) dL_loads_41 y_L_draw m_L_169 rfl rfl e24 (t_l_draw (l := l) hst (G := G) e22) rfl rfl (Nat.le_of_ble_eq_true rfl) (by decide) ?_
  obtain ⟨g25, e26, E⟩ := gb_some E
  refine r_put X dL_loads_44 f_L_172 rfl rfl e26 ?_
  refine r_aload_n X 0 dL_loads_47 rfl rfl ?_
  refine r_iconst X (v := 1) dL_loads_48 (by decide) ?_
  refine r_aload_n X 0 dL_loads_49 rfl rfl ?_
  refine r_bipush X (v := 8) dL_loads_50 (by decide) ?_
  obtain ⟨u30, e31, E⟩ := gb_some E
  obtain ⟨r27, g28, e29, E⟩ := cb_some E
  refine r_callV0 X hl0 (ci := 10) dL_loads_52 y_L_draw m_L_169 rfl rfl e31 (t_l_draw (l := l) hst (G := G) e29) rfl rfl (Nat.le_of_ble_eq_true rfl) (by decide) ?_
  refine r_iadd X dL_loads_55 ?_
  obtain ⟨g32, e33, E⟩ := gb_some E
  refine r_put X dL_loads_56 f_L_175 rfl rfl e33 ?_
  refine r_aload_n X 0 dL_loads_59 rfl rfl ?_
  refine r_aload_n X 0 dL_loads_60 rfl rfl ?_
  refine r_bipush X (v := 7) dL_loads_61 (by decide) ?_
  obtain ⟨u37, e38, E⟩ := gb_some E
  obtain ⟨r34, g35, e36, E⟩ := cb_some E
  refine r_callV0 X hl0 (ci := 10) dL_loads_63 y_L_draw m_L_169 rfl rfl e38 (t_l_draw (l := l) hst (G := G) e36) rfl rfl (Nat.le_of_ble_eq_true rfl) (by decide) ?_
  obtain ⟨g39, e40, E⟩ := gb_some E
  refine r_put X dL_loads_66 f_L_178 rfl rfl e40 ?_
  refine r_aload_n X 0 dL_loads_69 rfl rfl ?_
  refine r_iconst X (v := 1) dL_loads_70 (by decide) ?_
  refine r_aload_n X 0 dL_loads_71 rfl rfl ?_
  refine r_bipush X (v := 6) dL_loads_72 (by decide) ?_
  obtain ⟨u44, e45, E⟩ := gb_some E
  obtain ⟨r41, g42, e43, E⟩ := cb_some E
  refine r_callV0 X hl0 (ci := 10) dL_loads_74 y_L_draw m_L_169 rfl rfl e45 (t_l_draw (l := l) hst (G := G) e43) rfl rfl (Nat.le_of_ble_eq_true rfl) (by decide) ?_
  refine r_iadd X dL_loads_77 ?_
  obtain ⟨g46, e47, E⟩ := gb_some E
  refine r_put X dL_loads_78 f_L_181 rfl rfl e47 ?_
  obtain ⟨x48, g49, e50, E⟩ := cb_some E
  refine r_new X (ci := 11) dL_loads_81 rfl tyJ4_ok flc11 k_L_184 n_J4 (by decide) e50 ?_
  refine r_dup X dL_loads_84 rfl ?_
  refine r_ldcS X dL_loads_85 (List.mem_of_getElem? (i := 17) rfl) ?_
  obtain ⟨r51, g52, e53, E⟩ := cb_some E
  refine r_callI X hl0 dL_loads_87 y_J4_init_a7421 m_L_188 (t_j4_init_a7421 (l := l) (G := G) e53) rfl rfl (Nat.le_of_ble_eq_true rfl) (by decide) ?_
  refine r_aload_n X 0 dL_loads_90 rfl rfl ?_
  obtain ⟨x54, e55, E⟩ := gb_some E
  refine r_getI X dL_loads_91 f_L_172 e55 ?_
  obtain ⟨u59, e60, E⟩ := gb_some E
  obtain ⟨r56, g57, e58, E⟩ := cb_some E
  refine r_callV X hl0 (ci := 11) dL_loads_94 y_J4_append_bf812 m_L_191 rfl rfl e60 (t_j4_append_bf812 (l := l) (G := G) e58) rfl rfl (Nat.le_of_ble_eq_true rfl) (by decide) ?_
  refine r_ldcS X dL_loads_97 (List.mem_of_getElem? (i := 18) rfl) ?_
  obtain ⟨u64, e65, E⟩ := gb_some E
  obtain ⟨r61, g62, e63, E⟩ := cb_some E
  refine r_callV X hl0 (ci := 11) dL_loads_99 y_J4_append_15ec4 m_L_197 rfl rfl e65 (t_j4_append_15ec4 (l := l) (G := G) e63) rfl rfl (Nat.le_of_ble_eq_true rfl) (by decide) ?_
  refine r_astore_n X 1 (L1 := [(1, .ref r61), (0, .ref p)]) dL_loads_102 rfl (by decide) rfl ?_
  refine r_iconst X (v := 0) dL_loads_103 (by decide) ?_
  refine r_istore_n X 2 (L1 := [(2, .int 0), (1, .ref r61), (0, .ref p)]) dL_loads_104 rfl (by decide) rfl ?_
  obtain ⟨t66, g67, e68, E⟩ := cb_some E
  refine r_pick (by rfl : lpick [(2, .int 0), (1, .ref r61), (0, .ref p)] [2, 1, 0] = _) (t_l_loads_l105_r (Kc := 23) (Ks := 8804) X hl0 hr hnm hst (by decide) (by decide) _ _ _ _ _ e68 ?_ _ _ (by decide) (by decide))
  refine r_aload_n X 1 dL_loads_142 rfl rfl ?_
  refine r_ldcS X dL_loads_143 (List.mem_of_getElem? (i := 19) rfl) ?_
  obtain ⟨u72, e73, E⟩ := gb_some E
  obtain ⟨r69, g70, e71, E⟩ := cb_some E
  refine r_callV X hl0 (ci := 11) dL_loads_145 y_J4_append_15ec4 m_L_197 rfl rfl e73 (t_j4_append_15ec4 (l := l) (G := G) e71) rfl rfl (Nat.le_of_ble_eq_true rfl) (by decide) ?_
  refine r_pop X dL_loads_148 rfl ?_
  refine r_iconst X (v := 0) dL_loads_149 (by decide) ?_
  refine r_istore_n X 2 (L1 := [(2, .int 0), (0, .ref p), (1, .ref r61)]) dL_loads_150 rfl (by decide) rfl ?_
  obtain ⟨t74, g75, e76, E⟩ := cb_some E
  refine r_pick (by rfl : lpick [(2, .int 0), (0, .ref p), (1, .ref r61)] [1, 2, 0] = _) (t_l_loads_l151_r (Kc := 38) (Ks := 14804) X hl0 hr hnm hst (by decide) (by decide) _ _ _ _ _ e76 ?_ _ _ (by decide) (by decide))
  refine r_aload_n X 1 dL_loads_190 rfl rfl ?_
  refine r_ldcS X dL_loads_191 (List.mem_of_getElem? (i := 20) rfl) ?_
  obtain ⟨u80, e81, E⟩ := gb_some E
  obtain ⟨r77, g78, e79, E⟩ := cb_some E
  refine r_callV X hl0 (ci := 11) dL_loads_193 y_J4_append_15ec4 m_L_197 rfl rfl e81 (t_j4_append_15ec4 (l := l) (G := G) e79) rfl rfl (Nat.le_of_ble_eq_true rfl) (by decide) ?_
  refine r_pop X dL_loads_196 rfl ?_
  refine r_iconst X (v := 0) dL_loads_197 (by decide) ?_
  refine r_istore_n X 2 (L1 := [(2, .int 0), (0, .ref p), (1, .ref r61)]) dL_loads_198 rfl (by decide) rfl ?_
  obtain ⟨t82, g83, e84, E⟩ := cb_some E
  refine r_pick (by rfl : lpick [(2, .int 0), (0, .ref p), (1, .ref r61)] [1, 2, 0] = _) (t_l_loads_l199_r (Kc := 53) (Ks := 20804) X hl0 hr hnm hst (by decide) (by decide) _ _ _ _ _ e84 ?_ _ _ (by decide) (by decide))
  refine r_aload_n X 1 dL_loads_236 rfl rfl ?_
  refine r_bipush X (v := 59) dL_loads_237 (by decide) ?_
  obtain ⟨u88, e89, E⟩ := gb_some E
  obtain ⟨r85, g86, e87, E⟩ := cb_some E
  refine r_callV X hl0 (ci := 11) dL_loads_239 y_J4_append_cf468 m_L_200 rfl rfl e89 (t_j4_append_cf468 (l := l) (G := G) e87) rfl rfl (Nat.le_of_ble_eq_true rfl) (by decide) ?_
  refine r_pop X dL_loads_242 rfl ?_
  refine r_iconst X (v := 1) dL_loads_243 (by decide) ?_
  refine r_aload_n X 0 dL_loads_244 rfl rfl ?_
  refine r_bipush X (v := 7) dL_loads_245 (by decide) ?_
  obtain ⟨u93, e94, E⟩ := gb_some E
  obtain ⟨r90, g91, e92, E⟩ := cb_some E
  refine r_callV0 X hl0 (ci := 10) dL_loads_247 y_L_draw m_L_169 rfl rfl e94 (t_l_draw (l := l) hst (G := G) e92) rfl rfl (Nat.le_of_ble_eq_true rfl) (by decide) ?_
  refine r_iadd X dL_loads_250 ?_
  refine r_istore_n X 2 (L1 := [(2, .int (1 + r90)), (0, .ref p), (1, .ref r61)]) dL_loads_251 rfl (by decide) rfl ?_
  obtain ⟨t95, g96, e97, E⟩ := cb_some E
  refine r_pick (by rfl : lpick [(2, .int (1 + r90)), (0, .ref p), (1, .ref r61)] [1, 2, 0] = _) (t_l_loads_l252_r (Kc := 134) (Ks := 43780) X hl0 hr hnm hst (by decide) (by decide) _ _ _ _ _ e97 ?_ _ _ (by decide) (by decide))
  refine r_aload_n X 0 dL_loads_365 rfl rfl ?_
  refine r_aload_n X 1 dL_loads_366 rfl rfl ?_
  obtain ⟨u101, e102, E⟩ := gb_some E
  obtain ⟨r98, g99, e100, E⟩ := cb_some E
  refine r_callV X hl0 (ci := 11) dL_loads_367 y_J4_toString_0e30d m_L_231 rfl rfl e102 (t_j4_toString_0e30d (l := l) (G := G) e100) rfl rfl (Nat.le_of_ble_eq_true rfl) (by decide) ?_
  obtain ⟨u106, e107, E⟩ := gb_some E
  obtain ⟨r103, g104, e105, E⟩ := cb_some E
  refine r_callV X hl0 (ci := 10) dL_loads_370 y_L_lays m_L_235 rfl rfl e107 (t_l_lays (l := l) hst (G := G) e105) rfl rfl (Nat.le_of_ble_eq_true rfl) (by decide) ?_
  refine r_if_eq X 409 dL_loads_373 (by decide) (fun c108 => ?_) (fun c108 => ?_)
  · rw [if_pos c108] at E
    refine r_iconst X (v := 0) dL_loads_409 (by decide) ?_
    cases E
    exact r_zret X hr (Or.inl rfl) dL_loads_410 (by decide) (by decide)
  · rw [if_neg c108] at E
    refine r_aload_n X 0 dL_loads_376 rfl rfl ?_
    obtain ⟨x109, e110, E⟩ := gb_some E
    refine r_getR X dL_loads_377 f_L_10 e110 ?_
    obtain ⟨u114, e115, E⟩ := gb_some E
    obtain ⟨r111, g112, e113, E⟩ := cb_some E
    refine r_callV0 X hl0 (ci := 8) dL_loads_380 y_X8_loadSetup m_L_239 rfl rfl e115 (t_x8_loadSetup (l := l) (G := G) e113) rfl rfl (Nat.le_of_ble_eq_true rfl) (by decide) ?_
    refine r_aload_n X 0 dL_loads_383 rfl rfl ?_
    obtain ⟨x116, e117, E⟩ := gb_some E
    refine r_getR X dL_loads_384 f_L_19 e117 ?_
    obtain ⟨u121, e122, E⟩ := gb_some E
    obtain ⟨r118, g119, e120, E⟩ := cb_some E
    refine r_callV0 X hl0 (ci := 12) dL_loads_387 y_Jx4a65c_size_8abf5 m_L_210 rfl rfl e122 (t_jx4a65c_size_8abf5 (l := l) (G := G) e120) rfl rfl (Nat.le_of_ble_eq_true rfl) (by decide) ?_
    refine r_icmp_ne X 409 dL_loads_390 (by decide) (fun c123 => ?_) (fun c123 => ?_)
    · rw [if_neg c123] at E
      refine r_iconst X (v := 0) dL_loads_409 (by decide) ?_
      cases E
      exact r_zret X hr (Or.inl rfl) dL_loads_410 (by decide) (by decide)
    · rw [if_pos c123] at E
      refine r_aload_n X 0 dL_loads_393 rfl rfl ?_
      obtain ⟨x124, e125, E⟩ := gb_some E
      refine r_getR X dL_loads_394 f_L_10 e125 ?_
      obtain ⟨r126, g127, e128, E⟩ := cb_some E
      refine r_callW X hl0 dL_loads_397 y_L_back m_L_242 (t_l_back (l := l) hst (G := G) e128) rfl rfl (Nat.le_of_ble_eq_true rfl) (by decide) ?_
      refine r_bipush X (v := (-103)) dL_loads_400 (by decide) ?_
      refine r_icmp_ne X 409 dL_loads_402 (by decide) (fun c129 => ?_) (fun c129 => ?_)
      · rw [if_neg c129] at E
        refine r_iconst X (v := 0) dL_loads_409 (by decide) ?_
        cases E
        exact r_zret X hr (Or.inl rfl) dL_loads_410 (by decide) (by decide)
      · rw [if_pos c129] at E
        refine r_iconst X (v := 1) dL_loads_405 (by decide) ?_
        refine r_goto X 410 dL_loads_406 (by decide) ?_
        cases E
        exact r_zret X hr (Or.inr rfl) dL_loads_410 (by decide) (by decide)
theorem t_l_loads {l : Launch} (hst : l.stackTraces = false) {G : GG} {p : Nat} {g : AH} {r : Int32} {g1 : AH} (E : l_loads (GK G) p g = some (r, g1)) : Ct l G yL_loads cL_loads 4 (some .boolean) ⟨13, 266, 45358, 354⟩ [.ref p] g (some (.int r)) g1 :=
  ct_of (L0 := [(0, .ref p)]) y_L_loads rfl (Nat.le_of_ble_eq_true rfl) fun M hl0 X hr hnm => t_l_loads_b X hl0 hr hnm hst E
set_option maxHeartbeats 4000000 in
set_option maxRecDepth 100000 in
theorem t_l_in_j47_2 {l : Launch} {G : GG} {M : MC} (X : CX M G cL_in 3 RL ⟨4, 0, 0, 171⟩) (hl0 : M.2.1 = l) (hr : (mM M).sig.returnType = (some (.object "HutLedgerLaw$Hiker"))) (hnm : (mM M).name = yL_in.name) (hst : l.stackTraces = false) {Q : State → Prop} {kc ks : Nat} {s9 : ((Int32) ⊕ ((Unit) ⊕ Option Nat))} {g1 : AH} {a0 : Nat} {a1 : Int32} {a2 : Int32} (hc : ∀ s1, s9 = .inl s1 → WW M G 3 Q kc ks g1 2 [(0, .ref a0), (1, .int a1), (2, .int s1)] []) (hx : ∀ t, s9 = .inr t → Sum.elim (fun t1 => WW M G 3 Q kc ks g1 53 [] []) (fun t2 => ∃ mc ms : Nat, kc ≤ mc ∧ ks ≤ ms ∧ Q = RQ M G (some (va_rf (t2))) g1 mc ms) t) {g : AH} (E : l_in_j47_2 a0 a1 a2 g = some (s9, g1)) : WW M G 3 Q kc ks g 47 [(0, .ref a0), (1, .int a1), (2, .int a2)] [] := by
  unfold l_in_j47_2 at E
  refine r_iinc X (v := (a2 + 1)) (L1 := [(2, .int (a2 + 1)), (0, .ref a0), (1, .int a1)]) dL_in_47 rfl rfl (by decide) rfl ?_
  refine r_goto X 2 dL_in_50 (by decide) ?_
  cases E
  exact r_pick (by rfl : lpick [(2, .int (a2 + 1)), (0, .ref a0), (1, .int a1)] [1, 2, 0] = _) (hc _ rfl)
set_option maxHeartbeats 4000000 in
set_option maxRecDepth 100000 in
theorem t_l_in_l2 {l : Launch} {G : GG} {M : MC} (X : CX M G cL_in 3 RL ⟨4, 0, 0, 171⟩) (hl0 : M.2.1 = l) (hr : (mM M).sig.returnType = (some (.object "HutLedgerLaw$Hiker"))) (hnm : (mM M).name = yL_in.name) (hst : l.stackTraces = false) {Q : State → Prop} {kc ks : Nat} {s9 : ((Int32) ⊕ ((Unit) ⊕ Option Nat))} {g1 : AH} {a0 : Nat} {a1 : Int32} {s0 : Int32} (hc : ∀ s1, s9 = .inl s1 → WW M G 3 Q kc ks g1 2 [(0, .ref a0), (1, .int a1), (2, .int s1)] []) (hx : ∀ t, s9 = .inr t → Sum.elim (fun t1 => WW M G 3 Q kc ks g1 53 [] []) (fun t2 => ∃ mc ms : Nat, kc ≤ mc ∧ ks ≤ ms ∧ Q = RQ M G (some (va_rf (t2))) g1 mc ms) t) {g : AH} (E : l_in_l2 a0 a1 s0 g = some (s9, g1)) : WW M G 3 Q kc ks g 2 [(0, .ref a0), (1, .int a1), (2, .int s0)] [] := by
  unfold l_in_l2 at E
  refine r_iload_n X 2 dL_in_2 rfl rfl ?_
  refine r_aload_n X 0 dL_in_3 rfl rfl ?_
  obtain ⟨x1, e2, E⟩ := gb_some E
  refine r_getR X dL_in_4 f_L_19 e2 ?_
  obtain ⟨u6, e7, E⟩ := gb_some E
  obtain ⟨r3, g4, e5, E⟩ := cb_some E
  refine r_callV0 X hl0 (ci := 12) dL_in_7 y_Jx4a65c_size_8abf5 m_L_210 rfl rfl e7 (t_jx4a65c_size_8abf5 (l := l) (G := G) e5) rfl rfl (Nat.le_of_ble_eq_true rfl) (by decide) ?_
  refine r_icmp_ge X 53 dL_in_10 (by decide) (fun c8 => ?_) (fun c8 => ?_)
  · rw [if_pos c8] at E
    cases E
    exact r_pick (by rfl : lpick [(0, .ref a0), (1, .int a1), (2, .int s0)] [] = _) (hx _ rfl)
  · rw [if_neg c8] at E
    refine r_iload_n X 1 dL_in_13 rfl rfl ?_
    refine r_if_lt X 47 dL_in_14 (by decide) (fun c9 => ?_) (fun c9 => ?_)
    · rw [if_pos c9] at E
      exact r_pick (by rfl : lpick [(0, .ref a0), (1, .int a1), (2, .int s0)] [0, 1, 2] = _) (t_l_in_j47_2 X hl0 hr hnm hst hc hx E)
    · rw [if_neg c9] at E
      refine r_aload_n X 0 dL_in_17 rfl rfl ?_
      obtain ⟨x10, e11, E⟩ := gb_some E
      refine r_getR X dL_in_18 f_L_19 e11 ?_
      refine r_iload_n X 2 dL_in_21 rfl rfl ?_
      obtain ⟨u15, e16, E⟩ := gb_some E
      obtain ⟨r12, g13, e14, E⟩ := cb_some E
      refine r_callV0 X hl0 (ci := 12) dL_in_22 y_Jx4a65c_get_915e3 m_L_246 rfl rfl e16 (t_jx4a65c_get_915e3 (l := l) (G := G) e14) rfl rfl (Nat.le_of_ble_eq_true rfl) (by decide) ?_
      obtain ⟨u17, e18, E⟩ := gb_some E
      refine r_cast X (ci := 9) dL_in_25 rfl k_L_207 e18 ?_
      obtain ⟨x19, e20, E⟩ := gb_some E
      refine r_getIN X (k := 5) dL_in_28 (List.mem_of_getElem? (i := 4) rfl) rfl (by decide) e20 ?_
      refine r_iload_n X 1 dL_in_31 rfl rfl ?_
      refine r_icmp_ne X 47 dL_in_32 (by decide) (fun c21 => ?_) (fun c21 => ?_)
      · rw [if_neg c21] at E
        exact r_pick (by rfl : lpick [(0, .ref a0), (1, .int a1), (2, .int s0)] [0, 1, 2] = _) (t_l_in_j47_2 X hl0 hr hnm hst hc hx E)
      · rw [if_pos c21] at E
        refine r_aload_n X 0 dL_in_35 rfl rfl ?_
        obtain ⟨x22, e23, E⟩ := gb_some E
        refine r_getR X dL_in_36 f_L_19 e23 ?_
        refine r_iload_n X 2 dL_in_39 rfl rfl ?_
        obtain ⟨u27, e28, E⟩ := gb_some E
        obtain ⟨r24, g25, e26, E⟩ := cb_some E
        refine r_callV0 X hl0 (ci := 12) dL_in_40 y_Jx4a65c_get_915e3 m_L_246 rfl rfl e28 (t_jx4a65c_get_915e3 (l := l) (G := G) e26) rfl rfl (Nat.le_of_ble_eq_true rfl) (by decide) ?_
        obtain ⟨u29, e30, E⟩ := gb_some E
        refine r_cast X (ci := 9) dL_in_43 rfl k_L_207 e30 ?_
        cases E
        obtain ⟨mc9, ms9, h91, h92, rfl⟩ := hx _ rfl
        exact r_qret X hr (Or.inl ⟨_, rfl⟩) dL_in_46 h91 h92
set_option maxHeartbeats 4000000 in
theorem t_l_in_l2_r {l : Launch} {G : GG} {M : MC} (X : CX M G cL_in 3 RL ⟨4, 0, 0, 171⟩) (hl0 : M.2.1 = l) (hr : (mM M).sig.returnType = (some (.object "HutLedgerLaw$Hiker"))) (hnm : (mM M).name = yL_in.name) (hst : l.stackTraces = false) {Q : State → Prop} {kc ks : Nat} {a0 : Nat} {a1 : Int32} : ∀ (n : Nat) (s0 : Int32) (g : AH) (t : ((Unit) ⊕ Option Nat)) (g1 : AH), loopX (l_in_l2 a0 a1) n s0 g = some (t, g1) → Sum.elim (fun t1 => WW M G 3 Q kc ks g1 53 [] []) (fun t2 => ∃ mc ms : Nat, kc ≤ mc ∧ ks ≤ ms ∧ Q = RQ M G (some (va_rf (t2))) g1 mc ms) t → WW M G 3 Q kc ks g 2 [(0, .ref a0), (1, .int a1), (2, .int s0)] [] :=
  loop_cps (K := fun (t : ((Unit) ⊕ Option Nat)) g1 => Sum.elim (fun t1 => WW M G 3 Q kc ks g1 53 [] []) (fun t2 => ∃ mc ms : Nat, kc ≤ mc ∧ ks ≤ ms ∧ Q = RQ M G (some (va_rf (t2))) g1 mc ms) t) (fun _ (s0 : Int32) g => WW M G 3 Q kc ks g 2 [(0, .ref a0), (1, .int a1), (2, .int s0)] []) (fun n s0 g st g1 E hc hx => t_l_in_l2 X hl0 hr hnm hst hc hx E)
set_option maxHeartbeats 4000000 in
set_option maxRecDepth 100000 in
theorem t_l_in_b {l : Launch} {G : GG} {M : MC} (X : CX M G cL_in 3 RL ⟨4, 0, 0, 171⟩) (hl0 : M.2.1 = l) (hr : (mM M).sig.returnType = (some (.object "HutLedgerLaw$Hiker"))) (hnm : (mM M).name = yL_in.name) (hst : l.stackTraces = false) {p : Nat} {b0 : Int32} {g : AH} {r : Option Nat} {g1 : AH} (E : l_in p b0 g = some (r, g1)) : WW M G 3 (RQ M G (some (va_rf (r))) g1 0 0) 0 0 g 0 [(0, .ref p), (1, .int b0)] [] := by
  unfold l_in at E
  refine r_iconst X (v := 0) dL_in_0 (by decide) ?_
  refine r_istore_n X 2 (L1 := [(2, .int 0), (0, .ref p), (1, .int b0)]) dL_in_1 rfl (by decide) rfl ?_
  obtain ⟨t1, g2, e3, E⟩ := cb_some E
  rcases t1 with t4 | t5
  · rw [Sum.elim_inl] at E
    refine r_pick (by rfl : lpick [(2, .int 0), (0, .ref p), (1, .int b0)] [1, 2, 0] = _) (t_l_in_l2_r X hl0 hr hnm hst _ _ _ _ _ e3 ?_)
    refine r_null X dL_in_53 ?_
    cases E
    exact r_qret X hr (Or.inl ⟨_, rfl⟩) dL_in_54 (by decide) (by decide)
  · rw [Sum.elim_inr] at E
    cases E
    exact r_pick (by rfl : lpick [(2, .int 0), (0, .ref p), (1, .int b0)] [1, 2, 0] = _) (t_l_in_l2_r X hl0 hr hnm hst _ _ _ _ _ e3 ⟨_, _, by decide, by decide, rfl⟩)
theorem t_l_in {l : Launch} (hst : l.stackTraces = false) {G : GG} {p : Nat} {b0 : Int32} {g : AH} {r : Option Nat} {g1 : AH} (E : l_in p b0 g = some (r, g1)) : Ct l G yL_in cL_in 3 (some (.object "HutLedgerLaw$Hiker")) ⟨4, 0, 0, 171⟩ [.ref p, .int b0] g (some (va_rf (r))) g1 :=
  ct_of (L0 := [(0, .ref p), (1, .int b0)]) y_L_in rfl (Nat.le_of_ble_eq_true rfl) fun M hl0 X hr hnm => t_l_in_b X hl0 hr hnm hst E
set_option maxHeartbeats 4000000 in
set_option maxRecDepth 100000 in
theorem t_l_warm_j79 {l : Launch} {G : GG} {M : MC} (X : CX M G cL_warm 3 RL ⟨5, 0, 0, 193⟩) (hl0 : M.2.1 = l) (hr : (mM M).sig.returnType = (some .int)) (hnm : (mM M).name = yL_warm.name) (hst : l.stackTraces = false) {a0 : Nat} {a1 : Nat} {s0 : Int32} {s1 : Int32} {g : AH} {r : Int32} {g1 : AH} (E : l_warm_j79 a0 a1 s0 s1 g = some (r, g1)) : WW M G 3 (RQ M G (some (.int r)) g1 0 0) 0 0 g 79 [(0, .ref a0), (1, .ref a1)] [.int s0, .int s1] := by
  unfold l_warm_j79 at E
  refine r_iadd X dL_warm_79 ?_
  refine r_aload_n X 0 dL_warm_80 rfl rfl ?_
  refine r_aload_n X 1 dL_warm_81 rfl rfl ?_
  obtain ⟨x1, e2, E⟩ := gb_some E
  refine r_getIN X (k := 5) dL_warm_82 (List.mem_of_getElem? (i := 4) rfl) rfl (by decide) e2 ?_
  refine r_iconst X (v := 1) dL_warm_85 (by decide) ?_
  refine r_iadd X dL_warm_86 ?_
  obtain ⟨u6, e7, E⟩ := gb_some E
  obtain ⟨r3, g4, e5, E⟩ := cb_some E
  refine r_callV0 X hl0 (ci := 10) dL_warm_87 y_L_in m_L_256 rfl rfl e7 (t_l_in (l := l) hst (G := G) e5) rfl rfl (Nat.le_of_ble_eq_true rfl) (by decide) ?_
  rcases r3 with _ | y8
  · rw [nb_none] at E
    refine r_ifnonnull0 X dL_warm_90 ?_
    refine r_iconst X (v := 0) dL_warm_93 (by decide) ?_
    refine r_goto X 98 dL_warm_94 (by decide) ?_
    refine r_iadd X dL_warm_98 ?_
    cases E
    exact r_iret X hr dL_warm_99 (by decide) (by decide)
  · rw [nb_some] at E
    refine r_ifnonnull1 X 97 dL_warm_90 (by decide) ?_
    refine r_iconst X (v := 1) dL_warm_97 (by decide) ?_
    refine r_iadd X dL_warm_98 ?_
    cases E
    exact r_iret X hr dL_warm_99 (by decide) (by decide)
set_option maxHeartbeats 4000000 in
set_option maxRecDepth 100000 in
theorem t_l_warm_j39 {l : Launch} {G : GG} {M : MC} (X : CX M G cL_warm 3 RL ⟨5, 0, 0, 193⟩) (hl0 : M.2.1 = l) (hr : (mM M).sig.returnType = (some .int)) (hnm : (mM M).name = yL_warm.name) (hst : l.stackTraces = false) {a0 : Nat} {a1 : Nat} {s0 : Int32} {s1 : Int32} {g : AH} {r : Int32} {g1 : AH} (E : l_warm_j39 a0 a1 s0 s1 g = some (r, g1)) : WW M G 3 (RQ M G (some (.int r)) g1 0 0) 0 0 g 39 [(0, .ref a0), (1, .ref a1)] [.int s0, .int s1] := by
  unfold l_warm_j39 at E
  refine r_iadd X dL_warm_39 ?_
  refine r_istore_n X 2 (L1 := [(2, .int (s1 + s0)), (0, .ref a0), (1, .ref a1)]) dL_warm_40 rfl (by decide) rfl ?_
  refine r_aload_n X 1 dL_warm_41 rfl rfl ?_
  obtain ⟨x1, e2, E⟩ := gb_some E
  refine r_getIN X (k := 5) dL_warm_42 (List.mem_of_getElem? (i := 4) rfl) rfl (by decide) e2 ?_
  refine r_if_ge X 50 dL_warm_45 (by decide) (fun c3 => ?_) (fun c3 => ?_)
  · rw [if_pos c3] at E
    refine r_iload_n X 2 dL_warm_50 rfl rfl ?_
    refine r_aload_n X 0 dL_warm_51 rfl rfl ?_
    obtain ⟨x4, e5, E⟩ := gb_some E
    refine r_getR X dL_warm_52 f_L_23 e5 ?_
    refine r_aload_n X 1 dL_warm_55 rfl rfl ?_
    obtain ⟨x6, e7, E⟩ := gb_some E
    refine r_getIN X (k := 5) dL_warm_56 (List.mem_of_getElem? (i := 4) rfl) rfl (by decide) e7 ?_
    obtain ⟨x8, e9, E⟩ := gb_some E
    refine r_iald X dL_warm_59 e9 ?_
    refine r_iadd X dL_warm_60 ?_
    refine r_aload_n X 0 dL_warm_61 rfl rfl ?_
    refine r_aload_n X 1 dL_warm_62 rfl rfl ?_
    obtain ⟨x10, e11, E⟩ := gb_some E
    refine r_getIN X (k := 5) dL_warm_63 (List.mem_of_getElem? (i := 4) rfl) rfl (by decide) e11 ?_
    refine r_iconst X (v := 1) dL_warm_66 (by decide) ?_
    refine r_isub X dL_warm_67 ?_
    obtain ⟨u15, e16, E⟩ := gb_some E
    obtain ⟨r12, g13, e14, E⟩ := cb_some E
    refine r_callV0 X hl0 (ci := 10) dL_warm_68 y_L_in m_L_256 rfl rfl e16 (t_l_in (l := l) hst (G := G) e14) rfl rfl (Nat.le_of_ble_eq_true rfl) (by decide) ?_
    rcases r12 with _ | y17
    · rw [nb_none] at E
      refine r_ifnonnull0 X dL_warm_71 ?_
      refine r_iconst X (v := 0) dL_warm_74 (by decide) ?_
      refine r_goto X 79 dL_warm_75 (by decide) ?_
      exact r_pick (by rfl : lpick [(2, .int (s1 + s0)), (0, .ref a0), (1, .ref a1)] [1, 2] = _) (t_l_warm_j79 X hl0 hr hnm hst E)
    · rw [nb_some] at E
      refine r_ifnonnull1 X 78 dL_warm_71 (by decide) ?_
      refine r_iconst X (v := 1) dL_warm_78 (by decide) ?_
      exact r_pick (by rfl : lpick [(2, .int (s1 + s0)), (0, .ref a0), (1, .ref a1)] [1, 2] = _) (t_l_warm_j79 X hl0 hr hnm hst E)
  · rw [if_neg c3] at E
    refine r_iload_n X 2 dL_warm_48 rfl rfl ?_
    cases E
    exact r_iret X hr dL_warm_49 (by decide) (by decide)
set_option maxHeartbeats 4000000 in
set_option maxRecDepth 100000 in
theorem t_l_warm_b {l : Launch} {G : GG} {M : MC} (X : CX M G cL_warm 3 RL ⟨5, 0, 0, 193⟩) (hl0 : M.2.1 = l) (hr : (mM M).sig.returnType = (some .int)) (hnm : (mM M).name = yL_warm.name) (hst : l.stackTraces = false) {p : Nat} {b0 : Nat} {g : AH} {r : Int32} {g1 : AH} (E : l_warm p b0 g = some (r, g1)) : WW M G 3 (RQ M G (some (.int r)) g1 0 0) 0 0 g 0 [(0, .ref p), (1, .ref b0)] [] := by
  unfold l_warm at E
  refine r_aload_n X 0 dL_warm_0 rfl rfl ?_
  obtain ⟨x1, e2, E⟩ := gb_some E
  refine r_getR X dL_warm_1 f_L_30 e2 ?_
  refine r_aload_n X 0 dL_warm_4 rfl rfl ?_
  obtain ⟨x3, e4, E⟩ := gb_some E
  refine r_getI X dL_warm_5 f_L_160 e4 ?_
  refine r_aload_n X 0 dL_warm_8 rfl rfl ?_
  obtain ⟨x5, e6, E⟩ := gb_some E
  refine r_getI X dL_warm_9 f_L_181 e6 ?_
  by_cases c7 : x5 = 0
  · rw [if_pos c7] at E; cases E
  rw [if_neg c7] at E
  refine r_irem X dL_warm_12 c7 ?_
  obtain ⟨x8, e9, E⟩ := gb_some E
  refine r_iald X dL_warm_13 e9 ?_
  refine r_aload_n X 0 dL_warm_14 rfl rfl ?_
  obtain ⟨x10, e11, E⟩ := gb_some E
  refine r_getI X dL_warm_15 f_L_163 e11 ?_
  refine r_iadd X dL_warm_18 ?_
  refine r_aload_n X 1 dL_warm_19 rfl rfl ?_
  obtain ⟨x12, e13, E⟩ := gb_some E
  refine r_getIN X (k := 6) dL_warm_20 (List.mem_of_getElem? (i := 5) rfl) rfl (by decide) e13 ?_
  refine r_if_ge X 30 dL_warm_23 (by decide) (fun c14 => ?_) (fun c14 => ?_)
  · rw [if_pos c14] at E
    refine r_aload_n X 0 dL_warm_30 rfl rfl ?_
    obtain ⟨x15, e16, E⟩ := gb_some E
    refine r_getR X dL_warm_31 f_L_27 e16 ?_
    refine r_aload_n X 1 dL_warm_34 rfl rfl ?_
    obtain ⟨x17, e18, E⟩ := gb_some E
    refine r_getIN X (k := 6) dL_warm_35 (List.mem_of_getElem? (i := 5) rfl) rfl (by decide) e18 ?_
    obtain ⟨x19, e20, E⟩ := gb_some E
    refine r_iald X dL_warm_38 e20 ?_
    exact r_pick (by rfl : lpick [(0, .ref p), (1, .ref b0)] [0, 1] = _) (t_l_warm_j39 X hl0 hr hnm hst E)
  · rw [if_neg c14] at E
    refine r_iconst X (v := 0) dL_warm_26 (by decide) ?_
    refine r_goto X 39 dL_warm_27 (by decide) ?_
    exact r_pick (by rfl : lpick [(0, .ref p), (1, .ref b0)] [0, 1] = _) (t_l_warm_j39 X hl0 hr hnm hst E)
theorem t_l_warm {l : Launch} (hst : l.stackTraces = false) {G : GG} {p : Nat} {b0 : Nat} {g : AH} {r : Int32} {g1 : AH} (E : l_warm p b0 g = some (r, g1)) : Ct l G yL_warm cL_warm 3 (some .int) ⟨5, 0, 0, 193⟩ [.ref p, .ref b0] g (some (.int r)) g1 :=
  ct_of (L0 := [(0, .ref p), (1, .ref b0)]) y_L_warm rfl (Nat.le_of_ble_eq_true rfl) fun M hl0 X hr hnm => t_l_warm_b X hl0 hr hnm hst E
set_option maxHeartbeats 4000000 in
set_option maxRecDepth 100000 in
theorem t_l_isCold_b {l : Launch} {G : GG} {M : MC} (X : CX M G cL_isCold 2 RL ⟨6, 0, 0, 215⟩) (hl0 : M.2.1 = l) (hr : (mM M).sig.returnType = (some .boolean)) (hnm : (mM M).name = yL_isCold.name) (hst : l.stackTraces = false) {p : Nat} {b0 : Nat} {g : AH} {r : Int32} {g1 : AH} (E : l_isCold p b0 g = some (r, g1)) : WW M G 2 (RQ M G (some (.int r)) g1 0 0) 0 0 g 0 [(0, .ref p), (1, .ref b0)] [] := by
  unfold l_isCold at E
  refine r_aload_n X 0 dL_isCold_0 rfl rfl ?_
  refine r_aload_n X 1 dL_isCold_1 rfl rfl ?_
  obtain ⟨u4, e5, E⟩ := gb_some E
  obtain ⟨r1, g2, e3, E⟩ := cb_some E
  refine r_callV0 X hl0 (ci := 10) dL_isCold_2 y_L_warm m_L_260 rfl rfl e5 (t_l_warm (l := l) hst (G := G) e3) rfl rfl (Nat.le_of_ble_eq_true rfl) (by decide) ?_
  refine r_aload_n X 1 dL_isCold_5 rfl rfl ?_
  obtain ⟨x6, e7, E⟩ := gb_some E
  refine r_getIN X (k := 1) dL_isCold_6 (List.mem_of_getElem? (i := 1) rfl) rfl (by decide) e7 ?_
  refine r_icmp_ge X 16 dL_isCold_9 (by decide) (fun c8 => ?_) (fun c8 => ?_)
  · rw [if_pos c8] at E
    refine r_iconst X (v := 0) dL_isCold_16 (by decide) ?_
    cases E
    exact r_zret X hr (Or.inl rfl) dL_isCold_17 (by decide) (by decide)
  · rw [if_neg c8] at E
    refine r_iconst X (v := 1) dL_isCold_12 (by decide) ?_
    refine r_goto X 17 dL_isCold_13 (by decide) ?_
    cases E
    exact r_zret X hr (Or.inr rfl) dL_isCold_17 (by decide) (by decide)
theorem t_l_isCold {l : Launch} (hst : l.stackTraces = false) {G : GG} {p : Nat} {b0 : Nat} {g : AH} {r : Int32} {g1 : AH} (E : l_isCold p b0 g = some (r, g1)) : Ct l G yL_isCold cL_isCold 2 (some .boolean) ⟨6, 0, 0, 215⟩ [.ref p, .ref b0] g (some (.int r)) g1 :=
  ct_of (L0 := [(0, .ref p), (1, .ref b0)]) y_L_isCold rfl (Nat.le_of_ble_eq_true rfl) fun M hl0 X hr hnm => t_l_isCold_b X hl0 hr hnm hst E
set_option maxHeartbeats 4000000 in
set_option maxRecDepth 100000 in
theorem t_l_loud_j18 {l : Launch} {G : GG} {M : MC} (X : CX M G cL_loud 3 RL ⟨7, 0, 0, 236⟩) (hl0 : M.2.1 = l) (hr : (mM M).sig.returnType = (some .int)) (hnm : (mM M).name = yL_loud.name) (hst : l.stackTraces = false)  {g : AH} {r : Int32} {g1 : AH} (E : l_loud_j18  g = some (r, g1)) : WW M G 3 (RQ M G (some (.int r)) g1 0 0) 0 0 g 18 [] [] := by
  unfold l_loud_j18 at E
  refine r_iconst X (v := 0) dL_loud_18 (by decide) ?_
  refine r_goto X 26 dL_loud_19 (by decide) ?_
  cases E
  exact r_iret X hr dL_loud_26 (by decide) (by decide)
set_option maxHeartbeats 4000000 in
set_option maxRecDepth 100000 in
theorem t_l_loud_b {l : Launch} {G : GG} {M : MC} (X : CX M G cL_loud 3 RL ⟨7, 0, 0, 236⟩) (hl0 : M.2.1 = l) (hr : (mM M).sig.returnType = (some .int)) (hnm : (mM M).name = yL_loud.name) (hst : l.stackTraces = false) {p : Nat} {b0 : Int32} {g : AH} {r : Int32} {g1 : AH} (E : l_loud p b0 g = some (r, g1)) : WW M G 3 (RQ M G (some (.int r)) g1 0 0) 0 0 g 0 [(0, .ref p), (1, .int b0)] [] := by
  unfold l_loud at E
  refine r_aload_n X 0 dL_loud_0 rfl rfl ?_
  refine r_iload_n X 1 dL_loud_1 rfl rfl ?_
  obtain ⟨u4, e5, E⟩ := gb_some E
  obtain ⟨r1, g2, e3, E⟩ := cb_some E
  refine r_callV0 X hl0 (ci := 10) dL_loud_2 y_L_in m_L_256 rfl rfl e5 (t_l_in (l := l) hst (G := G) e3) rfl rfl (Nat.le_of_ble_eq_true rfl) (by decide) ?_
  refine r_astoreQ_n X 2 (L1 := [(2, va_rf (r1)), (0, .ref p), (1, .int b0)]) dL_loud_5 rfl (by decide) rfl ?_
  refine r_aloadQ_n X 2 dL_loud_6 rfl rfl ?_
  rcases r1 with _ | y6
  · rw [nb_none] at E
    refine r_ifnull0 X 18 dL_loud_7 (by decide) ?_
    exact r_pick (by rfl : lpick [(2, va_rf (none)), (0, .ref p), (1, .int b0)] [] = _) (t_l_loud_j18 X hl0 hr hnm hst E)
  · rw [nb_some] at E
    refine r_ifnull1 X dL_loud_7 ?_
    refine r_aload_n X 0 dL_loud_10 rfl rfl ?_
    refine r_aload_n X 2 dL_loud_11 rfl rfl ?_
    obtain ⟨u10, e11, E⟩ := gb_some E
    obtain ⟨r7, g8, e9, E⟩ := cb_some E
    refine r_callV0 X hl0 (ci := 10) dL_loud_12 y_L_isCold m_L_264 rfl rfl e11 (t_l_isCold (l := l) hst (G := G) e9) rfl rfl (Nat.le_of_ble_eq_true rfl) (by decide) ?_
    refine r_if_eq X 22 dL_loud_15 (by decide) (fun c12 => ?_) (fun c12 => ?_)
    · rw [if_pos c12] at E
      refine r_aload_n X 2 dL_loud_22 rfl rfl ?_
      obtain ⟨x13, e14, E⟩ := gb_some E
      refine r_getIN X (k := 2) dL_loud_23 (List.mem_of_getElem? (i := 2) rfl) rfl (by decide) e14 ?_
      cases E
      exact r_iret X hr dL_loud_26 (by decide) (by decide)
    · rw [if_neg c12] at E
      exact r_pick (by rfl : lpick [(2, .ref y6), (0, .ref p), (1, .int b0)] [] = _) (t_l_loud_j18 X hl0 hr hnm hst E)
theorem t_l_loud {l : Launch} (hst : l.stackTraces = false) {G : GG} {p : Nat} {b0 : Int32} {g : AH} {r : Int32} {g1 : AH} (E : l_loud p b0 g = some (r, g1)) : Ct l G yL_loud cL_loud 3 (some .int) ⟨7, 0, 0, 236⟩ [.ref p, .int b0] g (some (.int r)) g1 :=
  ct_of (L0 := [(0, .ref p), (1, .int b0)]) y_L_loud rfl (Nat.le_of_ble_eq_true rfl) fun M hl0 X hr hnm => t_l_loud_b X hl0 hr hnm hst E
set_option maxHeartbeats 4000000 in
set_option maxRecDepth 100000 in
theorem t_l_noise_b {l : Launch} {G : GG} {M : MC} (X : CX M G cL_noise 3 RL ⟨8, 0, 0, 258⟩) (hl0 : M.2.1 = l) (hr : (mM M).sig.returnType = (some .int)) (hnm : (mM M).name = yL_noise.name) (hst : l.stackTraces = false) {p : Nat} {b0 : Int32} {g : AH} {r : Int32} {g1 : AH} (E : l_noise p b0 g = some (r, g1)) : WW M G 3 (RQ M G (some (.int r)) g1 0 0) 0 0 g 0 [(0, .ref p), (1, .int b0)] [] := by
  unfold l_noise at E
  refine r_aload_n X 0 dL_noise_0 rfl rfl ?_
  refine r_iload_n X 1 dL_noise_1 rfl rfl ?_
  refine r_iconst X (v := 2) dL_noise_2 (by decide) ?_
  refine r_isub X dL_noise_3 ?_
  obtain ⟨u4, e5, E⟩ := gb_some E
  obtain ⟨r1, g2, e3, E⟩ := cb_some E
  refine r_callV0 X hl0 (ci := 10) dL_noise_4 y_L_loud m_L_268 rfl rfl e5 (t_l_loud (l := l) hst (G := G) e3) rfl rfl (Nat.le_of_ble_eq_true rfl) (by decide) ?_
  refine r_aload_n X 0 dL_noise_7 rfl rfl ?_
  refine r_iload_n X 1 dL_noise_8 rfl rfl ?_
  refine r_iconst X (v := 2) dL_noise_9 (by decide) ?_
  refine r_iadd X dL_noise_10 ?_
  obtain ⟨u9, e10, E⟩ := gb_some E
  obtain ⟨r6, g7, e8, E⟩ := cb_some E
  refine r_callV0 X hl0 (ci := 10) dL_noise_11 y_L_loud m_L_268 rfl rfl e10 (t_l_loud (l := l) hst (G := G) e8) rfl rfl (Nat.le_of_ble_eq_true rfl) (by decide) ?_
  refine r_iadd X dL_noise_14 ?_
  refine r_istore_n X 2 (L1 := [(2, .int (r1 + r6)), (0, .ref p), (1, .int b0)]) dL_noise_15 rfl (by decide) rfl ?_
  refine r_aload_n X 0 dL_noise_16 rfl rfl ?_
  refine r_iload_n X 1 dL_noise_17 rfl rfl ?_
  refine r_iconst X (v := 1) dL_noise_18 (by decide) ?_
  refine r_isub X dL_noise_19 ?_
  obtain ⟨u14, e15, E⟩ := gb_some E
  obtain ⟨r11, g12, e13, E⟩ := cb_some E
  refine r_callV0 X hl0 (ci := 10) dL_noise_20 y_L_loud m_L_268 rfl rfl e15 (t_l_loud (l := l) hst (G := G) e13) rfl rfl (Nat.le_of_ble_eq_true rfl) (by decide) ?_
  refine r_aload_n X 0 dL_noise_23 rfl rfl ?_
  refine r_iload_n X 1 dL_noise_24 rfl rfl ?_
  refine r_iconst X (v := 1) dL_noise_25 (by decide) ?_
  refine r_iadd X dL_noise_26 ?_
  obtain ⟨u19, e20, E⟩ := gb_some E
  obtain ⟨r16, g17, e18, E⟩ := cb_some E
  refine r_callV0 X hl0 (ci := 10) dL_noise_27 y_L_loud m_L_268 rfl rfl e20 (t_l_loud (l := l) hst (G := G) e18) rfl rfl (Nat.le_of_ble_eq_true rfl) (by decide) ?_
  refine r_iadd X dL_noise_30 ?_
  refine r_iload_n X 2 dL_noise_31 rfl rfl ?_
  refine r_iconst X (v := 2) dL_noise_32 (by decide) ?_
  refine r_idiv X dL_noise_33 (by decide) ?_
  refine r_iadd X dL_noise_34 ?_
  cases E
  exact r_iret X hr dL_noise_35 (by decide) (by decide)
theorem t_l_noise {l : Launch} (hst : l.stackTraces = false) {G : GG} {p : Nat} {b0 : Int32} {g : AH} {r : Int32} {g1 : AH} (E : l_noise p b0 g = some (r, g1)) : Ct l G yL_noise cL_noise 3 (some .int) ⟨8, 0, 0, 258⟩ [.ref p, .int b0] g (some (.int r)) g1 :=
  ct_of (L0 := [(0, .ref p), (1, .int b0)]) y_L_noise rfl (Nat.le_of_ble_eq_true rfl) fun M hl0 X hr hnm => t_l_noise_b X hl0 hr hnm hst E
set_option maxHeartbeats 4000000 in
set_option maxRecDepth 100000 in
theorem t_l_does_b {l : Launch} {G : GG} {M : MC} (X : CX M G cL_does 2 RL ⟨9, 0, 0, 280⟩) (hl0 : M.2.1 = l) (hr : (mM M).sig.returnType = (some .int)) (hnm : (mM M).name = yL_does.name) (hst : l.stackTraces = false) {p : Nat} {b0 : Nat} {g : AH} {r : Int32} {g1 : AH} (E : l_does p b0 g = some (r, g1)) : WW M G 2 (RQ M G (some (.int r)) g1 0 0) 0 0 g 0 [(0, .ref p), (1, .ref b0)] [] := by
  unfold l_does at E
  refine r_aload_n X 0 dL_does_0 rfl rfl ?_
  refine r_aload_n X 1 dL_does_1 rfl rfl ?_
  obtain ⟨u4, e5, E⟩ := gb_some E
  obtain ⟨r1, g2, e3, E⟩ := cb_some E
  refine r_callV0 X hl0 (ci := 10) dL_does_2 y_L_isCold m_L_264 rfl rfl e5 (t_l_isCold (l := l) hst (G := G) e3) rfl rfl (Nat.le_of_ble_eq_true rfl) (by decide) ?_
  refine r_if_eq X 12 dL_does_5 (by decide) (fun c6 => ?_) (fun c6 => ?_)
  · rw [if_pos c6] at E
    refine r_aload_n X 1 dL_does_12 rfl rfl ?_
    obtain ⟨x7, e8, E⟩ := gb_some E
    refine r_getIN X (k := 5) dL_does_13 (List.mem_of_getElem? (i := 4) rfl) rfl (by decide) e8 ?_
    refine r_if_ge X 23 dL_does_16 (by decide) (fun c9 => ?_) (fun c9 => ?_)
    · rw [if_pos c9] at E
      refine r_aload_n X 0 dL_does_23 rfl rfl ?_
      refine r_aload_n X 1 dL_does_24 rfl rfl ?_
      obtain ⟨x10, e11, E⟩ := gb_some E
      refine r_getIN X (k := 5) dL_does_25 (List.mem_of_getElem? (i := 4) rfl) rfl (by decide) e11 ?_
      obtain ⟨u15, e16, E⟩ := gb_some E
      obtain ⟨r12, g13, e14, E⟩ := cb_some E
      refine r_callV0 X hl0 (ci := 10) dL_does_28 y_L_noise m_L_271 rfl rfl e16 (t_l_noise (l := l) hst (G := G) e14) rfl rfl (Nat.le_of_ble_eq_true rfl) (by decide) ?_
      refine r_bipush X (v := 6) dL_does_31 (by decide) ?_
      refine r_icmp_le X 40 dL_does_33 (by decide) (fun c17 => ?_) (fun c17 => ?_)
      · rw [if_pos c17] at E
        refine r_iconst X (v := 2) dL_does_40 (by decide) ?_
        cases E
        exact r_iret X hr dL_does_41 (by decide) (by decide)
      · rw [if_neg c17] at E
        refine r_iconst X (v := 1) dL_does_36 (by decide) ?_
        refine r_goto X 41 dL_does_37 (by decide) ?_
        cases E
        exact r_iret X hr dL_does_41 (by decide) (by decide)
    · rw [if_neg c9] at E
      refine r_iconst X (v := 3) dL_does_19 (by decide) ?_
      refine r_goto X 41 dL_does_20 (by decide) ?_
      cases E
      exact r_iret X hr dL_does_41 (by decide) (by decide)
  · rw [if_neg c6] at E
    refine r_iconst X (v := 0) dL_does_8 (by decide) ?_
    refine r_goto X 41 dL_does_9 (by decide) ?_
    cases E
    exact r_iret X hr dL_does_41 (by decide) (by decide)
theorem t_l_does {l : Launch} (hst : l.stackTraces = false) {G : GG} {p : Nat} {b0 : Nat} {g : AH} {r : Int32} {g1 : AH} (E : l_does p b0 g = some (r, g1)) : Ct l G yL_does cL_does 2 (some .int) ⟨9, 0, 0, 280⟩ [.ref p, .ref b0] g (some (.int r)) g1 :=
  ct_of (L0 := [(0, .ref p), (1, .ref b0)]) y_L_does rfl (Nat.le_of_ble_eq_true rfl) fun M hl0 X hr hnm => t_l_does_b X hl0 hr hnm hst E
