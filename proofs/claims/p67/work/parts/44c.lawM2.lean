/-! functions and contracts, by program: passes, act, <init> -/
def l_passes_l69 (a0 : Nat) (s0 : Int32) (g : AH) : Option (((Int32) ⊕ (Unit)) × AH) :=
  gb (getR 10 g a0 3) fun x1 => gb (isO 12 g x1) fun _ => cb (jx4a65c_size_8abf5 x1 g) fun r3 g4 => if r3 ≤ s0 then
  some (.inr (), g4)
  else
  gb (getR 10 g4 a0 3) fun x9 => gb (isO 12 g4 x9) fun _ => cb (jx4a65c_get_915e3 x9 s0 g4) fun r11 g12 => gb (isO 9 g12 r11) fun u16 => gb (getR 9 g12 r11 7) fun x18 => gb (getR 10 g12 a0 3) fun x20 => gb (isO 12 g12 x20) fun _ => cb (jx4a65c_get_915e3 x20 s0 g12) fun r22 g23 => gb (isO 9 g23 r22) fun u27 => gb (isO 10 g23 a0) fun _ => cb (l_does a0 r22 g23) fun r29 g30 => gb (aldI 0 g30 x18 r29) fun x34 => gb (astI 0 g30 x18 r29 (x34 + 1)) fun g36 => some (.inl (s0 + 1), g36)
def l_passes_j22 (a0 : Nat) (s0 : Int32) (g : AH) : Option (Unit × AH) :=
  gb (getI 10 g a0 10) fun x1 => gb (putV 10 g a0 10 (.int (x1 - s0))) fun g3 => gb (getI 10 g3 a0 14) fun x5 => gb (putV 10 g3 a0 14 (.int (x5 + s0))) fun g7 => gb (getI 10 g7 a0 15) fun x9 => gb (putV 10 g7 a0 15 (.int (x9 + s0))) fun g11 => gb (getI 10 g11 a0 12) fun x13 => gb (putV 10 g11 a0 12 (.int ((x13 / 2) + (4 * s0)))) fun g16 => cb (loopX (l_passes_l69 a0) 1000 0 g16) fun t18 g19 =>
  gb (getI 10 g19 a0 13) fun x21 => gb (putV 10 g19 a0 13 (.int (x21 + 1))) fun g23 => gb (getI 10 g23 a0 13) fun x25 => if (x25 - x25 / 8 * 8) = 0 then
  gb (isO 10 g23 a0) fun _ => cb (l_dawns a0 g23) fun r29 g30 => some ((), g30)
  else
  some ((), g23)
def l_passes (p : Nat) (g : AH) : Option (Unit × AH) :=
  gb (getI 10 g p 10) fun x1 => gb (getI 10 g p 11) fun x3 => if x3 ≤ x1 then
  gb (getI 10 g p 11) fun x6 => l_passes_j22 p x6 g
  else
  gb (getI 10 g p 10) fun x8 => l_passes_j22 p x8 g
def l_act_j264 (k9 : KK) (s0 : Int32) (s1 : Int32) (g : AH) : Option (Int32 × AH) :=
  if s1 = s0 then
  some (1, g)
  else
  some (0, g)
def l_act_j292 (k9 : KK) (a0 : Nat) (a2 : Nat) (a3 : Int32) (g : AH) : Option (Int32 × AH) :=
  gb (getR 10 g a0 0) fun x1 => gb (getI 9 g a2 0) fun x3 => cb (l_swapBlankets x1 a3 x3 g) fun r5 g6 => if r5 = (-103) then
  some (1, g6)
  else
  some (0, g6)
def l_act_j379_341 (k9 : KK) (a0 : Nat) (a2 : Nat) (a3 : Int32) (a8 : Int32) (s0 : Int32) (s1 : Int32) (g : AH) : Option (((Int32 × Int32) ⊕ (Int32)) × AH) :=
  some (.inl ((s1 + s0), (a8 + 1)), g)
def l_act_l341 (k9 : KK) (a0 : Nat) (a2 : Nat) (a3 : Int32) (s0 : Int32 × Int32) (g : AH) : Option (((Int32 × Int32) ⊕ (Int32)) × AH) :=
  gb (getR 10 g a0 3) fun x1 => gb (isO 12 g x1) fun _ => cb (jx4a65c_size_8abf5 x1 g) fun r3 g4 => if r3 ≤ s0.2 then
  some (.inr s0.1, g4)
  else
  gb (getR 10 g4 a0 3) fun x9 => gb (isO 12 g4 x9) fun _ => cb (jx4a65c_get_915e3 x9 s0.2 g4) fun r11 g12 => gb (isO 9 g12 r11) fun u16 => gb (isO 10 g12 a0) fun _ => cb (l_isCold a0 r11 g12) fun r18 g19 => if r18 = 0 then
  l_act_j379_341 k9 a0 a2 a3 s0.2 0 s0.1 g19
  else
  l_act_j379_341 k9 a0 a2 a3 s0.2 1 s0.1 g19
def l_act_j315 (k9 : KK) (a0 : Nat) (a1 : Nat) (a2 : Nat) (a3 : Int32) (g : AH) : Option (Int32 × AH) :=
  gb (getI 9 g a1 6) fun x1 => gb (getI 9 g a2 6) fun x3 => gb (putV 9 g a1 6 (.int x3)) fun g5 => gb (putV 9 g5 a2 6 (.int x1)) fun g7 => cb (loopX (l_act_l341 k9 a0 a2 a3) 1000 (0, 0) g7) fun t9 g10 =>
  gb (getR 10 g10 a0 0) fun x12 => gb (getI 9 g10 a2 0) fun x14 => cb (l_swapBlankets x12 a3 x14 g10) fun r16 g17 => if r16 = t9 then
  some (1, g17)
  else
  some (0, g17)
def l_act_j503 (k9 : KK) (s0 : Int32) (s1 : Int32) (g : AH) : Option (Int32 × AH) :=
  if s1 = s0 then
  some (1, g)
  else
  some (0, g)
def l_act_j632 (k9 : KK) (a0 : Nat) (a3 : Int32) (a5 : Int32) (g : AH) : Option (Int32 × AH) :=
  gb (getR 10 g a0 0) fun x1 => cb (l_payDebt x1 a3 a5 g) fun r3 g4 => if r3 = (-103) then
  some (1, g4)
  else
  some (0, g4)
def l_act_l746 (k9 : KK) (a0 : Nat) (a5 : Int32) (a6 : Int32) (s0 : Int32) (g : AH) : Option (((Int32) ⊕ (Unit)) × AH) :=
  if a5 ≤ s0 then
  some (.inr (), g)
  else
  gb (isO 10 g a0) fun _ => cb (l_passes a0 g) fun r2 g3 => some (.inl (s0 + 1), g3)
def l_act (k9 : KK) (p : Nat) (g : AH) : Option (Int32 × AH) :=
  gb (getR 10 g p 3) fun x1 => gb (getR 10 g p 3) fun x3 => gb (isO 12 g x3) fun _ => cb (jx4a65c_size_8abf5 x3 g) fun r5 g6 => gb (isO 10 g6 p) fun _ => cb (l_draw k9 p r5 g6) fun r10 g11 => gb (isO 12 g11 x1) fun _ => cb (jx4a65c_get_915e3 x1 r10 g11) fun r15 g16 => gb (isO 9 g16 r15) fun u20 => gb (getR 10 g16 p 3) fun x22 => gb (getR 10 g16 p 3) fun x24 => gb (isO 12 g16 x24) fun _ => cb (jx4a65c_size_8abf5 x24 g16) fun r26 g27 => gb (isO 10 g27 p) fun _ => cb (l_draw k9 p r26 g27) fun r31 g32 => gb (isO 12 g32 x22) fun _ => cb (jx4a65c_get_915e3 x22 r31 g32) fun r36 g37 => gb (isO 9 g37 r36) fun u41 => gb (getI 9 g37 r15 0) fun x43 => gb (getI 10 g37 p 7) fun x45 => gb (isO 10 g37 p) fun _ => cb (l_draw k9 p x45 g37) fun r47 g48 => gb (isO 10 g48 p) fun _ => cb (l_draw k9 p 6 g48) fun r52 g53 => gb (isO 10 g53 p) fun _ => cb (l_draw k9 p 14 g53) fun r57 g58 => if r57 = 0 then
  gb (getI 10 g58 p 8) fun x63 => if x63 = 0 then
  gb (getR 10 g58 p 0) fun x98 => cb (l_takeBlanket x98 x43 0 g58) fun r100 g101 => if r100 = (-101) then
  some (1, g101)
  else
  some (0, g101)
  else
  gb (getI 10 g58 p 8) fun x66 => gb (isO 10 g58 p) fun _ => cb (l_draw k9 p x66 g58) fun r68 g69 => gb (isO 10 g69 p) fun _ => cb (l_under p r68 g69) fun r73 g74 => nb r73 (gb (putV 9 g74 r15 6 (.int r68)) fun g79 => gb (getR 10 g79 p 0) fun x81 => cb (l_takeBlanket x81 x43 r68 g79) fun r83 g84 => gb (isO 10 g84 p) fun _ => cb (l_warm p r15 g84) fun r86 g87 => if r83 = r86 then
  some (1, g87)
  else
  some (0, g87)) (fun y78 =>
  gb (getR 10 g74 p 0) fun x92 => cb (l_takeBlanket x92 x43 r68 g74) fun r94 g95 => if r94 = (-103) then
  some (1, g95)
  else
  some (0, g95))
  else if r57 = 1 then
  gb (getI 10 g58 p 8) fun x105 => if x105 = 0 then
  gb (getR 10 g58 p 0) fun x140 => cb (l_takeBlanket x140 x43 0 g58) fun r142 g143 => if r142 = (-101) then
  some (1, g143)
  else
  some (0, g143)
  else
  gb (getI 10 g58 p 8) fun x108 => gb (isO 10 g58 p) fun _ => cb (l_draw k9 p x108 g58) fun r110 g111 => gb (isO 10 g111 p) fun _ => cb (l_under p r110 g111) fun r115 g116 => nb r115 (gb (putV 9 g116 r15 6 (.int r110)) fun g121 => gb (getR 10 g121 p 0) fun x123 => cb (l_takeBlanket x123 x43 r110 g121) fun r125 g126 => gb (isO 10 g126 p) fun _ => cb (l_warm p r15 g126) fun r128 g129 => if r125 = r128 then
  some (1, g129)
  else
  some (0, g129)) (fun y120 =>
  gb (getR 10 g116 p 0) fun x134 => cb (l_takeBlanket x134 x43 r110 g116) fun r136 g137 => if r136 = (-103) then
  some (1, g137)
  else
  some (0, g137))
  else if r57 = 2 then
  gb (getI 9 g58 r15 6) fun x147 => gb (putV 9 g58 r15 6 (.int (-1))) fun g149 => gb (getR 10 g149 p 0) fun x151 => cb (l_returnBlanket x151 x43 g149) fun r153 g154 => if 0 ≤ x147 then
  l_act_j264 k9 x147 r153 g154
  else
  l_act_j264 k9 (-103) r153 g154
  else if r57 = 3 then
  if r15 = r36 then
  l_act_j292 k9 p r36 x43 g58
  else
  gb (getI 9 g58 r15 6) fun x159 => if 0 ≤ x159 then
  l_act_j315 k9 p r15 r36 x43 g58
  else
  gb (getI 9 g58 r36 6) fun x162 => if 0 ≤ x162 then
  l_act_j315 k9 p r15 r36 x43 g58
  else
  l_act_j292 k9 p r36 x43 g58
  else if r57 = 4 then
  gb (isO 10 g58 p) fun _ => cb (l_in p r47 g58) fun r166 g167 => nb r166 (gb (putV 9 g167 r15 5 (.int r47)) fun g172 => gb (getR 10 g172 p 0) fun x174 => cb (l_lieDown x174 x43 r47 g172) fun r176 g177 => gb (isO 10 g177 p) fun _ => cb (l_noise p r47 g177) fun r179 g180 => if r176 = r179 then
  some (1, g180)
  else
  some (0, g180)) (fun y171 =>
  gb (getR 10 g167 p 0) fun x185 => cb (l_lieDown x185 x43 r47 g167) fun r187 g188 => if r187 = (-103) then
  some (1, g188)
  else
  some (0, g188))
  else if r57 = 5 then
  gb (isO 10 g58 p) fun _ => cb (l_in p r47 g58) fun r192 g193 => nb r192 (gb (putV 9 g193 r15 5 (.int r47)) fun g198 => gb (getR 10 g198 p 0) fun x200 => cb (l_lieDown x200 x43 r47 g198) fun r202 g203 => gb (isO 10 g203 p) fun _ => cb (l_noise p r47 g203) fun r205 g206 => if r202 = r205 then
  some (1, g206)
  else
  some (0, g206)) (fun y197 =>
  gb (getR 10 g193 p 0) fun x211 => cb (l_lieDown x211 x43 r47 g193) fun r213 g214 => if r213 = (-103) then
  some (1, g214)
  else
  some (0, g214))
  else if r57 = 6 then
  gb (isO 10 g58 p) fun _ => cb (l_in p r47 g58) fun r218 g219 => nb r218 (gb (putV 9 g219 r15 5 (.int r47)) fun g224 => gb (getR 10 g224 p 0) fun x226 => cb (l_lieDown x226 x43 r47 g224) fun r228 g229 => gb (isO 10 g229 p) fun _ => cb (l_noise p r47 g229) fun r231 g232 => if r228 = r231 then
  some (1, g232)
  else
  some (0, g232)) (fun y223 =>
  gb (getR 10 g219 p 0) fun x237 => cb (l_lieDown x237 x43 r47 g219) fun r239 g240 => if r239 = (-103) then
  some (1, g240)
  else
  some (0, g240))
  else if r57 = 7 then
  gb (getI 9 g58 r15 5) fun x244 => gb (putV 9 g58 r15 5 (.int (-1))) fun g246 => gb (getR 10 g246 p 0) fun x248 => cb (l_getUp x248 x43 g246) fun r250 g251 => if 0 ≤ x244 then
  l_act_j503 k9 x244 r250 g251
  else
  l_act_j503 k9 (-103) r250 g251
  else if r57 = 8 then
  gb (getI 10 g58 p 11) fun x255 => gb (isO 10 g58 p) fun _ => cb (l_draw k9 p 4 g58) fun r257 g258 => gb (putV 10 g258 p 11 (.int r257)) fun g262 => gb (getR 10 g262 p 0) fun x264 => gb (getI 10 g262 p 11) fun x266 => cb (l_setRate x264 x266 g262) fun r268 g269 => if r268 = x255 then
  some (1, g269)
  else
  some (0, g269)
  else if r57 = 9 then
  gb (getI 10 g58 p 10) fun x273 => if (x273 + (1 + r52)) ≤ 99 then
  gb (getI 10 g58 p 10) fun x276 => gb (putV 10 g58 p 10 (.int (x276 + (1 + r52)))) fun g278 => gb (getR 10 g278 p 0) fun x280 => cb (l_fetchLogs x280 (1 + r52) g278) fun r282 g283 => gb (getI 10 g283 p 10) fun x285 => if r282 = x285 then
  some (1, g283)
  else
  some (0, g283)
  else
  gb (getR 10 g58 p 0) fun x288 => cb (l_fetchLogs x288 (1 + r52) g58) fun r290 g291 => if r290 = (-103) then
  some (1, g291)
  else
  some (0, g291)
  else if r57 = 10 then
  gb (getI 9 g58 r15 3) fun x295 => if x295 < (1 + r52) then
  l_act_j632 k9 p x43 (1 + r52) g58
  else
  gb (getI 9 g58 r15 4) fun x298 => if (1 + r52) ≤ x298 then
  gb (getI 9 g58 r15 3) fun x301 => gb (putV 9 g58 r15 3 (.int (x301 - (1 + r52)))) fun g303 => gb (getI 9 g303 r15 4) fun x305 => gb (putV 9 g303 r15 4 (.int (x305 - (1 + r52)))) fun g307 => gb (getI 10 g307 p 16) fun x309 => gb (putV 10 g307 p 16 (.int (x309 + (1 + r52)))) fun g311 => gb (getR 10 g311 p 0) fun x313 => cb (l_payDebt x313 x43 (1 + r52) g311) fun r315 g316 => gb (getI 9 g316 r15 4) fun x318 => if r315 = x318 then
  some (1, g316)
  else
  some (0, g316)
  else
  l_act_j632 k9 p x43 (1 + r52) g58
  else if r57 = 11 then
  gb (getR 10 g58 p 0) fun x322 => cb (l_passHours x322 (1 + r52) g58) fun r324 g325 => if r324 < 0 then
  some (0, g325)
  else
  gb (getR 10 g325 p 0) fun x328 => cb (l_back x328 g325) fun r330 g331 => if r330 < 0 then
  some (0, g331)
  else
  some (1, g331)
  else gb (getI 10 g58 p 16) fun x334 => cb (loopX (l_act_l746 k9 p (1 + r52) x334) 1000 0 g58) fun t336 g337 =>
  gb (getR 10 g337 p 0) fun x339 => cb (l_passHours x339 (1 + r52) g337) fun r341 g342 => gb (getI 10 g342 p 16) fun x344 => if r341 = (x344 - x334) then
  some (1, g342)
  else
  some (0, g342)
def l_init (k9 : KK) (p : Nat) (g : AH) : Option (Unit × AH) :=
  cb (newO 8 tyX8 g) fun x1 g2 => cb (x8_init x1 g2) fun r4 g5 => gb (putV 10 g5 p 0 (.ref x1)) fun g7 => cb (newO 12 tyJx4a65c g7) fun x9 g10 => cb (jx4a65c_init_da8c8 k9 x9 g10) fun r12 g13 => gb (putV 10 g13 p 3 (.ref x9)) fun g15 => cb (newA 0 (.inl (fun _ => 0)) g15 12) fun x17 g18 => gb (putV 10 g18 p 4 (.ref x17)) fun g20 => cb (newA 0 (.inl (fun _ => 0)) g20 12) fun x22 g23 => gb (putV 10 g23 p 5 (.ref x22)) fun g25 => cb (newA 0 (.inl (fun _ => 0)) g25 12) fun x27 g28 => gb (putV 10 g28 p 6 (.ref x27)) fun g30 => some ((), g30)
set_option maxHeartbeats 4000000 in
set_option maxRecDepth 100000 in
theorem t_l_passes_l69 {l : Launch} {G : GG} {M : MC} (X : CX M G cL_passes 3 RL ⟨10, 0, 0, 301⟩) (hl0 : M.2.1 = l) (hr : (mM M).sig.returnType = none) (hnm : (mM M).name = yL_passes.name) (hst : l.stackTraces = false) {Q : State → Prop} {kc ks : Nat} {s9 : ((Int32) ⊕ (Unit))} {g1 : AH} {a0 : Nat} {s0 : Int32} (hc : ∀ s1, s9 = .inl s1 → WW M G 3 Q kc ks g1 69 [(0, .ref a0), (2, .int s1)] []) (hx : ∀ t, s9 = .inr t → WW M G 3 Q kc ks g1 120 [(0, .ref a0)] []) {g : AH} (E : l_passes_l69 a0 s0 g = some (s9, g1)) : WW M G 3 Q kc ks g 69 [(0, .ref a0), (2, .int s0)] [] := by
  unfold l_passes_l69 at E
  refine r_iload_n X 2 dL_passes_69 rfl rfl ?_
  refine r_aload_n X 0 dL_passes_70 rfl rfl ?_
  obtain ⟨x1, e2, E⟩ := gb_some E
  refine r_getR X dL_passes_71 f_L_19 e2 ?_
  obtain ⟨u6, e7, E⟩ := gb_some E
  obtain ⟨r3, g4, e5, E⟩ := cb_some E
  refine r_callV0 X hl0 (ci := 12) dL_passes_74 y_Jx4a65c_size_8abf5 m_L_210 rfl rfl e7 (t_jx4a65c_size_8abf5 (l := l) (G := G) e5) rfl rfl (Nat.le_of_ble_eq_true rfl) (by decide) ?_
  refine r_icmp_ge X 120 dL_passes_77 (by decide) (fun c8 => ?_) (fun c8 => ?_)
  · rw [if_pos c8] at E
    cases E
    exact r_pick (by rfl : lpick [(0, .ref a0), (2, .int s0)] [0] = _) (hx _ rfl)
  · rw [if_neg c8] at E
    refine r_aload_n X 0 dL_passes_80 rfl rfl ?_
    obtain ⟨x9, e10, E⟩ := gb_some E
    refine r_getR X dL_passes_81 f_L_19 e10 ?_
    refine r_iload_n X 2 dL_passes_84 rfl rfl ?_
    obtain ⟨u14, e15, E⟩ := gb_some E
    obtain ⟨r11, g12, e13, E⟩ := cb_some E
    refine r_callV0 X hl0 (ci := 12) dL_passes_85 y_Jx4a65c_get_915e3 m_L_246 rfl rfl e15 (t_jx4a65c_get_915e3 (l := l) (G := G) e13) rfl rfl (Nat.le_of_ble_eq_true rfl) (by decide) ?_
    obtain ⟨u16, e17, E⟩ := gb_some E
    refine r_cast X (ci := 9) dL_passes_88 rfl k_L_207 e17 ?_
    obtain ⟨x18, e19, E⟩ := gb_some E
    refine r_getRN X (k := 7) dL_passes_91 (List.mem_of_getElem? (i := 7) rfl) rfl (by decide) e19 ?_
    refine r_aload_n X 0 dL_passes_94 rfl rfl ?_
    refine r_aload_n X 0 dL_passes_95 rfl rfl ?_
    obtain ⟨x20, e21, E⟩ := gb_some E
    refine r_getR X dL_passes_96 f_L_19 e21 ?_
    refine r_iload_n X 2 dL_passes_99 rfl rfl ?_
    obtain ⟨u25, e26, E⟩ := gb_some E
    obtain ⟨r22, g23, e24, E⟩ := cb_some E
    refine r_callV0 X hl0 (ci := 12) dL_passes_100 y_Jx4a65c_get_915e3 m_L_246 rfl rfl e26 (t_jx4a65c_get_915e3 (l := l) (G := G) e24) rfl rfl (Nat.le_of_ble_eq_true rfl) (by decide) ?_
    obtain ⟨u27, e28, E⟩ := gb_some E
    refine r_cast X (ci := 9) dL_passes_103 rfl k_L_207 e28 ?_
    obtain ⟨u32, e33, E⟩ := gb_some E
    obtain ⟨r29, g30, e31, E⟩ := cb_some E
    refine r_callV0 X hl0 (ci := 10) dL_passes_106 y_L_does m_L_287 rfl rfl e33 (t_l_does (l := l) hst (G := G) e31) rfl rfl (Nat.le_of_ble_eq_true rfl) (by decide) ?_
    refine r_dup2 X dL_passes_109 rfl rfl ?_
    obtain ⟨x34, e35, E⟩ := gb_some E
    refine r_iald X dL_passes_110 e35 ?_
    refine r_iconst X (v := 1) dL_passes_111 (by decide) ?_
    refine r_iadd X dL_passes_112 ?_
    obtain ⟨g36, e37, E⟩ := gb_some E
    refine r_iast X dL_passes_113 e37 ?_
    refine r_iinc X (v := (s0 + 1)) (L1 := [(2, .int (s0 + 1)), (0, .ref a0)]) dL_passes_114 rfl rfl (by decide) rfl ?_
    refine r_goto X 69 dL_passes_117 (by decide) ?_
    cases E
    exact r_pick (by rfl : lpick [(2, .int (s0 + 1)), (0, .ref a0)] [1, 0] = _) (hc _ rfl)
set_option maxHeartbeats 4000000 in
theorem t_l_passes_l69_r {l : Launch} {G : GG} {M : MC} (X : CX M G cL_passes 3 RL ⟨10, 0, 0, 301⟩) (hl0 : M.2.1 = l) (hr : (mM M).sig.returnType = none) (hnm : (mM M).name = yL_passes.name) (hst : l.stackTraces = false) {Q : State → Prop} {kc ks : Nat} {a0 : Nat} : ∀ (n : Nat) (s0 : Int32) (g : AH) (t : (Unit)) (g1 : AH), loopX (l_passes_l69 a0) n s0 g = some (t, g1) → WW M G 3 Q kc ks g1 120 [(0, .ref a0)] [] → WW M G 3 Q kc ks g 69 [(0, .ref a0), (2, .int s0)] [] :=
  loop_cps (K := fun (t : (Unit)) g1 => WW M G 3 Q kc ks g1 120 [(0, .ref a0)] []) (fun _ (s0 : Int32) g => WW M G 3 Q kc ks g 69 [(0, .ref a0), (2, .int s0)] []) (fun n s0 g st g1 E hc hx => t_l_passes_l69 X hl0 hr hnm hst hc hx E)
set_option maxHeartbeats 4000000 in
set_option maxRecDepth 100000 in
theorem t_l_passes_j22 {l : Launch} {G : GG} {M : MC} (X : CX M G cL_passes 3 RL ⟨10, 0, 0, 301⟩) (hl0 : M.2.1 = l) (hr : (mM M).sig.returnType = none) (hnm : (mM M).name = yL_passes.name) (hst : l.stackTraces = false) {a0 : Nat} {s0 : Int32} {g : AH} {r : Unit} {g1 : AH} (E : l_passes_j22 a0 s0 g = some (r, g1)) : WW M G 3 (RQ M G none g1 0 0) 0 0 g 22 [(0, .ref a0)] [.int s0] := by
  unfold l_passes_j22 at E
  refine r_istore_n X 1 (L1 := [(1, .int s0), (0, .ref a0)]) dL_passes_22 rfl (by decide) rfl ?_
  refine r_aload_n X 0 dL_passes_23 rfl rfl ?_
  refine r_dup X dL_passes_24 rfl ?_
  obtain ⟨x1, e2, E⟩ := gb_some E
  refine r_getI X dL_passes_25 f_L_172 e2 ?_
  refine r_iload_n X 1 dL_passes_28 rfl rfl ?_
  refine r_isub X dL_passes_29 ?_
  obtain ⟨g3, e4, E⟩ := gb_some E
  refine r_put X dL_passes_30 f_L_172 rfl rfl e4 ?_
  refine r_aload_n X 0 dL_passes_33 rfl rfl ?_
  refine r_dup X dL_passes_34 rfl ?_
  obtain ⟨x5, e6, E⟩ := gb_some E
  refine r_getI X dL_passes_35 f_L_157 e6 ?_
  refine r_iload_n X 1 dL_passes_38 rfl rfl ?_
  refine r_iadd X dL_passes_39 ?_
  obtain ⟨g7, e8, E⟩ := gb_some E
  refine r_put X dL_passes_40 f_L_157 rfl rfl e8 ?_
  refine r_aload_n X 0 dL_passes_43 rfl rfl ?_
  refine r_dup X dL_passes_44 rfl ?_
  obtain ⟨x9, e10, E⟩ := gb_some E
  refine r_getI X dL_passes_45 f_L_154 e10 ?_
  refine r_iload_n X 1 dL_passes_48 rfl rfl ?_
  refine r_iadd X dL_passes_49 ?_
  obtain ⟨g11, e12, E⟩ := gb_some E
  refine r_put X dL_passes_50 f_L_154 rfl rfl e12 ?_
  refine r_aload_n X 0 dL_passes_53 rfl rfl ?_
  refine r_aload_n X 0 dL_passes_54 rfl rfl ?_
  obtain ⟨x13, e14, E⟩ := gb_some E
  refine r_getI X dL_passes_55 f_L_163 e14 ?_
  refine r_iconst X (v := 2) dL_passes_58 (by decide) ?_
  refine r_idiv X dL_passes_59 (by decide) ?_
  refine r_iconst X (v := 4) dL_passes_60 (by decide) ?_
  refine r_iload_n X 1 dL_passes_61 rfl rfl ?_
  refine r_imul X dL_passes_62 ?_
  refine r_iadd X dL_passes_63 ?_
  obtain ⟨g16, e17, E⟩ := gb_some E
  refine r_put X dL_passes_64 f_L_163 rfl rfl e17 ?_
  refine r_iconst X (v := 0) dL_passes_67 (by decide) ?_
  refine r_istore_n X 2 (L1 := [(2, .int 0), (1, .int s0), (0, .ref a0)]) dL_passes_68 rfl (by decide) rfl ?_
  obtain ⟨t18, g19, e20, E⟩ := cb_some E
  refine r_pick (by rfl : lpick [(2, .int 0), (1, .int s0), (0, .ref a0)] [2, 0] = _) (t_l_passes_l69_r X hl0 hr hnm hst _ _ _ _ _ e20 ?_)
  refine r_aload_n X 0 dL_passes_120 rfl rfl ?_
  refine r_dup X dL_passes_121 rfl ?_
  obtain ⟨x21, e22, E⟩ := gb_some E
  refine r_getI X dL_passes_122 f_L_160 e22 ?_
  refine r_iconst X (v := 1) dL_passes_125 (by decide) ?_
  refine r_iadd X dL_passes_126 ?_
  obtain ⟨g23, e24, E⟩ := gb_some E
  refine r_put X dL_passes_127 f_L_160 rfl rfl e24 ?_
  refine r_aload_n X 0 dL_passes_130 rfl rfl ?_
  obtain ⟨x25, e26, E⟩ := gb_some E
  refine r_getI X dL_passes_131 f_L_160 e26 ?_
  refine r_bipush X (v := 8) dL_passes_134 (by decide) ?_
  refine r_irem X dL_passes_136 (by decide) ?_
  refine r_if_ne X 144 dL_passes_137 (by decide) (fun c28 => ?_) (fun c28 => ?_)
  · rw [if_neg c28] at E
    cases E
    exact r_vret X hr dL_passes_144 (by decide) (by decide)
  · rw [if_pos c28] at E
    refine r_aload_n X 0 dL_passes_140 rfl rfl ?_
    obtain ⟨u32, e33, E⟩ := gb_some E
    obtain ⟨r29, g30, e31, E⟩ := cb_some E
    refine r_callV0 X hl0 (ci := 10) dL_passes_141 y_L_dawns m_L_290 rfl rfl e33 (t_l_dawns (l := l) hst (G := G) e31) rfl rfl (Nat.le_of_ble_eq_true rfl) (by decide) ?_
    cases E
    exact r_vret X hr dL_passes_144 (by decide) (by decide)
set_option maxHeartbeats 4000000 in
set_option maxRecDepth 100000 in
theorem t_l_passes_b {l : Launch} {G : GG} {M : MC} (X : CX M G cL_passes 3 RL ⟨10, 0, 0, 301⟩) (hl0 : M.2.1 = l) (hr : (mM M).sig.returnType = none) (hnm : (mM M).name = yL_passes.name) (hst : l.stackTraces = false) {p : Nat} {g : AH} {r : Unit} {g1 : AH} (E : l_passes p g = some (r, g1)) : WW M G 3 (RQ M G none g1 0 0) 0 0 g 0 [(0, .ref p)] [] := by
  unfold l_passes at E
  refine r_aload_n X 0 dL_passes_0 rfl rfl ?_
  obtain ⟨x1, e2, E⟩ := gb_some E
  refine r_getI X dL_passes_1 f_L_172 e2 ?_
  refine r_aload_n X 0 dL_passes_4 rfl rfl ?_
  obtain ⟨x3, e4, E⟩ := gb_some E
  refine r_getI X dL_passes_5 f_L_166 e4 ?_
  refine r_icmp_ge X 18 dL_passes_8 (by decide) (fun c5 => ?_) (fun c5 => ?_)
  · rw [if_pos c5] at E
    refine r_aload_n X 0 dL_passes_18 rfl rfl ?_
    obtain ⟨x6, e7, E⟩ := gb_some E
    refine r_getI X dL_passes_19 f_L_166 e7 ?_
    exact r_pick (by rfl : lpick [(0, .ref p)] [0] = _) (t_l_passes_j22 X hl0 hr hnm hst E)
  · rw [if_neg c5] at E
    refine r_aload_n X 0 dL_passes_11 rfl rfl ?_
    obtain ⟨x8, e9, E⟩ := gb_some E
    refine r_getI X dL_passes_12 f_L_172 e9 ?_
    refine r_goto X 22 dL_passes_15 (by decide) ?_
    exact r_pick (by rfl : lpick [(0, .ref p)] [0] = _) (t_l_passes_j22 X hl0 hr hnm hst E)
theorem t_l_passes {l : Launch} (hst : l.stackTraces = false) {G : GG} {p : Nat} {g : AH} {r : Unit} {g1 : AH} (E : l_passes p g = some (r, g1)) : Ct l G yL_passes cL_passes 3 none ⟨10, 0, 0, 301⟩ [.ref p] g none g1 :=
  ct_of (L0 := [(0, .ref p)]) y_L_passes rfl (Nat.le_of_ble_eq_true rfl) fun M hl0 X hr hnm => t_l_passes_b X hl0 hr hnm hst E
set_option maxHeartbeats 4000000 in
set_option maxRecDepth 100000 in
theorem t_l_act_j264 {l : Launch} {G : GG} {M : MC} (X : CX M G cL_act 9 RL ⟨11, 49, 294, 323⟩) (hl0 : M.2.1 = l) (hr : (mM M).sig.returnType = (some .boolean)) (hnm : (mM M).name = yL_act.name) (hst : l.stackTraces = false) {s0 : Int32} {s1 : Int32} {g : AH} {r : Int32} {g1 : AH} (E : l_act_j264 (GK G) s0 s1 g = some (r, g1)) : WW M G 9 (RQ M G (some (.int r)) g1 49 294) 12 72 g 264 [] [.int s0, .int s1] := by
  unfold l_act_j264 at E
  refine r_icmp_ne X 271 dL_act_264 (by decide) (fun c1 => ?_) (fun c1 => ?_)
  · rw [if_neg c1] at E
    refine r_iconst X (v := 0) dL_act_271 (by decide) ?_
    cases E
    exact r_zret X hr (Or.inl rfl) dL_act_272 (by decide) (by decide)
  · rw [if_pos c1] at E
    refine r_iconst X (v := 1) dL_act_267 (by decide) ?_
    refine r_goto X 272 dL_act_268 (by decide) ?_
    cases E
    exact r_zret X hr (Or.inr rfl) dL_act_272 (by decide) (by decide)
set_option maxHeartbeats 4000000 in
set_option maxRecDepth 100000 in
theorem t_l_act_j292 {l : Launch} {G : GG} {M : MC} (X : CX M G cL_act 9 RL ⟨11, 49, 294, 323⟩) (hl0 : M.2.1 = l) (hr : (mM M).sig.returnType = (some .boolean)) (hnm : (mM M).name = yL_act.name) (hst : l.stackTraces = false) {a0 : Nat} {a2 : Nat} {a3 : Int32} {g : AH} {r : Int32} {g1 : AH} (E : l_act_j292 (GK G) a0 a2 a3 g = some (r, g1)) : WW M G 9 (RQ M G (some (.int r)) g1 49 294) 12 72 g 292 [(0, .ref a0), (2, .ref a2), (3, .int a3)] [] := by
  unfold l_act_j292 at E
  refine r_aload_n X 0 dL_act_292 rfl rfl ?_
  obtain ⟨x1, e2, E⟩ := gb_some E
  refine r_getR X dL_act_293 f_L_10 e2 ?_
  refine r_iload_n X 3 dL_act_296 rfl rfl ?_
  refine r_aload_n X 2 dL_act_297 rfl rfl ?_
  obtain ⟨x3, e4, E⟩ := gb_some E
  refine r_getIN X (k := 0) dL_act_298 (List.mem_of_getElem? (i := 0) rfl) rfl (by decide) e4 ?_
  obtain ⟨r5, g6, e7, E⟩ := cb_some E
  refine r_callW X hl0 dL_act_301 y_L_swapBlankets m_L_357 (t_l_swapBlankets (l := l) hst (G := G) e7) rfl rfl (Nat.le_of_ble_eq_true rfl) (by decide) ?_
  refine r_bipush X (v := (-103)) dL_act_304 (by decide) ?_
  refine r_icmp_ne X 313 dL_act_306 (by decide) (fun c8 => ?_) (fun c8 => ?_)
  · rw [if_neg c8] at E
    refine r_iconst X (v := 0) dL_act_313 (by decide) ?_
    cases E
    exact r_zret X hr (Or.inl rfl) dL_act_314 (by decide) (by decide)
  · rw [if_pos c8] at E
    refine r_iconst X (v := 1) dL_act_309 (by decide) ?_
    refine r_goto X 314 dL_act_310 (by decide) ?_
    cases E
    exact r_zret X hr (Or.inr rfl) dL_act_314 (by decide) (by decide)
set_option maxHeartbeats 4000000 in
set_option maxRecDepth 100000 in
theorem t_l_act_j379_341 {l : Launch} {G : GG} {M : MC} (X : CX M G cL_act 9 RL ⟨11, 49, 294, 323⟩) (hl0 : M.2.1 = l) (hr : (mM M).sig.returnType = (some .boolean)) (hnm : (mM M).name = yL_act.name) (hst : l.stackTraces = false) {Q : State → Prop} {kc ks : Nat} {s9 : ((Int32 × Int32) ⊕ (Int32))} {g1 : AH} {a0 : Nat} {a2 : Nat} {a3 : Int32} {a8 : Int32} {s0 : Int32} {s1 : Int32} (hc : ∀ s1, s9 = .inl s1 → WW M G 9 Q kc ks g1 341 [(0, .ref a0), (2, .ref a2), (3, .int a3), (7, .int s1.1), (8, .int s1.2)] []) (hx : ∀ t, s9 = .inr t → WW M G 9 Q kc ks g1 388 [(0, .ref a0), (2, .ref a2), (3, .int a3), (7, .int t)] []) {g : AH} (E : l_act_j379_341 (GK G) a0 a2 a3 a8 s0 s1 g = some (s9, g1)) : WW M G 9 Q kc ks g 379 [(0, .ref a0), (2, .ref a2), (3, .int a3), (8, .int a8)] [.int s0, .int s1] := by
  unfold l_act_j379_341 at E
  refine r_iadd X dL_act_379 ?_
  refine r_istore X (L1 := [(7, .int (s1 + s0)), (0, .ref a0), (2, .ref a2), (3, .int a3), (8, .int a8)]) dL_act_380 (by decide) rfl ?_
  refine r_iinc X (v := (a8 + 1)) (L1 := [(8, .int (a8 + 1)), (7, .int (s1 + s0)), (0, .ref a0), (2, .ref a2), (3, .int a3)]) dL_act_382 rfl rfl (by decide) rfl ?_
  refine r_goto X 341 dL_act_385 (by decide) ?_
  cases E
  exact r_pick (by rfl : lpick [(8, .int (a8 + 1)), (7, .int (s1 + s0)), (0, .ref a0), (2, .ref a2), (3, .int a3)] [2, 3, 4, 1, 0] = _) (hc _ rfl)
set_option maxHeartbeats 4000000 in
set_option maxRecDepth 100000 in
theorem t_l_act_l341 {l : Launch} {G : GG} {M : MC} (X : CX M G cL_act 9 RL ⟨11, 49, 294, 323⟩) (hl0 : M.2.1 = l) (hr : (mM M).sig.returnType = (some .boolean)) (hnm : (mM M).name = yL_act.name) (hst : l.stackTraces = false) {Q : State → Prop} {kc ks : Nat} {s9 : ((Int32 × Int32) ⊕ (Int32))} {g1 : AH} {a0 : Nat} {a2 : Nat} {a3 : Int32} {s0 : Int32 × Int32} (hc : ∀ s1, s9 = .inl s1 → WW M G 9 Q kc ks g1 341 [(0, .ref a0), (2, .ref a2), (3, .int a3), (7, .int s1.1), (8, .int s1.2)] []) (hx : ∀ t, s9 = .inr t → WW M G 9 Q kc ks g1 388 [(0, .ref a0), (2, .ref a2), (3, .int a3), (7, .int t)] []) {g : AH} (E : l_act_l341 (GK G) a0 a2 a3 s0 g = some (s9, g1)) : WW M G 9 Q kc ks g 341 [(0, .ref a0), (2, .ref a2), (3, .int a3), (7, .int s0.1), (8, .int s0.2)] [] := by
  unfold l_act_l341 at E
  refine r_iload X dL_act_341 rfl ?_
  refine r_aload_n X 0 dL_act_343 rfl rfl ?_
  obtain ⟨x1, e2, E⟩ := gb_some E
  refine r_getR X dL_act_344 f_L_19 e2 ?_
  obtain ⟨u6, e7, E⟩ := gb_some E
  obtain ⟨r3, g4, e5, E⟩ := cb_some E
  refine r_callV0 X hl0 (ci := 12) dL_act_347 y_Jx4a65c_size_8abf5 m_L_210 rfl rfl e7 (t_jx4a65c_size_8abf5 (l := l) (G := G) e5) rfl rfl (Nat.le_of_ble_eq_true rfl) (by decide) ?_
  refine r_icmp_ge X 388 dL_act_350 (by decide) (fun c8 => ?_) (fun c8 => ?_)
  · rw [if_pos c8] at E
    cases E
    exact r_pick (by rfl : lpick [(0, .ref a0), (2, .ref a2), (3, .int a3), (7, .int s0.1), (8, .int s0.2)] [0, 1, 2, 3] = _) (hx _ rfl)
  · rw [if_neg c8] at E
    refine r_iload X dL_act_353 rfl ?_
    refine r_aload_n X 0 dL_act_355 rfl rfl ?_
    refine r_aload_n X 0 dL_act_356 rfl rfl ?_
    obtain ⟨x9, e10, E⟩ := gb_some E
    refine r_getR X dL_act_357 f_L_19 e10 ?_
    refine r_iload X dL_act_360 rfl ?_
    obtain ⟨u14, e15, E⟩ := gb_some E
    obtain ⟨r11, g12, e13, E⟩ := cb_some E
    refine r_callV0 X hl0 (ci := 12) dL_act_362 y_Jx4a65c_get_915e3 m_L_246 rfl rfl e15 (t_jx4a65c_get_915e3 (l := l) (G := G) e13) rfl rfl (Nat.le_of_ble_eq_true rfl) (by decide) ?_
    obtain ⟨u16, e17, E⟩ := gb_some E
    refine r_cast X (ci := 9) dL_act_365 rfl k_L_207 e17 ?_
    obtain ⟨u21, e22, E⟩ := gb_some E
    obtain ⟨r18, g19, e20, E⟩ := cb_some E
    refine r_callV0 X hl0 (ci := 10) dL_act_368 y_L_isCold m_L_264 rfl rfl e22 (t_l_isCold (l := l) hst (G := G) e20) rfl rfl (Nat.le_of_ble_eq_true rfl) (by decide) ?_
    refine r_if_eq X 378 dL_act_371 (by decide) (fun c23 => ?_) (fun c23 => ?_)
    · rw [if_pos c23] at E
      refine r_iconst X (v := 0) dL_act_378 (by decide) ?_
      exact r_pick (by rfl : lpick [(0, .ref a0), (2, .ref a2), (3, .int a3), (7, .int s0.1), (8, .int s0.2)] [0, 1, 2, 4] = _) (t_l_act_j379_341 X hl0 hr hnm hst hc hx E)
    · rw [if_neg c23] at E
      refine r_iconst X (v := 1) dL_act_374 (by decide) ?_
      refine r_goto X 379 dL_act_375 (by decide) ?_
      exact r_pick (by rfl : lpick [(0, .ref a0), (2, .ref a2), (3, .int a3), (7, .int s0.1), (8, .int s0.2)] [0, 1, 2, 4] = _) (t_l_act_j379_341 X hl0 hr hnm hst hc hx E)
set_option maxHeartbeats 4000000 in
theorem t_l_act_l341_r {l : Launch} {G : GG} {M : MC} (X : CX M G cL_act 9 RL ⟨11, 49, 294, 323⟩) (hl0 : M.2.1 = l) (hr : (mM M).sig.returnType = (some .boolean)) (hnm : (mM M).name = yL_act.name) (hst : l.stackTraces = false) {Q : State → Prop} {kc ks : Nat} {a0 : Nat} {a2 : Nat} {a3 : Int32} : ∀ (n : Nat) (s0 : Int32 × Int32) (g : AH) (t : (Int32)) (g1 : AH), loopX (l_act_l341 (GK G) a0 a2 a3) n s0 g = some (t, g1) → WW M G 9 Q kc ks g1 388 [(0, .ref a0), (2, .ref a2), (3, .int a3), (7, .int t)] [] → WW M G 9 Q kc ks g 341 [(0, .ref a0), (2, .ref a2), (3, .int a3), (7, .int s0.1), (8, .int s0.2)] [] :=
  loop_cps (K := fun (t : (Int32)) g1 => WW M G 9 Q kc ks g1 388 [(0, .ref a0), (2, .ref a2), (3, .int a3), (7, .int t)] []) (fun _ (s0 : Int32 × Int32) g => WW M G 9 Q kc ks g 341 [(0, .ref a0), (2, .ref a2), (3, .int a3), (7, .int s0.1), (8, .int s0.2)] []) (fun n s0 g st g1 E hc hx => t_l_act_l341 X hl0 hr hnm hst hc hx E)
set_option maxHeartbeats 4000000 in
set_option maxRecDepth 100000 in
theorem t_l_act_j315 {l : Launch} {G : GG} {M : MC} (X : CX M G cL_act 9 RL ⟨11, 49, 294, 323⟩) (hl0 : M.2.1 = l) (hr : (mM M).sig.returnType = (some .boolean)) (hnm : (mM M).name = yL_act.name) (hst : l.stackTraces = false) {a0 : Nat} {a1 : Nat} {a2 : Nat} {a3 : Int32} {g : AH} {r : Int32} {g1 : AH} (E : l_act_j315 (GK G) a0 a1 a2 a3 g = some (r, g1)) : WW M G 9 (RQ M G (some (.int r)) g1 49 294) 15 90 g 315 [(0, .ref a0), (1, .ref a1), (2, .ref a2), (3, .int a3)] [] := by
  unfold l_act_j315 at E
  refine r_aload_n X 1 dL_act_315 rfl rfl ?_
  obtain ⟨x1, e2, E⟩ := gb_some E
  refine r_getIN X (k := 6) dL_act_316 (List.mem_of_getElem? (i := 5) rfl) rfl (by decide) e2 ?_
  refine r_istore X (L1 := [(6, .int x1), (0, .ref a0), (1, .ref a1), (2, .ref a2), (3, .int a3)]) dL_act_319 (by decide) rfl ?_
  refine r_aload_n X 1 dL_act_321 rfl rfl ?_
  refine r_aload_n X 2 dL_act_322 rfl rfl ?_
  obtain ⟨x3, e4, E⟩ := gb_some E
  refine r_getIN X (k := 6) dL_act_323 (List.mem_of_getElem? (i := 5) rfl) rfl (by decide) e4 ?_
  obtain ⟨g5, e6, E⟩ := gb_some E
  refine r_putN X (k := 6) dL_act_326 (List.mem_of_getElem? (i := 5) rfl) rfl (by decide) rfl rfl rfl e6 ?_
  refine r_aload_n X 2 dL_act_329 rfl rfl ?_
  refine r_iload X dL_act_330 rfl ?_
  obtain ⟨g7, e8, E⟩ := gb_some E
  refine r_putN X (k := 6) dL_act_332 (List.mem_of_getElem? (i := 5) rfl) rfl (by decide) rfl rfl rfl e8 ?_
  refine r_iconst X (v := 0) dL_act_335 (by decide) ?_
  refine r_istore X (L1 := [(7, .int 0), (6, .int x1), (0, .ref a0), (1, .ref a1), (2, .ref a2), (3, .int a3)]) dL_act_336 (by decide) rfl ?_
  refine r_iconst X (v := 0) dL_act_338 (by decide) ?_
  refine r_istore X (L1 := [(8, .int 0), (7, .int 0), (6, .int x1), (0, .ref a0), (1, .ref a1), (2, .ref a2), (3, .int a3)]) dL_act_339 (by decide) rfl ?_
  obtain ⟨t9, g10, e11, E⟩ := cb_some E
  refine r_pick (by rfl : lpick [(8, .int 0), (7, .int 0), (6, .int x1), (0, .ref a0), (1, .ref a1), (2, .ref a2), (3, .int a3)] [3, 5, 6, 1, 0] = _) (t_l_act_l341_r X hl0 hr hnm hst _ _ _ _ _ e11 ?_)
  refine r_aload_n X 0 dL_act_388 rfl rfl ?_
  obtain ⟨x12, e13, E⟩ := gb_some E
  refine r_getR X dL_act_389 f_L_10 e13 ?_
  refine r_iload_n X 3 dL_act_392 rfl rfl ?_
  refine r_aload_n X 2 dL_act_393 rfl rfl ?_
  obtain ⟨x14, e15, E⟩ := gb_some E
  refine r_getIN X (k := 0) dL_act_394 (List.mem_of_getElem? (i := 0) rfl) rfl (by decide) e15 ?_
  obtain ⟨r16, g17, e18, E⟩ := cb_some E
  refine r_callW X hl0 dL_act_397 y_L_swapBlankets m_L_357 (t_l_swapBlankets (l := l) hst (G := G) e18) rfl rfl (Nat.le_of_ble_eq_true rfl) (by decide) ?_
  refine r_iload X dL_act_400 rfl ?_
  refine r_icmp_ne X 409 dL_act_402 (by decide) (fun c19 => ?_) (fun c19 => ?_)
  · rw [if_neg c19] at E
    refine r_iconst X (v := 0) dL_act_409 (by decide) ?_
    cases E
    exact r_zret X hr (Or.inl rfl) dL_act_410 (by decide) (by decide)
  · rw [if_pos c19] at E
    refine r_iconst X (v := 1) dL_act_405 (by decide) ?_
    refine r_goto X 410 dL_act_406 (by decide) ?_
    cases E
    exact r_zret X hr (Or.inr rfl) dL_act_410 (by decide) (by decide)
set_option maxHeartbeats 4000000 in
set_option maxRecDepth 100000 in
theorem t_l_act_j503 {l : Launch} {G : GG} {M : MC} (X : CX M G cL_act 9 RL ⟨11, 49, 294, 323⟩) (hl0 : M.2.1 = l) (hr : (mM M).sig.returnType = (some .boolean)) (hnm : (mM M).name = yL_act.name) (hst : l.stackTraces = false) {s0 : Int32} {s1 : Int32} {g : AH} {r : Int32} {g1 : AH} (E : l_act_j503 (GK G) s0 s1 g = some (r, g1)) : WW M G 9 (RQ M G (some (.int r)) g1 49 294) 27 162 g 503 [] [.int s0, .int s1] := by
  unfold l_act_j503 at E
  refine r_icmp_ne X 510 dL_act_503 (by decide) (fun c1 => ?_) (fun c1 => ?_)
  · rw [if_neg c1] at E
    refine r_iconst X (v := 0) dL_act_510 (by decide) ?_
    cases E
    exact r_zret X hr (Or.inl rfl) dL_act_511 (by decide) (by decide)
  · rw [if_pos c1] at E
    refine r_iconst X (v := 1) dL_act_506 (by decide) ?_
    refine r_goto X 511 dL_act_507 (by decide) ?_
    cases E
    exact r_zret X hr (Or.inr rfl) dL_act_511 (by decide) (by decide)
set_option maxHeartbeats 4000000 in
set_option maxRecDepth 100000 in
theorem t_l_act_j632 {l : Launch} {G : GG} {M : MC} (X : CX M G cL_act 9 RL ⟨11, 49, 294, 323⟩) (hl0 : M.2.1 = l) (hr : (mM M).sig.returnType = (some .boolean)) (hnm : (mM M).name = yL_act.name) (hst : l.stackTraces = false) {a0 : Nat} {a3 : Int32} {a5 : Int32} {g : AH} {r : Int32} {g1 : AH} (E : l_act_j632 (GK G) a0 a3 a5 g = some (r, g1)) : WW M G 9 (RQ M G (some (.int r)) g1 49 294) 36 216 g 632 [(0, .ref a0), (3, .int a3), (5, .int a5)] [] := by
  unfold l_act_j632 at E
  refine r_aload_n X 0 dL_act_632 rfl rfl ?_
  obtain ⟨x1, e2, E⟩ := gb_some E
  refine r_getR X dL_act_633 f_L_10 e2 ?_
  refine r_iload_n X 3 dL_act_636 rfl rfl ?_
  refine r_iload X dL_act_637 rfl ?_
  obtain ⟨r3, g4, e5, E⟩ := cb_some E
  refine r_callW X hl0 dL_act_639 y_L_payDebt m_L_367 (t_l_payDebt (l := l) hst (G := G) e5) rfl rfl (Nat.le_of_ble_eq_true rfl) (by decide) ?_
  refine r_bipush X (v := (-103)) dL_act_642 (by decide) ?_
  refine r_icmp_ne X 651 dL_act_644 (by decide) (fun c6 => ?_) (fun c6 => ?_)
  · rw [if_neg c6] at E
    refine r_iconst X (v := 0) dL_act_651 (by decide) ?_
    cases E
    exact r_zret X hr (Or.inl rfl) dL_act_652 (by decide) (by decide)
  · rw [if_pos c6] at E
    refine r_iconst X (v := 1) dL_act_647 (by decide) ?_
    refine r_goto X 652 dL_act_648 (by decide) ?_
    cases E
    exact r_zret X hr (Or.inr rfl) dL_act_652 (by decide) (by decide)
set_option maxHeartbeats 4000000 in
set_option maxRecDepth 100000 in
theorem t_l_act_l746 {l : Launch} {G : GG} {M : MC} (X : CX M G cL_act 9 RL ⟨11, 49, 294, 323⟩) (hl0 : M.2.1 = l) (hr : (mM M).sig.returnType = (some .boolean)) (hnm : (mM M).name = yL_act.name) (hst : l.stackTraces = false) {Q : State → Prop} {kc ks : Nat} {s9 : ((Int32) ⊕ (Unit))} {g1 : AH} {a0 : Nat} {a5 : Int32} {a6 : Int32} {s0 : Int32} (hc : ∀ s1, s9 = .inl s1 → WW M G 9 Q kc ks g1 746 [(0, .ref a0), (5, .int a5), (6, .int a6), (7, .int s1)] []) (hx : ∀ t, s9 = .inr t → WW M G 9 Q kc ks g1 763 [(0, .ref a0), (5, .int a5), (6, .int a6)] []) {g : AH} (E : l_act_l746 (GK G) a0 a5 a6 s0 g = some (s9, g1)) : WW M G 9 Q kc ks g 746 [(0, .ref a0), (5, .int a5), (6, .int a6), (7, .int s0)] [] := by
  unfold l_act_l746 at E
  refine r_iload X dL_act_746 rfl ?_
  refine r_iload X dL_act_748 rfl ?_
  refine r_icmp_ge X 763 dL_act_750 (by decide) (fun c1 => ?_) (fun c1 => ?_)
  · rw [if_pos c1] at E
    cases E
    exact r_pick (by rfl : lpick [(0, .ref a0), (5, .int a5), (6, .int a6), (7, .int s0)] [0, 1, 2] = _) (hx _ rfl)
  · rw [if_neg c1] at E
    refine r_aload_n X 0 dL_act_753 rfl rfl ?_
    obtain ⟨u5, e6, E⟩ := gb_some E
    obtain ⟨r2, g3, e4, E⟩ := cb_some E
    refine r_callV0 X hl0 (ci := 10) dL_act_754 y_L_passes m_L_371 rfl rfl e6 (t_l_passes (l := l) hst (G := G) e4) rfl rfl (Nat.le_of_ble_eq_true rfl) (by decide) ?_
    refine r_iinc X (v := (s0 + 1)) (L1 := [(7, .int (s0 + 1)), (0, .ref a0), (5, .int a5), (6, .int a6)]) dL_act_757 rfl rfl (by decide) rfl ?_
    refine r_goto X 746 dL_act_760 (by decide) ?_
    cases E
    exact r_pick (by rfl : lpick [(7, .int (s0 + 1)), (0, .ref a0), (5, .int a5), (6, .int a6)] [1, 2, 3, 0] = _) (hc _ rfl)
set_option maxHeartbeats 4000000 in
theorem t_l_act_l746_r {l : Launch} {G : GG} {M : MC} (X : CX M G cL_act 9 RL ⟨11, 49, 294, 323⟩) (hl0 : M.2.1 = l) (hr : (mM M).sig.returnType = (some .boolean)) (hnm : (mM M).name = yL_act.name) (hst : l.stackTraces = false) {Q : State → Prop} {kc ks : Nat} {a0 : Nat} {a5 : Int32} {a6 : Int32} : ∀ (n : Nat) (s0 : Int32) (g : AH) (t : (Unit)) (g1 : AH), loopX (l_act_l746 (GK G) a0 a5 a6) n s0 g = some (t, g1) → WW M G 9 Q kc ks g1 763 [(0, .ref a0), (5, .int a5), (6, .int a6)] [] → WW M G 9 Q kc ks g 746 [(0, .ref a0), (5, .int a5), (6, .int a6), (7, .int s0)] [] :=
  loop_cps (K := fun (t : (Unit)) g1 => WW M G 9 Q kc ks g1 763 [(0, .ref a0), (5, .int a5), (6, .int a6)] []) (fun _ (s0 : Int32) g => WW M G 9 Q kc ks g 746 [(0, .ref a0), (5, .int a5), (6, .int a6), (7, .int s0)] []) (fun n s0 g st g1 E hc hx => t_l_act_l746 X hl0 hr hnm hst hc hx E)
set_option maxHeartbeats 4000000 in
set_option maxRecDepth 100000 in
theorem t_l_act_b {l : Launch} {G : GG} {M : MC} (X : CX M G cL_act 9 RL ⟨11, 49, 294, 323⟩) (hl0 : M.2.1 = l) (hr : (mM M).sig.returnType = (some .boolean)) (hnm : (mM M).name = yL_act.name) (hst : l.stackTraces = false) {p : Nat} {g : AH} {r : Int32} {g1 : AH} (E : l_act (GK G) p g = some (r, g1)) : WW M G 9 (RQ M G (some (.int r)) g1 49 294) 0 0 g 0 [(0, .ref p)] [] := by
  unfold l_act at E
  refine r_aload_n X 0 dL_act_0 rfl rfl ?_
  obtain ⟨x1, e2, E⟩ := gb_some E
  refine r_getR X dL_act_1 f_L_19 e2 ?_
  refine r_aload_n X 0 dL_act_4 rfl rfl ?_
  refine r_aload_n X 0 dL_act_5 rfl rfl ?_
  obtain ⟨x3, e4, E⟩ := gb_some E
  refine r_getR X dL_act_6 f_L_19 e4 ?_
  obtain ⟨u8, e9, E⟩ := gb_some E
  obtain ⟨r5, g6, e7, E⟩ := cb_some E
  refine r_callV0 X hl0 (ci := 12) dL_act_9 y_Jx4a65c_size_8abf5 m_L_210 rfl rfl e9 (t_jx4a65c_size_8abf5 (l := l) (G := G) e7) rfl rfl (Nat.le_of_ble_eq_true rfl) (by decide) ?_
  obtain ⟨u13, e14, E⟩ := gb_some E
  obtain ⟨r10, g11, e12, E⟩ := cb_some E
  refine r_callV0 X hl0 (ci := 10) dL_act_12 y_L_draw m_L_169 rfl rfl e14 (t_l_draw (l := l) hst (G := G) e12) rfl rfl (Nat.le_of_ble_eq_true rfl) (by decide) ?_
  obtain ⟨u18, e19, E⟩ := gb_some E
  obtain ⟨r15, g16, e17, E⟩ := cb_some E
  refine r_callV0 X hl0 (ci := 12) dL_act_15 y_Jx4a65c_get_915e3 m_L_246 rfl rfl e19 (t_jx4a65c_get_915e3 (l := l) (G := G) e17) rfl rfl (Nat.le_of_ble_eq_true rfl) (by decide) ?_
  obtain ⟨u20, e21, E⟩ := gb_some E
  refine r_cast X (ci := 9) dL_act_18 rfl k_L_207 e21 ?_
  refine r_astore_n X 1 (L1 := [(1, .ref r15), (0, .ref p)]) dL_act_21 rfl (by decide) rfl ?_
  refine r_aload_n X 0 dL_act_22 rfl rfl ?_
  obtain ⟨x22, e23, E⟩ := gb_some E
  refine r_getR X dL_act_23 f_L_19 e23 ?_
  refine r_aload_n X 0 dL_act_26 rfl rfl ?_
  refine r_aload_n X 0 dL_act_27 rfl rfl ?_
  obtain ⟨x24, e25, E⟩ := gb_some E
  refine r_getR X dL_act_28 f_L_19 e25 ?_
  obtain ⟨u29, e30, E⟩ := gb_some E
  obtain ⟨r26, g27, e28, E⟩ := cb_some E
  refine r_callV0 X hl0 (ci := 12) dL_act_31 y_Jx4a65c_size_8abf5 m_L_210 rfl rfl e30 (t_jx4a65c_size_8abf5 (l := l) (G := G) e28) rfl rfl (Nat.le_of_ble_eq_true rfl) (by decide) ?_
  obtain ⟨u34, e35, E⟩ := gb_some E
  obtain ⟨r31, g32, e33, E⟩ := cb_some E
  refine r_callV0 X hl0 (ci := 10) dL_act_34 y_L_draw m_L_169 rfl rfl e35 (t_l_draw (l := l) hst (G := G) e33) rfl rfl (Nat.le_of_ble_eq_true rfl) (by decide) ?_
  obtain ⟨u39, e40, E⟩ := gb_some E
  obtain ⟨r36, g37, e38, E⟩ := cb_some E
  refine r_callV0 X hl0 (ci := 12) dL_act_37 y_Jx4a65c_get_915e3 m_L_246 rfl rfl e40 (t_jx4a65c_get_915e3 (l := l) (G := G) e38) rfl rfl (Nat.le_of_ble_eq_true rfl) (by decide) ?_
  obtain ⟨u41, e42, E⟩ := gb_some E
  refine r_cast X (ci := 9) dL_act_40 rfl k_L_207 e42 ?_
  refine r_astore_n X 2 (L1 := [(2, .ref r36), (1, .ref r15), (0, .ref p)]) dL_act_43 rfl (by decide) rfl ?_
  refine r_aload_n X 1 dL_act_44 rfl rfl ?_
  obtain ⟨x43, e44, E⟩ := gb_some E
  refine r_getIN X (k := 0) dL_act_45 (List.mem_of_getElem? (i := 0) rfl) rfl (by decide) e44 ?_
  refine r_istore_n X 3 (L1 := [(3, .int x43), (2, .ref r36), (1, .ref r15), (0, .ref p)]) dL_act_48 rfl (by decide) rfl ?_
  refine r_aload_n X 0 dL_act_49 rfl rfl ?_
  refine r_aload_n X 0 dL_act_50 rfl rfl ?_
  obtain ⟨x45, e46, E⟩ := gb_some E
  refine r_getI X dL_act_51 f_L_175 e46 ?_
  obtain ⟨u50, e51, E⟩ := gb_some E
  obtain ⟨r47, g48, e49, E⟩ := cb_some E
  refine r_callV0 X hl0 (ci := 10) dL_act_54 y_L_draw m_L_169 rfl rfl e51 (t_l_draw (l := l) hst (G := G) e49) rfl rfl (Nat.le_of_ble_eq_true rfl) (by decide) ?_
  refine r_istore X (L1 := [(4, .int r47), (3, .int x43), (2, .ref r36), (1, .ref r15), (0, .ref p)]) dL_act_57 (by decide) rfl ?_
  refine r_iconst X (v := 1) dL_act_59 (by decide) ?_
  refine r_aload_n X 0 dL_act_60 rfl rfl ?_
  refine r_bipush X (v := 6) dL_act_61 (by decide) ?_
  obtain ⟨u55, e56, E⟩ := gb_some E
  obtain ⟨r52, g53, e54, E⟩ := cb_some E
  refine r_callV0 X hl0 (ci := 10) dL_act_63 y_L_draw m_L_169 rfl rfl e56 (t_l_draw (l := l) hst (G := G) e54) rfl rfl (Nat.le_of_ble_eq_true rfl) (by decide) ?_
  refine r_iadd X dL_act_66 ?_
  refine r_istore X (L1 := [(5, .int (1 + r52)), (4, .int r47), (3, .int x43), (2, .ref r36), (1, .ref r15), (0, .ref p)]) dL_act_67 (by decide) rfl ?_
  refine r_aload_n X 0 dL_act_69 rfl rfl ?_
  refine r_bipush X (v := 14) dL_act_70 (by decide) ?_
  obtain ⟨u60, e61, E⟩ := gb_some E
  obtain ⟨r57, g58, e59, E⟩ := cb_some E
  refine r_callV0 X hl0 (ci := 10) dL_act_72 y_L_draw m_L_169 rfl rfl e61 (t_l_draw (l := l) hst (G := G) e59) rfl rfl (Nat.le_of_ble_eq_true rfl) (by decide) ?_
  by_cases c62 : r57 = 0
  · rw [if_pos c62] at E
    refine r_tswI X 0 136 dL_act_75 c62 (by decide) (by decide) rfl (by decide) ?_
    refine r_aload_n X 0 dL_act_136 rfl rfl ?_
    obtain ⟨x63, e64, E⟩ := gb_some E
    refine r_getI X dL_act_137 f_L_178 e64 ?_
    refine r_if_ne X 163 dL_act_140 (by decide) (fun c65 => ?_) (fun c65 => ?_)
    · rw [if_neg c65] at E
      refine r_aload_n X 0 dL_act_163 rfl rfl ?_
      refine r_aload_n X 0 dL_act_164 rfl rfl ?_
      obtain ⟨x66, e67, E⟩ := gb_some E
      refine r_getI X dL_act_165 f_L_178 e67 ?_
      obtain ⟨u71, e72, E⟩ := gb_some E
      obtain ⟨r68, g69, e70, E⟩ := cb_some E
      refine r_callV0 X hl0 (ci := 10) dL_act_168 y_L_draw m_L_169 rfl rfl e72 (t_l_draw (l := l) hst (G := G) e70) rfl rfl (Nat.le_of_ble_eq_true rfl) (by decide) ?_
      refine r_istore X (L1 := [(7, .int r68), (5, .int (1 + r52)), (4, .int r47), (3, .int x43), (2, .ref r36), (1, .ref r15), (0, .ref p)]) dL_act_171 (by decide) rfl ?_
      refine r_aload_n X 0 dL_act_173 rfl rfl ?_
      refine r_iload X dL_act_174 rfl ?_
      obtain ⟨u76, e77, E⟩ := gb_some E
      obtain ⟨r73, g74, e75, E⟩ := cb_some E
      refine r_callV0 X hl0 (ci := 10) dL_act_176 y_L_under m_L_314 rfl rfl e77 (t_l_under (l := l) hst (G := G) e75) rfl rfl (Nat.le_of_ble_eq_true rfl) (by decide) ?_
      rcases r73 with _ | y78
      · rw [nb_none] at E
        refine r_ifnull0 X 203 dL_act_179 (by decide) ?_
        refine r_aload_n X 1 dL_act_203 rfl rfl ?_
        refine r_iload X dL_act_204 rfl ?_
        obtain ⟨g79, e80, E⟩ := gb_some E
        refine r_putN X (k := 6) dL_act_206 (List.mem_of_getElem? (i := 5) rfl) rfl (by decide) rfl rfl rfl e80 ?_
        refine r_aload_n X 0 dL_act_209 rfl rfl ?_
        obtain ⟨x81, e82, E⟩ := gb_some E
        refine r_getR X dL_act_210 f_L_10 e82 ?_
        refine r_iload_n X 3 dL_act_213 rfl rfl ?_
        refine r_iload X dL_act_214 rfl ?_
        obtain ⟨r83, g84, e85, E⟩ := cb_some E
        refine r_callW X hl0 dL_act_216 y_L_takeBlanket m_L_353 (t_l_takeBlanket (l := l) hst (G := G) e85) rfl rfl (Nat.le_of_ble_eq_true rfl) (by decide) ?_
        refine r_aload_n X 0 dL_act_219 rfl rfl ?_
        refine r_aload_n X 1 dL_act_220 rfl rfl ?_
        obtain ⟨u89, e90, E⟩ := gb_some E
        obtain ⟨r86, g87, e88, E⟩ := cb_some E
        refine r_callV0 X hl0 (ci := 10) dL_act_221 y_L_warm m_L_260 rfl rfl e90 (t_l_warm (l := l) hst (G := G) e88) rfl rfl (Nat.le_of_ble_eq_true rfl) (by decide) ?_
        refine r_icmp_ne X 231 dL_act_224 (by decide) (fun c91 => ?_) (fun c91 => ?_)
        · rw [if_neg c91] at E
          refine r_iconst X (v := 0) dL_act_231 (by decide) ?_
          cases E
          exact r_zret X hr (Or.inl rfl) dL_act_232 (by decide) (by decide)
        · rw [if_pos c91] at E
          refine r_iconst X (v := 1) dL_act_227 (by decide) ?_
          refine r_goto X 232 dL_act_228 (by decide) ?_
          cases E
          exact r_zret X hr (Or.inr rfl) dL_act_232 (by decide) (by decide)
      · rw [nb_some] at E
        refine r_ifnull1 X dL_act_179 ?_
        refine r_aload_n X 0 dL_act_182 rfl rfl ?_
        obtain ⟨x92, e93, E⟩ := gb_some E
        refine r_getR X dL_act_183 f_L_10 e93 ?_
        refine r_iload_n X 3 dL_act_186 rfl rfl ?_
        refine r_iload X dL_act_187 rfl ?_
        obtain ⟨r94, g95, e96, E⟩ := cb_some E
        refine r_callW X hl0 dL_act_189 y_L_takeBlanket m_L_353 (t_l_takeBlanket (l := l) hst (G := G) e96) rfl rfl (Nat.le_of_ble_eq_true rfl) (by decide) ?_
        refine r_bipush X (v := (-103)) dL_act_192 (by decide) ?_
        refine r_icmp_ne X 201 dL_act_194 (by decide) (fun c97 => ?_) (fun c97 => ?_)
        · rw [if_neg c97] at E
          refine r_iconst X (v := 0) dL_act_201 (by decide) ?_
          cases E
          exact r_zret X hr (Or.inl rfl) dL_act_202 (by decide) (by decide)
        · rw [if_pos c97] at E
          refine r_iconst X (v := 1) dL_act_197 (by decide) ?_
          refine r_goto X 202 dL_act_198 (by decide) ?_
          cases E
          exact r_zret X hr (Or.inr rfl) dL_act_202 (by decide) (by decide)
    · rw [if_pos c65] at E
      refine r_aload_n X 0 dL_act_143 rfl rfl ?_
      obtain ⟨x98, e99, E⟩ := gb_some E
      refine r_getR X dL_act_144 f_L_10 e99 ?_
      refine r_iload_n X 3 dL_act_147 rfl rfl ?_
      refine r_iconst X (v := 0) dL_act_148 (by decide) ?_
      obtain ⟨r100, g101, e102, E⟩ := cb_some E
      refine r_callW X hl0 dL_act_149 y_L_takeBlanket m_L_353 (t_l_takeBlanket (l := l) hst (G := G) e102) rfl rfl (Nat.le_of_ble_eq_true rfl) (by decide) ?_
      refine r_bipush X (v := (-101)) dL_act_152 (by decide) ?_
      refine r_icmp_ne X 161 dL_act_154 (by decide) (fun c103 => ?_) (fun c103 => ?_)
      · rw [if_neg c103] at E
        refine r_iconst X (v := 0) dL_act_161 (by decide) ?_
        cases E
        exact r_zret X hr (Or.inl rfl) dL_act_162 (by decide) (by decide)
      · rw [if_pos c103] at E
        refine r_iconst X (v := 1) dL_act_157 (by decide) ?_
        refine r_goto X 162 dL_act_158 (by decide) ?_
        cases E
        exact r_zret X hr (Or.inr rfl) dL_act_162 (by decide) (by decide)
  rw [if_neg c62] at E
  by_cases c104 : r57 = 1
  · rw [if_pos c104] at E
    refine r_tswI X 1 136 dL_act_75 c104 (by decide) (by decide) rfl (by decide) ?_
    refine r_aload_n X 0 dL_act_136 rfl rfl ?_
    obtain ⟨x105, e106, E⟩ := gb_some E
    refine r_getI X dL_act_137 f_L_178 e106 ?_
    refine r_if_ne X 163 dL_act_140 (by decide) (fun c107 => ?_) (fun c107 => ?_)
    · rw [if_neg c107] at E
      refine r_aload_n X 0 dL_act_163 rfl rfl ?_
      refine r_aload_n X 0 dL_act_164 rfl rfl ?_
      obtain ⟨x108, e109, E⟩ := gb_some E
      refine r_getI X dL_act_165 f_L_178 e109 ?_
      obtain ⟨u113, e114, E⟩ := gb_some E
      obtain ⟨r110, g111, e112, E⟩ := cb_some E
      refine r_callV0 X hl0 (ci := 10) dL_act_168 y_L_draw m_L_169 rfl rfl e114 (t_l_draw (l := l) hst (G := G) e112) rfl rfl (Nat.le_of_ble_eq_true rfl) (by decide) ?_
      refine r_istore X (L1 := [(7, .int r110), (5, .int (1 + r52)), (4, .int r47), (3, .int x43), (2, .ref r36), (1, .ref r15), (0, .ref p)]) dL_act_171 (by decide) rfl ?_
      refine r_aload_n X 0 dL_act_173 rfl rfl ?_
      refine r_iload X dL_act_174 rfl ?_
      obtain ⟨u118, e119, E⟩ := gb_some E
      obtain ⟨r115, g116, e117, E⟩ := cb_some E
      refine r_callV0 X hl0 (ci := 10) dL_act_176 y_L_under m_L_314 rfl rfl e119 (t_l_under (l := l) hst (G := G) e117) rfl rfl (Nat.le_of_ble_eq_true rfl) (by decide) ?_
      rcases r115 with _ | y120
      · rw [nb_none] at E
        refine r_ifnull0 X 203 dL_act_179 (by decide) ?_
        refine r_aload_n X 1 dL_act_203 rfl rfl ?_
        refine r_iload X dL_act_204 rfl ?_
        obtain ⟨g121, e122, E⟩ := gb_some E
        refine r_putN X (k := 6) dL_act_206 (List.mem_of_getElem? (i := 5) rfl) rfl (by decide) rfl rfl rfl e122 ?_
        refine r_aload_n X 0 dL_act_209 rfl rfl ?_
        obtain ⟨x123, e124, E⟩ := gb_some E
        refine r_getR X dL_act_210 f_L_10 e124 ?_
        refine r_iload_n X 3 dL_act_213 rfl rfl ?_
        refine r_iload X dL_act_214 rfl ?_
        obtain ⟨r125, g126, e127, E⟩ := cb_some E
        refine r_callW X hl0 dL_act_216 y_L_takeBlanket m_L_353 (t_l_takeBlanket (l := l) hst (G := G) e127) rfl rfl (Nat.le_of_ble_eq_true rfl) (by decide) ?_
        refine r_aload_n X 0 dL_act_219 rfl rfl ?_
        refine r_aload_n X 1 dL_act_220 rfl rfl ?_
        obtain ⟨u131, e132, E⟩ := gb_some E
        obtain ⟨r128, g129, e130, E⟩ := cb_some E
        refine r_callV0 X hl0 (ci := 10) dL_act_221 y_L_warm m_L_260 rfl rfl e132 (t_l_warm (l := l) hst (G := G) e130) rfl rfl (Nat.le_of_ble_eq_true rfl) (by decide) ?_
        refine r_icmp_ne X 231 dL_act_224 (by decide) (fun c133 => ?_) (fun c133 => ?_)
        · rw [if_neg c133] at E
          refine r_iconst X (v := 0) dL_act_231 (by decide) ?_
          cases E
          exact r_zret X hr (Or.inl rfl) dL_act_232 (by decide) (by decide)
        · rw [if_pos c133] at E
          refine r_iconst X (v := 1) dL_act_227 (by decide) ?_
          refine r_goto X 232 dL_act_228 (by decide) ?_
          cases E
          exact r_zret X hr (Or.inr rfl) dL_act_232 (by decide) (by decide)
      · rw [nb_some] at E
        refine r_ifnull1 X dL_act_179 ?_
        refine r_aload_n X 0 dL_act_182 rfl rfl ?_
        obtain ⟨x134, e135, E⟩ := gb_some E
        refine r_getR X dL_act_183 f_L_10 e135 ?_
        refine r_iload_n X 3 dL_act_186 rfl rfl ?_
        refine r_iload X dL_act_187 rfl ?_
        obtain ⟨r136, g137, e138, E⟩ := cb_some E
        refine r_callW X hl0 dL_act_189 y_L_takeBlanket m_L_353 (t_l_takeBlanket (l := l) hst (G := G) e138) rfl rfl (Nat.le_of_ble_eq_true rfl) (by decide) ?_
        refine r_bipush X (v := (-103)) dL_act_192 (by decide) ?_
        refine r_icmp_ne X 201 dL_act_194 (by decide) (fun c139 => ?_) (fun c139 => ?_)
        · rw [if_neg c139] at E
          refine r_iconst X (v := 0) dL_act_201 (by decide) ?_
          cases E
          exact r_zret X hr (Or.inl rfl) dL_act_202 (by decide) (by decide)
        · rw [if_pos c139] at E
          refine r_iconst X (v := 1) dL_act_197 (by decide) ?_
          refine r_goto X 202 dL_act_198 (by decide) ?_
          cases E
          exact r_zret X hr (Or.inr rfl) dL_act_202 (by decide) (by decide)
    · rw [if_pos c107] at E
      refine r_aload_n X 0 dL_act_143 rfl rfl ?_
      obtain ⟨x140, e141, E⟩ := gb_some E
      refine r_getR X dL_act_144 f_L_10 e141 ?_
      refine r_iload_n X 3 dL_act_147 rfl rfl ?_
      refine r_iconst X (v := 0) dL_act_148 (by decide) ?_
      obtain ⟨r142, g143, e144, E⟩ := cb_some E
      refine r_callW X hl0 dL_act_149 y_L_takeBlanket m_L_353 (t_l_takeBlanket (l := l) hst (G := G) e144) rfl rfl (Nat.le_of_ble_eq_true rfl) (by decide) ?_
      refine r_bipush X (v := (-101)) dL_act_152 (by decide) ?_
      refine r_icmp_ne X 161 dL_act_154 (by decide) (fun c145 => ?_) (fun c145 => ?_)
      · rw [if_neg c145] at E
        refine r_iconst X (v := 0) dL_act_161 (by decide) ?_
        cases E
        exact r_zret X hr (Or.inl rfl) dL_act_162 (by decide) (by decide)
      · rw [if_pos c145] at E
        refine r_iconst X (v := 1) dL_act_157 (by decide) ?_
        refine r_goto X 162 dL_act_158 (by decide) ?_
        cases E
        exact r_zret X hr (Or.inr rfl) dL_act_162 (by decide) (by decide)
  rw [if_neg c104] at E
  by_cases c146 : r57 = 2
  · rw [if_pos c146] at E
    refine r_tswI X 2 233 dL_act_75 c146 (by decide) (by decide) rfl (by decide) ?_
    refine r_aload_n X 1 dL_act_233 rfl rfl ?_
    obtain ⟨x147, e148, E⟩ := gb_some E
    refine r_getIN X (k := 6) dL_act_234 (List.mem_of_getElem? (i := 5) rfl) rfl (by decide) e148 ?_
    refine r_istore X (L1 := [(6, .int x147), (5, .int (1 + r52)), (4, .int r47), (3, .int x43), (2, .ref r36), (1, .ref r15), (0, .ref p)]) dL_act_237 (by decide) rfl ?_
    refine r_aload_n X 1 dL_act_239 rfl rfl ?_
    refine r_iconst X (v := (-1)) dL_act_240 (by decide) ?_
    obtain ⟨g149, e150, E⟩ := gb_some E
    refine r_putN X (k := 6) dL_act_241 (List.mem_of_getElem? (i := 5) rfl) rfl (by decide) rfl rfl rfl e150 ?_
    refine r_aload_n X 0 dL_act_244 rfl rfl ?_
    obtain ⟨x151, e152, E⟩ := gb_some E
    refine r_getR X dL_act_245 f_L_10 e152 ?_
    refine r_iload_n X 3 dL_act_248 rfl rfl ?_
    obtain ⟨r153, g154, e155, E⟩ := cb_some E
    refine r_callW X hl0 dL_act_249 y_L_returnBlanket m_L_355 (t_l_returnBlanket (l := l) hst (G := G) e155) rfl rfl (Nat.le_of_ble_eq_true rfl) (by decide) ?_
    refine r_iload X dL_act_252 rfl ?_
    refine r_if_ge X 262 dL_act_254 (by decide) (fun c156 => ?_) (fun c156 => ?_)
    · rw [if_pos c156] at E
      refine r_iload X dL_act_262 rfl ?_
      exact r_widen X (by decide) (by decide) <| r_pick (by rfl : lpick [(6, .int x147), (5, .int (1 + r52)), (4, .int r47), (3, .int x43), (2, .ref r36), (1, .ref r15), (0, .ref p)] [] = _) (t_l_act_j264 X hl0 hr hnm hst E)
    · rw [if_neg c156] at E
      refine r_bipush X (v := (-103)) dL_act_257 (by decide) ?_
      refine r_goto X 264 dL_act_259 (by decide) ?_
      exact r_widen X (by decide) (by decide) <| r_pick (by rfl : lpick [(6, .int x147), (5, .int (1 + r52)), (4, .int r47), (3, .int x43), (2, .ref r36), (1, .ref r15), (0, .ref p)] [] = _) (t_l_act_j264 X hl0 hr hnm hst E)
  rw [if_neg c146] at E
  by_cases c157 : r57 = 3
  · rw [if_pos c157] at E
    refine r_tswI X 3 273 dL_act_75 c157 (by decide) (by decide) rfl (by decide) ?_
    refine r_aload_n X 1 dL_act_273 rfl rfl ?_
    refine r_aload_n X 2 dL_act_274 rfl rfl ?_
    refine r_acmp_eq X 292 dL_act_275 (by decide) (fun c158 => ?_) (fun c158 => ?_)
    · rw [if_pos c158] at E
      exact r_widen X (by decide) (by decide) <| r_pick (by rfl : lpick [(5, .int (1 + r52)), (4, .int r47), (3, .int x43), (2, .ref r36), (1, .ref r15), (0, .ref p)] [5, 3, 2] = _) (t_l_act_j292 X hl0 hr hnm hst E)
    · rw [if_neg c158] at E
      refine r_aload_n X 1 dL_act_278 rfl rfl ?_
      obtain ⟨x159, e160, E⟩ := gb_some E
      refine r_getIN X (k := 6) dL_act_279 (List.mem_of_getElem? (i := 5) rfl) rfl (by decide) e160 ?_
      refine r_if_ge X 315 dL_act_282 (by decide) (fun c161 => ?_) (fun c161 => ?_)
      · rw [if_pos c161] at E
        exact r_widen X (by decide) (by decide) <| r_pick (by rfl : lpick [(5, .int (1 + r52)), (4, .int r47), (3, .int x43), (2, .ref r36), (1, .ref r15), (0, .ref p)] [5, 4, 3, 2] = _) (t_l_act_j315 X hl0 hr hnm hst E)
      · rw [if_neg c161] at E
        refine r_aload_n X 2 dL_act_285 rfl rfl ?_
        obtain ⟨x162, e163, E⟩ := gb_some E
        refine r_getIN X (k := 6) dL_act_286 (List.mem_of_getElem? (i := 5) rfl) rfl (by decide) e163 ?_
        refine r_if_ge X 315 dL_act_289 (by decide) (fun c164 => ?_) (fun c164 => ?_)
        · rw [if_pos c164] at E
          exact r_widen X (by decide) (by decide) <| r_pick (by rfl : lpick [(5, .int (1 + r52)), (4, .int r47), (3, .int x43), (2, .ref r36), (1, .ref r15), (0, .ref p)] [5, 4, 3, 2] = _) (t_l_act_j315 X hl0 hr hnm hst E)
        · rw [if_neg c164] at E
          exact r_widen X (by decide) (by decide) <| r_pick (by rfl : lpick [(5, .int (1 + r52)), (4, .int r47), (3, .int x43), (2, .ref r36), (1, .ref r15), (0, .ref p)] [5, 3, 2] = _) (t_l_act_j292 X hl0 hr hnm hst E)
  rw [if_neg c157] at E
  by_cases c165 : r57 = 4
  · rw [if_pos c165] at E
    refine r_tswI X 4 411 dL_act_75 c165 (by decide) (by decide) rfl (by decide) ?_
    refine r_aload_n X 0 dL_act_411 rfl rfl ?_
    refine r_iload X dL_act_412 rfl ?_
    obtain ⟨u169, e170, E⟩ := gb_some E
    obtain ⟨r166, g167, e168, E⟩ := cb_some E
    refine r_callV0 X hl0 (ci := 10) dL_act_414 y_L_in m_L_256 rfl rfl e170 (t_l_in (l := l) hst (G := G) e168) rfl rfl (Nat.le_of_ble_eq_true rfl) (by decide) ?_
    rcases r166 with _ | y171
    · rw [nb_none] at E
      refine r_ifnull0 X 441 dL_act_417 (by decide) ?_
      refine r_aload_n X 1 dL_act_441 rfl rfl ?_
      refine r_iload X dL_act_442 rfl ?_
      obtain ⟨g172, e173, E⟩ := gb_some E
      refine r_putN X (k := 5) dL_act_444 (List.mem_of_getElem? (i := 4) rfl) rfl (by decide) rfl rfl rfl e173 ?_
      refine r_aload_n X 0 dL_act_447 rfl rfl ?_
      obtain ⟨x174, e175, E⟩ := gb_some E
      refine r_getR X dL_act_448 f_L_10 e175 ?_
      refine r_iload_n X 3 dL_act_451 rfl rfl ?_
      refine r_iload X dL_act_452 rfl ?_
      obtain ⟨r176, g177, e178, E⟩ := cb_some E
      refine r_callW X hl0 dL_act_454 y_L_lieDown m_L_359 (t_l_lieDown (l := l) hst (G := G) e178) rfl rfl (Nat.le_of_ble_eq_true rfl) (by decide) ?_
      refine r_aload_n X 0 dL_act_457 rfl rfl ?_
      refine r_iload X dL_act_458 rfl ?_
      obtain ⟨u182, e183, E⟩ := gb_some E
      obtain ⟨r179, g180, e181, E⟩ := cb_some E
      refine r_callV0 X hl0 (ci := 10) dL_act_460 y_L_noise m_L_271 rfl rfl e183 (t_l_noise (l := l) hst (G := G) e181) rfl rfl (Nat.le_of_ble_eq_true rfl) (by decide) ?_
      refine r_icmp_ne X 470 dL_act_463 (by decide) (fun c184 => ?_) (fun c184 => ?_)
      · rw [if_neg c184] at E
        refine r_iconst X (v := 0) dL_act_470 (by decide) ?_
        cases E
        exact r_zret X hr (Or.inl rfl) dL_act_471 (by decide) (by decide)
      · rw [if_pos c184] at E
        refine r_iconst X (v := 1) dL_act_466 (by decide) ?_
        refine r_goto X 471 dL_act_467 (by decide) ?_
        cases E
        exact r_zret X hr (Or.inr rfl) dL_act_471 (by decide) (by decide)
    · rw [nb_some] at E
      refine r_ifnull1 X dL_act_417 ?_
      refine r_aload_n X 0 dL_act_420 rfl rfl ?_
      obtain ⟨x185, e186, E⟩ := gb_some E
      refine r_getR X dL_act_421 f_L_10 e186 ?_
      refine r_iload_n X 3 dL_act_424 rfl rfl ?_
      refine r_iload X dL_act_425 rfl ?_
      obtain ⟨r187, g188, e189, E⟩ := cb_some E
      refine r_callW X hl0 dL_act_427 y_L_lieDown m_L_359 (t_l_lieDown (l := l) hst (G := G) e189) rfl rfl (Nat.le_of_ble_eq_true rfl) (by decide) ?_
      refine r_bipush X (v := (-103)) dL_act_430 (by decide) ?_
      refine r_icmp_ne X 439 dL_act_432 (by decide) (fun c190 => ?_) (fun c190 => ?_)
      · rw [if_neg c190] at E
        refine r_iconst X (v := 0) dL_act_439 (by decide) ?_
        cases E
        exact r_zret X hr (Or.inl rfl) dL_act_440 (by decide) (by decide)
      · rw [if_pos c190] at E
        refine r_iconst X (v := 1) dL_act_435 (by decide) ?_
        refine r_goto X 440 dL_act_436 (by decide) ?_
        cases E
        exact r_zret X hr (Or.inr rfl) dL_act_440 (by decide) (by decide)
  rw [if_neg c165] at E
  by_cases c191 : r57 = 5
  · rw [if_pos c191] at E
    refine r_tswI X 5 411 dL_act_75 c191 (by decide) (by decide) rfl (by decide) ?_
    refine r_aload_n X 0 dL_act_411 rfl rfl ?_
    refine r_iload X dL_act_412 rfl ?_
    obtain ⟨u195, e196, E⟩ := gb_some E
    obtain ⟨r192, g193, e194, E⟩ := cb_some E
    refine r_callV0 X hl0 (ci := 10) dL_act_414 y_L_in m_L_256 rfl rfl e196 (t_l_in (l := l) hst (G := G) e194) rfl rfl (Nat.le_of_ble_eq_true rfl) (by decide) ?_
    rcases r192 with _ | y197
    · rw [nb_none] at E
      refine r_ifnull0 X 441 dL_act_417 (by decide) ?_
      refine r_aload_n X 1 dL_act_441 rfl rfl ?_
      refine r_iload X dL_act_442 rfl ?_
      obtain ⟨g198, e199, E⟩ := gb_some E
      refine r_putN X (k := 5) dL_act_444 (List.mem_of_getElem? (i := 4) rfl) rfl (by decide) rfl rfl rfl e199 ?_
      refine r_aload_n X 0 dL_act_447 rfl rfl ?_
      obtain ⟨x200, e201, E⟩ := gb_some E
      refine r_getR X dL_act_448 f_L_10 e201 ?_
      refine r_iload_n X 3 dL_act_451 rfl rfl ?_
      refine r_iload X dL_act_452 rfl ?_
      obtain ⟨r202, g203, e204, E⟩ := cb_some E
      refine r_callW X hl0 dL_act_454 y_L_lieDown m_L_359 (t_l_lieDown (l := l) hst (G := G) e204) rfl rfl (Nat.le_of_ble_eq_true rfl) (by decide) ?_
      refine r_aload_n X 0 dL_act_457 rfl rfl ?_
      refine r_iload X dL_act_458 rfl ?_
      obtain ⟨u208, e209, E⟩ := gb_some E
      obtain ⟨r205, g206, e207, E⟩ := cb_some E
      refine r_callV0 X hl0 (ci := 10) dL_act_460 y_L_noise m_L_271 rfl rfl e209 (t_l_noise (l := l) hst (G := G) e207) rfl rfl (Nat.le_of_ble_eq_true rfl) (by decide) ?_
      refine r_icmp_ne X 470 dL_act_463 (by decide) (fun c210 => ?_) (fun c210 => ?_)
      · rw [if_neg c210] at E
        refine r_iconst X (v := 0) dL_act_470 (by decide) ?_
        cases E
        exact r_zret X hr (Or.inl rfl) dL_act_471 (by decide) (by decide)
      · rw [if_pos c210] at E
        refine r_iconst X (v := 1) dL_act_466 (by decide) ?_
        refine r_goto X 471 dL_act_467 (by decide) ?_
        cases E
        exact r_zret X hr (Or.inr rfl) dL_act_471 (by decide) (by decide)
    · rw [nb_some] at E
      refine r_ifnull1 X dL_act_417 ?_
      refine r_aload_n X 0 dL_act_420 rfl rfl ?_
      obtain ⟨x211, e212, E⟩ := gb_some E
      refine r_getR X dL_act_421 f_L_10 e212 ?_
      refine r_iload_n X 3 dL_act_424 rfl rfl ?_
      refine r_iload X dL_act_425 rfl ?_
      obtain ⟨r213, g214, e215, E⟩ := cb_some E
      refine r_callW X hl0 dL_act_427 y_L_lieDown m_L_359 (t_l_lieDown (l := l) hst (G := G) e215) rfl rfl (Nat.le_of_ble_eq_true rfl) (by decide) ?_
      refine r_bipush X (v := (-103)) dL_act_430 (by decide) ?_
      refine r_icmp_ne X 439 dL_act_432 (by decide) (fun c216 => ?_) (fun c216 => ?_)
      · rw [if_neg c216] at E
        refine r_iconst X (v := 0) dL_act_439 (by decide) ?_
        cases E
        exact r_zret X hr (Or.inl rfl) dL_act_440 (by decide) (by decide)
      · rw [if_pos c216] at E
        refine r_iconst X (v := 1) dL_act_435 (by decide) ?_
        refine r_goto X 440 dL_act_436 (by decide) ?_
        cases E
        exact r_zret X hr (Or.inr rfl) dL_act_440 (by decide) (by decide)
  rw [if_neg c191] at E
  by_cases c217 : r57 = 6
  · rw [if_pos c217] at E
    refine r_tswI X 6 411 dL_act_75 c217 (by decide) (by decide) rfl (by decide) ?_
    refine r_aload_n X 0 dL_act_411 rfl rfl ?_
    refine r_iload X dL_act_412 rfl ?_
    obtain ⟨u221, e222, E⟩ := gb_some E
    obtain ⟨r218, g219, e220, E⟩ := cb_some E
    refine r_callV0 X hl0 (ci := 10) dL_act_414 y_L_in m_L_256 rfl rfl e222 (t_l_in (l := l) hst (G := G) e220) rfl rfl (Nat.le_of_ble_eq_true rfl) (by decide) ?_
    rcases r218 with _ | y223
    · rw [nb_none] at E
      refine r_ifnull0 X 441 dL_act_417 (by decide) ?_
      refine r_aload_n X 1 dL_act_441 rfl rfl ?_
      refine r_iload X dL_act_442 rfl ?_
      obtain ⟨g224, e225, E⟩ := gb_some E
      refine r_putN X (k := 5) dL_act_444 (List.mem_of_getElem? (i := 4) rfl) rfl (by decide) rfl rfl rfl e225 ?_
      refine r_aload_n X 0 dL_act_447 rfl rfl ?_
      obtain ⟨x226, e227, E⟩ := gb_some E
      refine r_getR X dL_act_448 f_L_10 e227 ?_
      refine r_iload_n X 3 dL_act_451 rfl rfl ?_
      refine r_iload X dL_act_452 rfl ?_
      obtain ⟨r228, g229, e230, E⟩ := cb_some E
      refine r_callW X hl0 dL_act_454 y_L_lieDown m_L_359 (t_l_lieDown (l := l) hst (G := G) e230) rfl rfl (Nat.le_of_ble_eq_true rfl) (by decide) ?_
      refine r_aload_n X 0 dL_act_457 rfl rfl ?_
      refine r_iload X dL_act_458 rfl ?_
      obtain ⟨u234, e235, E⟩ := gb_some E
      obtain ⟨r231, g232, e233, E⟩ := cb_some E
      refine r_callV0 X hl0 (ci := 10) dL_act_460 y_L_noise m_L_271 rfl rfl e235 (t_l_noise (l := l) hst (G := G) e233) rfl rfl (Nat.le_of_ble_eq_true rfl) (by decide) ?_
      refine r_icmp_ne X 470 dL_act_463 (by decide) (fun c236 => ?_) (fun c236 => ?_)
      · rw [if_neg c236] at E
        refine r_iconst X (v := 0) dL_act_470 (by decide) ?_
        cases E
        exact r_zret X hr (Or.inl rfl) dL_act_471 (by decide) (by decide)
      · rw [if_pos c236] at E
        refine r_iconst X (v := 1) dL_act_466 (by decide) ?_
        refine r_goto X 471 dL_act_467 (by decide) ?_
        cases E
        exact r_zret X hr (Or.inr rfl) dL_act_471 (by decide) (by decide)
    · rw [nb_some] at E
      refine r_ifnull1 X dL_act_417 ?_
      refine r_aload_n X 0 dL_act_420 rfl rfl ?_
      obtain ⟨x237, e238, E⟩ := gb_some E
      refine r_getR X dL_act_421 f_L_10 e238 ?_
      refine r_iload_n X 3 dL_act_424 rfl rfl ?_
      refine r_iload X dL_act_425 rfl ?_
      obtain ⟨r239, g240, e241, E⟩ := cb_some E
      refine r_callW X hl0 dL_act_427 y_L_lieDown m_L_359 (t_l_lieDown (l := l) hst (G := G) e241) rfl rfl (Nat.le_of_ble_eq_true rfl) (by decide) ?_
      refine r_bipush X (v := (-103)) dL_act_430 (by decide) ?_
      refine r_icmp_ne X 439 dL_act_432 (by decide) (fun c242 => ?_) (fun c242 => ?_)
      · rw [if_neg c242] at E
        refine r_iconst X (v := 0) dL_act_439 (by decide) ?_
        cases E
        exact r_zret X hr (Or.inl rfl) dL_act_440 (by decide) (by decide)
      · rw [if_pos c242] at E
        refine r_iconst X (v := 1) dL_act_435 (by decide) ?_
        refine r_goto X 440 dL_act_436 (by decide) ?_
        cases E
        exact r_zret X hr (Or.inr rfl) dL_act_440 (by decide) (by decide)
  rw [if_neg c217] at E
  by_cases c243 : r57 = 7
  · rw [if_pos c243] at E
    refine r_tswI X 7 472 dL_act_75 c243 (by decide) (by decide) rfl (by decide) ?_
    refine r_aload_n X 1 dL_act_472 rfl rfl ?_
    obtain ⟨x244, e245, E⟩ := gb_some E
    refine r_getIN X (k := 5) dL_act_473 (List.mem_of_getElem? (i := 4) rfl) rfl (by decide) e245 ?_
    refine r_istore X (L1 := [(6, .int x244), (5, .int (1 + r52)), (4, .int r47), (3, .int x43), (2, .ref r36), (1, .ref r15), (0, .ref p)]) dL_act_476 (by decide) rfl ?_
    refine r_aload_n X 1 dL_act_478 rfl rfl ?_
    refine r_iconst X (v := (-1)) dL_act_479 (by decide) ?_
    obtain ⟨g246, e247, E⟩ := gb_some E
    refine r_putN X (k := 5) dL_act_480 (List.mem_of_getElem? (i := 4) rfl) rfl (by decide) rfl rfl rfl e247 ?_
    refine r_aload_n X 0 dL_act_483 rfl rfl ?_
    obtain ⟨x248, e249, E⟩ := gb_some E
    refine r_getR X dL_act_484 f_L_10 e249 ?_
    refine r_iload_n X 3 dL_act_487 rfl rfl ?_
    obtain ⟨r250, g251, e252, E⟩ := cb_some E
    refine r_callW X hl0 dL_act_488 y_L_getUp m_L_361 (t_l_getUp (l := l) hst (G := G) e252) rfl rfl (Nat.le_of_ble_eq_true rfl) (by decide) ?_
    refine r_iload X dL_act_491 rfl ?_
    refine r_if_ge X 501 dL_act_493 (by decide) (fun c253 => ?_) (fun c253 => ?_)
    · rw [if_pos c253] at E
      refine r_iload X dL_act_501 rfl ?_
      exact r_widen X (by decide) (by decide) <| r_pick (by rfl : lpick [(6, .int x244), (5, .int (1 + r52)), (4, .int r47), (3, .int x43), (2, .ref r36), (1, .ref r15), (0, .ref p)] [] = _) (t_l_act_j503 X hl0 hr hnm hst E)
    · rw [if_neg c253] at E
      refine r_bipush X (v := (-103)) dL_act_496 (by decide) ?_
      refine r_goto X 503 dL_act_498 (by decide) ?_
      exact r_widen X (by decide) (by decide) <| r_pick (by rfl : lpick [(6, .int x244), (5, .int (1 + r52)), (4, .int r47), (3, .int x43), (2, .ref r36), (1, .ref r15), (0, .ref p)] [] = _) (t_l_act_j503 X hl0 hr hnm hst E)
  rw [if_neg c243] at E
  by_cases c254 : r57 = 8
  · rw [if_pos c254] at E
    refine r_tswI X 8 512 dL_act_75 c254 (by decide) (by decide) rfl (by decide) ?_
    refine r_aload_n X 0 dL_act_512 rfl rfl ?_
    obtain ⟨x255, e256, E⟩ := gb_some E
    refine r_getI X dL_act_513 f_L_166 e256 ?_
    refine r_istore X (L1 := [(6, .int x255), (5, .int (1 + r52)), (4, .int r47), (3, .int x43), (2, .ref r36), (1, .ref r15), (0, .ref p)]) dL_act_516 (by decide) rfl ?_
    refine r_aload_n X 0 dL_act_518 rfl rfl ?_
    refine r_aload_n X 0 dL_act_519 rfl rfl ?_
    refine r_iconst X (v := 4) dL_act_520 (by decide) ?_
    obtain ⟨u260, e261, E⟩ := gb_some E
    obtain ⟨r257, g258, e259, E⟩ := cb_some E
    refine r_callV0 X hl0 (ci := 10) dL_act_521 y_L_draw m_L_169 rfl rfl e261 (t_l_draw (l := l) hst (G := G) e259) rfl rfl (Nat.le_of_ble_eq_true rfl) (by decide) ?_
    obtain ⟨g262, e263, E⟩ := gb_some E
    refine r_put X dL_act_524 f_L_166 rfl rfl e263 ?_
    refine r_aload_n X 0 dL_act_527 rfl rfl ?_
    obtain ⟨x264, e265, E⟩ := gb_some E
    refine r_getR X dL_act_528 f_L_10 e265 ?_
    refine r_aload_n X 0 dL_act_531 rfl rfl ?_
    obtain ⟨x266, e267, E⟩ := gb_some E
    refine r_getI X dL_act_532 f_L_166 e267 ?_
    obtain ⟨r268, g269, e270, E⟩ := cb_some E
    refine r_callW X hl0 dL_act_535 y_L_setRate m_L_363 (t_l_setRate (l := l) hst (G := G) e270) rfl rfl (Nat.le_of_ble_eq_true rfl) (by decide) ?_
    refine r_iload X dL_act_538 rfl ?_
    refine r_icmp_ne X 547 dL_act_540 (by decide) (fun c271 => ?_) (fun c271 => ?_)
    · rw [if_neg c271] at E
      refine r_iconst X (v := 0) dL_act_547 (by decide) ?_
      cases E
      exact r_zret X hr (Or.inl rfl) dL_act_548 (by decide) (by decide)
    · rw [if_pos c271] at E
      refine r_iconst X (v := 1) dL_act_543 (by decide) ?_
      refine r_goto X 548 dL_act_544 (by decide) ?_
      cases E
      exact r_zret X hr (Or.inr rfl) dL_act_548 (by decide) (by decide)
  rw [if_neg c254] at E
  by_cases c272 : r57 = 9
  · rw [if_pos c272] at E
    refine r_tswI X 9 549 dL_act_75 c272 (by decide) (by decide) rfl (by decide) ?_
    refine r_aload_n X 0 dL_act_549 rfl rfl ?_
    obtain ⟨x273, e274, E⟩ := gb_some E
    refine r_getI X dL_act_550 f_L_172 e274 ?_
    refine r_iload X dL_act_553 rfl ?_
    refine r_iadd X dL_act_555 ?_
    refine r_bipush X (v := 99) dL_act_556 (by decide) ?_
    refine r_icmp_le X 581 dL_act_558 (by decide) (fun c275 => ?_) (fun c275 => ?_)
    · rw [if_pos c275] at E
      refine r_aload_n X 0 dL_act_581 rfl rfl ?_
      refine r_dup X dL_act_582 rfl ?_
      obtain ⟨x276, e277, E⟩ := gb_some E
      refine r_getI X dL_act_583 f_L_172 e277 ?_
      refine r_iload X dL_act_586 rfl ?_
      refine r_iadd X dL_act_588 ?_
      obtain ⟨g278, e279, E⟩ := gb_some E
      refine r_put X dL_act_589 f_L_172 rfl rfl e279 ?_
      refine r_aload_n X 0 dL_act_592 rfl rfl ?_
      obtain ⟨x280, e281, E⟩ := gb_some E
      refine r_getR X dL_act_593 f_L_10 e281 ?_
      refine r_iload X dL_act_596 rfl ?_
      obtain ⟨r282, g283, e284, E⟩ := cb_some E
      refine r_callW X hl0 dL_act_598 y_L_fetchLogs m_L_365 (t_l_fetchLogs (l := l) hst (G := G) e284) rfl rfl (Nat.le_of_ble_eq_true rfl) (by decide) ?_
      refine r_aload_n X 0 dL_act_601 rfl rfl ?_
      obtain ⟨x285, e286, E⟩ := gb_some E
      refine r_getI X dL_act_602 f_L_172 e286 ?_
      refine r_icmp_ne X 612 dL_act_605 (by decide) (fun c287 => ?_) (fun c287 => ?_)
      · rw [if_neg c287] at E
        refine r_iconst X (v := 0) dL_act_612 (by decide) ?_
        cases E
        exact r_zret X hr (Or.inl rfl) dL_act_613 (by decide) (by decide)
      · rw [if_pos c287] at E
        refine r_iconst X (v := 1) dL_act_608 (by decide) ?_
        refine r_goto X 613 dL_act_609 (by decide) ?_
        cases E
        exact r_zret X hr (Or.inr rfl) dL_act_613 (by decide) (by decide)
    · rw [if_neg c275] at E
      refine r_aload_n X 0 dL_act_561 rfl rfl ?_
      obtain ⟨x288, e289, E⟩ := gb_some E
      refine r_getR X dL_act_562 f_L_10 e289 ?_
      refine r_iload X dL_act_565 rfl ?_
      obtain ⟨r290, g291, e292, E⟩ := cb_some E
      refine r_callW X hl0 dL_act_567 y_L_fetchLogs m_L_365 (t_l_fetchLogs (l := l) hst (G := G) e292) rfl rfl (Nat.le_of_ble_eq_true rfl) (by decide) ?_
      refine r_bipush X (v := (-103)) dL_act_570 (by decide) ?_
      refine r_icmp_ne X 579 dL_act_572 (by decide) (fun c293 => ?_) (fun c293 => ?_)
      · rw [if_neg c293] at E
        refine r_iconst X (v := 0) dL_act_579 (by decide) ?_
        cases E
        exact r_zret X hr (Or.inl rfl) dL_act_580 (by decide) (by decide)
      · rw [if_pos c293] at E
        refine r_iconst X (v := 1) dL_act_575 (by decide) ?_
        refine r_goto X 580 dL_act_576 (by decide) ?_
        cases E
        exact r_zret X hr (Or.inr rfl) dL_act_580 (by decide) (by decide)
  rw [if_neg c272] at E
  by_cases c294 : r57 = 10
  · rw [if_pos c294] at E
    refine r_tswI X 10 614 dL_act_75 c294 (by decide) (by decide) rfl (by decide) ?_
    refine r_aload_n X 1 dL_act_614 rfl rfl ?_
    obtain ⟨x295, e296, E⟩ := gb_some E
    refine r_getIN X (k := 3) dL_act_615 (List.mem_of_getElem? (i := 3) rfl) rfl (by decide) e296 ?_
    refine r_iload X dL_act_618 rfl ?_
    refine r_icmp_lt X 632 dL_act_620 (by decide) (fun c297 => ?_) (fun c297 => ?_)
    · rw [if_pos c297] at E
      exact r_widen X (by decide) (by decide) <| r_pick (by rfl : lpick [(5, .int (1 + r52)), (4, .int r47), (3, .int x43), (2, .ref r36), (1, .ref r15), (0, .ref p)] [5, 2, 0] = _) (t_l_act_j632 X hl0 hr hnm hst E)
    · rw [if_neg c297] at E
      refine r_aload_n X 1 dL_act_623 rfl rfl ?_
      obtain ⟨x298, e299, E⟩ := gb_some E
      refine r_getIN X (k := 4) dL_act_624 (List.mem_of_getElem? (i := 6) rfl) rfl (by decide) e299 ?_
      refine r_iload X dL_act_627 rfl ?_
      refine r_icmp_ge X 653 dL_act_629 (by decide) (fun c300 => ?_) (fun c300 => ?_)
      · rw [if_pos c300] at E
        refine r_aload_n X 1 dL_act_653 rfl rfl ?_
        refine r_dup X dL_act_654 rfl ?_
        obtain ⟨x301, e302, E⟩ := gb_some E
        refine r_getIN X (k := 3) dL_act_655 (List.mem_of_getElem? (i := 3) rfl) rfl (by decide) e302 ?_
        refine r_iload X dL_act_658 rfl ?_
        refine r_isub X dL_act_660 ?_
        obtain ⟨g303, e304, E⟩ := gb_some E
        refine r_putN X (k := 3) dL_act_661 (List.mem_of_getElem? (i := 3) rfl) rfl (by decide) rfl rfl rfl e304 ?_
        refine r_aload_n X 1 dL_act_664 rfl rfl ?_
        refine r_dup X dL_act_665 rfl ?_
        obtain ⟨x305, e306, E⟩ := gb_some E
        refine r_getIN X (k := 4) dL_act_666 (List.mem_of_getElem? (i := 6) rfl) rfl (by decide) e306 ?_
        refine r_iload X dL_act_669 rfl ?_
        refine r_isub X dL_act_671 ?_
        obtain ⟨g307, e308, E⟩ := gb_some E
        refine r_putN X (k := 4) dL_act_672 (List.mem_of_getElem? (i := 6) rfl) rfl (by decide) rfl rfl rfl e308 ?_
        refine r_aload_n X 0 dL_act_675 rfl rfl ?_
        refine r_dup X dL_act_676 rfl ?_
        obtain ⟨x309, e310, E⟩ := gb_some E
        refine r_getI X dL_act_677 f_L_151 e310 ?_
        refine r_iload X dL_act_680 rfl ?_
        refine r_iadd X dL_act_682 ?_
        obtain ⟨g311, e312, E⟩ := gb_some E
        refine r_put X dL_act_683 f_L_151 rfl rfl e312 ?_
        refine r_aload_n X 0 dL_act_686 rfl rfl ?_
        obtain ⟨x313, e314, E⟩ := gb_some E
        refine r_getR X dL_act_687 f_L_10 e314 ?_
        refine r_iload_n X 3 dL_act_690 rfl rfl ?_
        refine r_iload X dL_act_691 rfl ?_
        obtain ⟨r315, g316, e317, E⟩ := cb_some E
        refine r_callW X hl0 dL_act_693 y_L_payDebt m_L_367 (t_l_payDebt (l := l) hst (G := G) e317) rfl rfl (Nat.le_of_ble_eq_true rfl) (by decide) ?_
        refine r_aload_n X 1 dL_act_696 rfl rfl ?_
        obtain ⟨x318, e319, E⟩ := gb_some E
        refine r_getIN X (k := 4) dL_act_697 (List.mem_of_getElem? (i := 6) rfl) rfl (by decide) e319 ?_
        refine r_icmp_ne X 707 dL_act_700 (by decide) (fun c320 => ?_) (fun c320 => ?_)
        · rw [if_neg c320] at E
          refine r_iconst X (v := 0) dL_act_707 (by decide) ?_
          cases E
          exact r_zret X hr (Or.inl rfl) dL_act_708 (by decide) (by decide)
        · rw [if_pos c320] at E
          refine r_iconst X (v := 1) dL_act_703 (by decide) ?_
          refine r_goto X 708 dL_act_704 (by decide) ?_
          cases E
          exact r_zret X hr (Or.inr rfl) dL_act_708 (by decide) (by decide)
      · rw [if_neg c300] at E
        exact r_widen X (by decide) (by decide) <| r_pick (by rfl : lpick [(5, .int (1 + r52)), (4, .int r47), (3, .int x43), (2, .ref r36), (1, .ref r15), (0, .ref p)] [5, 2, 0] = _) (t_l_act_j632 X hl0 hr hnm hst E)
  rw [if_neg c294] at E
  by_cases c321 : r57 = 11
  · rw [if_pos c321] at E
    refine r_tswI X 11 709 dL_act_75 c321 (by decide) (by decide) rfl (by decide) ?_
    refine r_aload_n X 0 dL_act_709 rfl rfl ?_
    obtain ⟨x322, e323, E⟩ := gb_some E
    refine r_getR X dL_act_710 f_L_10 e323 ?_
    refine r_iload X dL_act_713 rfl ?_
    obtain ⟨r324, g325, e326, E⟩ := cb_some E
    refine r_callW X hl0 dL_act_715 y_L_passHours m_L_369 (t_l_passHours (l := l) hst (G := G) e326) rfl rfl (Nat.le_of_ble_eq_true rfl) (by decide) ?_
    refine r_if_lt X 735 dL_act_718 (by decide) (fun c327 => ?_) (fun c327 => ?_)
    · rw [if_pos c327] at E
      refine r_iconst X (v := 0) dL_act_735 (by decide) ?_
      cases E
      exact r_zret X hr (Or.inl rfl) dL_act_736 (by decide) (by decide)
    · rw [if_neg c327] at E
      refine r_aload_n X 0 dL_act_721 rfl rfl ?_
      obtain ⟨x328, e329, E⟩ := gb_some E
      refine r_getR X dL_act_722 f_L_10 e329 ?_
      obtain ⟨r330, g331, e332, E⟩ := cb_some E
      refine r_callW X hl0 dL_act_725 y_L_back m_L_242 (t_l_back (l := l) hst (G := G) e332) rfl rfl (Nat.le_of_ble_eq_true rfl) (by decide) ?_
      refine r_if_lt X 735 dL_act_728 (by decide) (fun c333 => ?_) (fun c333 => ?_)
      · rw [if_pos c333] at E
        refine r_iconst X (v := 0) dL_act_735 (by decide) ?_
        cases E
        exact r_zret X hr (Or.inl rfl) dL_act_736 (by decide) (by decide)
      · rw [if_neg c333] at E
        refine r_iconst X (v := 1) dL_act_731 (by decide) ?_
        refine r_goto X 736 dL_act_732 (by decide) ?_
        cases E
        exact r_zret X hr (Or.inr rfl) dL_act_736 (by decide) (by decide)
  rw [if_neg c321] at E
  refine r_tswD X 737 dL_act_75 (tsw_out (fun k h1 h2 => by
    rcases (by omega : k = 0 ∨ k = 1 ∨ k = 2 ∨ k = 3 ∨ k = 4 ∨ k = 5 ∨ k = 6 ∨ k = 7 ∨ k = 8 ∨ k = 9 ∨ k = 10 ∨ k = 11) with rfl | rfl | rfl | rfl | rfl | rfl | rfl | rfl | rfl | rfl | rfl | rfl
    · exact c62
    · exact c104
    · exact c146
    · exact c157
    · exact c165
    · exact c191
    · exact c217
    · exact c243
    · exact c254
    · exact c272
    · exact c294
    · exact c321
    )) (by decide) ?_
  refine r_aload_n X 0 dL_act_737 rfl rfl ?_
  obtain ⟨x334, e335, E⟩ := gb_some E
  refine r_getI X dL_act_738 f_L_151 e335 ?_
  refine r_istore X (L1 := [(6, .int x334), (5, .int (1 + r52)), (4, .int r47), (3, .int x43), (2, .ref r36), (1, .ref r15), (0, .ref p)]) dL_act_741 (by decide) rfl ?_
  refine r_iconst X (v := 0) dL_act_743 (by decide) ?_
  refine r_istore X (L1 := [(7, .int 0), (6, .int x334), (5, .int (1 + r52)), (4, .int r47), (3, .int x43), (2, .ref r36), (1, .ref r15), (0, .ref p)]) dL_act_744 (by decide) rfl ?_
  obtain ⟨t336, g337, e338, E⟩ := cb_some E
  refine r_pick (by rfl : lpick [(7, .int 0), (6, .int x334), (5, .int (1 + r52)), (4, .int r47), (3, .int x43), (2, .ref r36), (1, .ref r15), (0, .ref p)] [7, 2, 1, 0] = _) (t_l_act_l746_r X hl0 hr hnm hst _ _ _ _ _ e338 ?_)
  refine r_aload_n X 0 dL_act_763 rfl rfl ?_
  obtain ⟨x339, e340, E⟩ := gb_some E
  refine r_getR X dL_act_764 f_L_10 e340 ?_
  refine r_iload X dL_act_767 rfl ?_
  obtain ⟨r341, g342, e343, E⟩ := cb_some E
  refine r_callW X hl0 dL_act_769 y_L_passHours m_L_369 (t_l_passHours (l := l) hst (G := G) e343) rfl rfl (Nat.le_of_ble_eq_true rfl) (by decide) ?_
  refine r_aload_n X 0 dL_act_772 rfl rfl ?_
  obtain ⟨x344, e345, E⟩ := gb_some E
  refine r_getI X dL_act_773 f_L_151 e345 ?_
  refine r_iload X dL_act_776 rfl ?_
  refine r_isub X dL_act_778 ?_
  refine r_icmp_ne X 786 dL_act_779 (by decide) (fun c346 => ?_) (fun c346 => ?_)
  · rw [if_neg c346] at E
    refine r_iconst X (v := 0) dL_act_786 (by decide) ?_
    cases E
    exact r_zret X hr (Or.inl rfl) dL_act_787 (by decide) (by decide)
  · rw [if_pos c346] at E
    refine r_iconst X (v := 1) dL_act_782 (by decide) ?_
    refine r_goto X 787 dL_act_783 (by decide) ?_
    cases E
    exact r_zret X hr (Or.inr rfl) dL_act_787 (by decide) (by decide)
theorem t_l_act {l : Launch} (hst : l.stackTraces = false) {G : GG} {p : Nat} {g : AH} {r : Int32} {g1 : AH} (E : l_act (GK G) p g = some (r, g1)) : Ct l G yL_act cL_act 9 (some .boolean) ⟨11, 49, 294, 323⟩ [.ref p] g (some (.int r)) g1 :=
  ct_of (L0 := [(0, .ref p)]) y_L_act rfl (Nat.le_of_ble_eq_true rfl) fun M hl0 X hr hnm => t_l_act_b X hl0 hr hnm hst E
set_option maxHeartbeats 4000000 in
set_option maxRecDepth 100000 in
theorem t_l_init_b {l : Launch} {G : GG} {M : MC} (X : CX M G cL_init 1 RL ⟨13, 512, 5151, 349⟩) (hl0 : M.2.1 = l) (hr : (mM M).sig.returnType = none) (hnm : (mM M).name = yL_init.name) (hst : l.stackTraces = false) {p : Nat} {g : AH} {r : Unit} {g1 : AH} (E : l_init (GK G) p g = some (r, g1)) : WW M G 1 (RQ M G none g1 512 5151) 0 0 g 0 [(0, .ref p)] [] := by
  unfold l_init at E
  refine r_aload_n X 0 dL_init_0 rfl rfl ?_
  refine r_objInit X dL_init_1 m_L_1 (by decide) (Nat.le_of_ble_eq_true rfl) ?_
  refine r_aload_n X 0 dL_init_4 rfl rfl ?_
  obtain ⟨x1, g2, e3, E⟩ := cb_some E
  refine r_new X (ci := 8) dL_init_5 rfl tyX8_ok flc8 k_L_7 n_X8 (by decide) e3 ?_
  refine r_dup X dL_init_8 rfl ?_
  obtain ⟨r4, g5, e6, E⟩ := cb_some E
  refine r_callI X hl0 dL_init_9 y_X8_init m_L_9 (t_x8_init (l := l) (G := G) e6) rfl rfl (Nat.le_of_ble_eq_true rfl) (by decide) ?_
  obtain ⟨g7, e8, E⟩ := gb_some E
  refine r_putF X dL_init_12 f_L_10 hnm (by intro C T N h; cases h; rfl) rfl rfl e8 ?_
  refine r_aload_n X 0 dL_init_15 rfl rfl ?_
  obtain ⟨x9, g10, e11, E⟩ := cb_some E
  refine r_new X (ci := 12) dL_init_16 rfl tyJx4a65c_ok flc12 k_L_16 n_Jx4a65c (by decide) e11 ?_
  refine r_dup X dL_init_19 rfl ?_
  obtain ⟨r12, g13, e14, E⟩ := cb_some E
  refine r_callI0 X hl0 dL_init_20 y_Jx4a65c_init_da8c8 m_L_18 (t_jx4a65c_init_da8c8 (l := l) (G := G) e14) rfl rfl (Nat.le_of_ble_eq_true rfl) (by decide) ?_
  obtain ⟨g15, e16, E⟩ := gb_some E
  refine r_putF X dL_init_23 f_L_19 hnm (by intro C T N h; cases h; rfl) rfl rfl e16 ?_
  refine r_aload_n X 0 dL_init_26 rfl rfl ?_
  refine r_bipush X (v := 12) dL_init_27 (by decide) ?_
  obtain ⟨x17, g18, e19, E⟩ := cb_some E
  refine r_newarr X 0 12 dL_init_29 (by decide) rfl a_int (fun _ _ => rfl) (by decide) (by decide) (by decide) e19 ?_
  obtain ⟨g20, e21, E⟩ := gb_some E
  refine r_putF X dL_init_31 f_L_23 hnm (by intro C T N h; cases h; rfl) rfl rfl e21 ?_
  refine r_aload_n X 0 dL_init_34 rfl rfl ?_
  refine r_bipush X (v := 12) dL_init_35 (by decide) ?_
  obtain ⟨x22, g23, e24, E⟩ := cb_some E
  refine r_newarr X 0 12 dL_init_37 (by decide) rfl a_int (fun _ _ => rfl) (by decide) (by decide) (by decide) e24 ?_
  obtain ⟨g25, e26, E⟩ := gb_some E
  refine r_putF X dL_init_39 f_L_27 hnm (by intro C T N h; cases h; rfl) rfl rfl e26 ?_
  refine r_aload_n X 0 dL_init_42 rfl rfl ?_
  refine r_bipush X (v := 12) dL_init_43 (by decide) ?_
  obtain ⟨x27, g28, e29, E⟩ := cb_some E
  refine r_newarr X 0 12 dL_init_45 (by decide) rfl a_int (fun _ _ => rfl) (by decide) (by decide) (by decide) e29 ?_
  obtain ⟨g30, e31, E⟩ := gb_some E
  refine r_putF X dL_init_47 f_L_30 hnm (by intro C T N h; cases h; rfl) rfl rfl e31 ?_
  cases E
  exact r_vret X hr dL_init_50 (by decide) (by decide)
theorem t_l_init {l : Launch} (hst : l.stackTraces = false) {G : GG} {p : Nat} {g : AH} {r : Unit} {g1 : AH} (E : l_init (GK G) p g = some (r, g1)) : Ct l G yL_init cL_init 1 none ⟨13, 512, 5151, 349⟩ [.ref p] g none g1 :=
  ct_of (L0 := [(0, .ref p)]) y_L_init rfl (Nat.le_of_ble_eq_true rfl) fun M hl0 X hr hnm => t_l_init_b X hl0 hr hnm hst E
