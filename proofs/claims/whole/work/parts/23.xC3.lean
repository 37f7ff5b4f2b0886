/-! functions and contracts, by program: fetchLogs, payDebt, passHours, clear, put, putNumber, writeBunk, writeBunks, writeHiker, writeLedger, outputByte, takeBack, undo, demandSnapshotNumber, saveSnapshot, restoreSnapshot -/
def x8_fetchLogs (p : Nat) (b0 : Int32) (g : AH) : Option ((Int32 ⊕ String) × AH) :=
  gb (isO 8 g p) fun _ => cb (x8_act p 6 b0 0 g) fun r1 g2 => Sum.elim (fun v6 =>
  some (.inl v6, g2)) (fun w7 => some (.inr w7, g2)) r1
def x8_payDebt (p : Nat) (b0 : Int32) (b1 : Int32) (g : AH) : Option ((Int32 ⊕ String) × AH) :=
  gb (isO 8 g p) fun _ => cb (x8_act p 7 b0 b1 g) fun r1 g2 => Sum.elim (fun v6 =>
  some (.inl v6, g2)) (fun w7 => some (.inr w7, g2)) r1
def x8_passHours (p : Nat) (b0 : Int32) (g : AH) : Option ((Int32 ⊕ String) × AH) :=
  gb (isO 8 g p) fun _ => cb (x8_act p 8 b0 0 g) fun r1 g2 => Sum.elim (fun v6 =>
  some (.inl v6, g2)) (fun w7 => some (.inr w7, g2)) r1
def x4_clear (p : Nat) (g : AH) : Option (Unit × AH) :=
  gb (putV 4 g p 1 (.int 0)) fun g1 => some ((), g1)
def x4_put (p : Nat) (b0 : Int32) (g : AH) : Option (Unit × AH) :=
  gb (getI 4 g p 1) fun x1 => gb (getR 4 g p 0) fun x3 => gb (alen 0 g x3) fun x5 => if x5 ≤ x1 then
  some ((), g)
  else
  gb (getR 4 g p 0) fun x8 => gb (getI 4 g p 1) fun x10 => gb (astI 0 g x8 x10 b0) fun g12 => gb (getI 4 g12 p 1) fun x14 => gb (putV 4 g12 p 1 (.int (x14 + 1))) fun g16 => some ((), g16)
def x4_putNumber_j31_3 (a0 : Nat) (a1 : Int32) (a2 : Int32) (g : AH) : Option (((Int32) ⊕ (Unit)) × AH) :=
  some (.inl (a2 / 10), g)
def x4_putNumber_j18_3 (a0 : Nat) (a1 : Int32) (a2 : Int32) (g : AH) : Option (((Int32) ⊕ (Unit)) × AH) :=
  if a2 = 0 then none else gb (isO 4 g a0) fun _ => cb (x4_put a0 (48 + ((a1 / a2) - (a1 / a2) / 10 * 10)) g) fun r3 g4 => x4_putNumber_j31_3 a0 a1 a2 g4
def x4_putNumber_l3 (a0 : Nat) (a1 : Int32) (s0 : Int32) (g : AH) : Option (((Int32) ⊕ (Unit)) × AH) :=
  if s0 < 1 then
  some (.inr (), g)
  else
  if s0 ≤ a1 then
  x4_putNumber_j18_3 a0 a1 s0 g
  else
  if s0 = 1 then
  x4_putNumber_j18_3 a0 a1 s0 g
  else
  x4_putNumber_j31_3 a0 a1 s0 g
def x4_putNumber (p : Nat) (b0 : Int32) (g : AH) : Option (Unit × AH) :=
  cb (loopX (x4_putNumber_l3 p b0) 1000 1000000000 g) fun t1 g2 =>
  some ((), g2)
def x8_writeBunk_j75 (a0 : Nat) (a2 : Int32) (g : AH) : Option (Unit × AH) :=
  gb (getR 8 g a0 0) fun x1 => gb (isO 3 g x1) fun _ => cb (x3_activityNow x1 a2 g) fun r3 g4 => if r3 = 0 then
  gb (getR 8 g4 a0 8) fun x17 => gb (isO 4 g4 x17) fun _ => cb (x4_put x17 33 g4) fun r19 g20 => some ((), g20)
  else
  if r3 = 1 then
  gb (getR 8 g4 a0 8) fun x10 => gb (isO 4 g4 x10) fun _ => cb (x4_put x10 63 g4) fun r12 g13 => some ((), g13)
  else
  some ((), g4)
def x8_writeBunk (p : Nat) (b0 : Int32) (g : AH) : Option (Unit × AH) :=
  gb (getR 8 g p 0) fun x1 => gb (isO 3 g x1) fun _ => cb (x3_sleeperIn x1 b0 g) fun r3 g4 => gb (getR 8 g4 p 0) fun x8 => gb (isO 3 g4 x8) fun _ => cb (x3_hasHiker x8 r3 g4) fun r10 g11 => if r10 = 0 then
  gb (getR 8 g11 p 8) fun x47 => gb (isO 4 g11 x47) fun _ => cb (x4_put x47 45 g11) fun r49 g50 => some ((), g50)
  else
  gb (getR 8 g11 p 8) fun x16 => gb (isO 4 g11 x16) fun _ => cb (x4_put x16 (97 + r3) g11) fun r18 g19 => gb (getR 8 g19 p 0) fun x23 => gb (getR 3 g19 x23 18) fun x25 => gb (aldR 4 g19 x25 r3) fun x27 => gb (getI 1 g19 x27 6) fun x29 => if x29 ≤ 0 then
  x8_writeBunk_j75 p r3 g19
  else
  gb (getR 8 g19 p 8) fun x32 => gb (getR 8 g19 p 0) fun x34 => gb (getR 3 g19 x34 18) fun x36 => gb (aldR 4 g19 x36 r3) fun x38 => gb (getI 1 g19 x38 6) fun x40 => gb (isO 4 g19 x32) fun _ => cb (x4_putNumber x32 x40 g19) fun r42 g43 => x8_writeBunk_j75 p r3 g43
def x8_writeBunks_j33_9 (a0 : Nat) (a1 : Int32) (g : AH) : Option (((Int32) ⊕ (Unit)) × AH) :=
  gb (isO 8 g a0) fun _ => cb (x8_writeBunk a0 a1 g) fun r1 g2 => some (.inl (a1 + 1), g2)
def x8_writeBunks_l9 (a0 : Nat) (s0 : Int32) (g : AH) : Option (((Int32) ⊕ (Unit)) × AH) :=
  gb (getR 8 g a0 0) fun x1 => gb (getI 3 g x1 9) fun x3 => if x3 ≤ s0 then
  some (.inr (), g)
  else
  if s0 ≤ 0 then
  x8_writeBunks_j33_9 a0 s0 g
  else
  gb (getR 8 g a0 8) fun x7 => gb (isO 4 g x7) fun _ => cb (x4_put x7 32 g) fun r9 g10 => x8_writeBunks_j33_9 a0 s0 g10
def x8_writeBunks (p : Nat) (g : AH) : Option (Int32 × AH) :=
  gb (getR 8 g p 8) fun x1 => gb (isO 4 g x1) fun _ => cb (x4_clear x1 g) fun r3 g4 => cb (loopX (x8_writeBunks_l9 p) 1000 0 g4) fun t8 g9 =>
  gb (getR 8 g9 p 8) fun x11 => gb (getI 4 g9 x11 1) fun x13 => some (x13, g9)
def x8_writeHiker_j58 (a0 : Nat) (a2 : Nat) (g : AH) : Option (Unit × AH) :=
  gb (getR 8 g a0 8) fun x1 => gb (isO 4 g x1) fun _ => cb (x4_put x1 47 g) fun r3 g4 => gb (getR 8 g4 a0 8) fun x8 => gb (getR 1 g4 a2 8) fun x10 => gb (aldI 0 g4 x10 2) fun x12 => gb (isO 4 g4 x8) fun _ => cb (x4_putNumber x8 x12 g4) fun r14 g15 => some ((), g15)
def x8_writeHiker (p : Nat) (b0 : Int32) (b1 : Nat) (g : AH) : Option (Unit × AH) :=
  gb (getR 8 g p 8) fun x1 => gb (isO 4 g x1) fun _ => cb (x4_put x1 (97 + b0) g) fun r3 g4 => gb (getR 8 g4 p 8) fun x8 => gb (isO 4 g4 x8) fun _ => cb (x4_put x8 61 g4) fun r10 g11 => gb (getR 8 g11 p 8) fun x15 => gb (getI 1 g11 b1 2) fun x17 => gb (isO 4 g11 x15) fun _ => cb (x4_putNumber x15 x17 g11) fun r19 g20 => gb (getI 1 g20 b1 3) fun x24 => if x24 ≤ 0 then
  x8_writeHiker_j58 p b1 g20
  else
  gb (getR 8 g20 p 8) fun x27 => gb (isO 4 g20 x27) fun _ => cb (x4_put x27 45 g20) fun r29 g30 => gb (getR 8 g30 p 8) fun x34 => gb (getI 1 g30 b1 3) fun x36 => gb (isO 4 g30 x34) fun _ => cb (x4_putNumber x34 x36 g30) fun r38 g39 => x8_writeHiker_j58 p b1 g39
def x8_writeLedger_j33_9 (a0 : Nat) (a1 : Int32) (g : AH) : Option (((Int32) ⊕ (Unit)) × AH) :=
  gb (getR 8 g a0 0) fun x1 => gb (getR 3 g x1 18) fun x3 => gb (aldR 4 g x3 a1) fun x5 => gb (isO 8 g a0) fun _ => cb (x8_writeHiker a0 a1 x5 g) fun r7 g8 => some (.inl (a1 + 1), g8)
def x8_writeLedger_l9 (a0 : Nat) (s0 : Int32) (g : AH) : Option (((Int32) ⊕ (Unit)) × AH) :=
  gb (getR 8 g a0 0) fun x1 => gb (getI 3 g x1 12) fun x3 => if x3 ≤ s0 then
  some (.inr (), g)
  else
  if s0 ≤ 0 then
  x8_writeLedger_j33_9 a0 s0 g
  else
  gb (getR 8 g a0 8) fun x7 => gb (isO 4 g x7) fun _ => cb (x4_put x7 32 g) fun r9 g10 => x8_writeLedger_j33_9 a0 s0 g10
def x8_writeLedger (p : Nat) (g : AH) : Option (Int32 × AH) :=
  gb (getR 8 g p 8) fun x1 => gb (isO 4 g x1) fun _ => cb (x4_clear x1 g) fun r3 g4 => cb (loopX (x8_writeLedger_l9 p) 1000 0 g4) fun t8 g9 =>
  gb (getR 8 g9 p 8) fun x11 => gb (getI 4 g9 x11 1) fun x13 => some (x13, g9)
def x8_outputByte (p : Nat) (b0 : Int32) (g : AH) : Option (Int32 × AH) :=
  gb (getR 8 g p 8) fun x1 => gb (getI 4 g x1 1) fun x3 => cb (x8_isWithin b0 0 (x3 - 1) g) fun r5 g6 => if r5 = 0 then
  some ((-1), g6)
  else
  gb (getR 8 g6 p 8) fun x9 => gb (getR 4 g6 x9 0) fun x11 => gb (aldI 0 g6 x11 b0) fun x13 => some (x13, g6)
def x2_takeBack (p : Nat) (b0 : Nat) (g : AH) : Option (Unit × AH) :=
  gb (getI 2 g p 1) fun x1 => gb (putV 2 g p 1 (.int (((x1 + 6) - 1) - ((x1 + 6) - 1) / 6 * 6))) fun g4 => gb (getI 2 g4 p 2) fun x6 => gb (putV 2 g4 p 2 (.int (x6 - 1))) fun g8 => gb (getR 2 g8 p 0) fun x10 => gb (getI 2 g8 p 1) fun x12 => gb (aldR 5 g8 x10 x12) fun x14 => gb (isO 3 g8 b0) fun _ => cb (x3_copyFrom b0 x14 g8) fun r16 g17 => some ((), g17)
def x8_undo (p : Nat) (g : AH) : Option ((Int32 ⊕ String) × AH) :=
  gb (getR 8 g p 3) fun x1 => gb (getI 2 g x1 2) fun x3 => if 1 ≤ x3 then
  gb (getR 8 g p 3) fun x6 => gb (getR 8 g p 0) fun x8 => gb (isO 2 g x6) fun _ => cb (x2_takeBack x6 x8 g) fun r10 g11 => gb (getR 8 g11 p 3) fun x15 => gb (getI 2 g11 x15 2) fun x17 => some (.inl x17, g11)
  else
  some (.inr "java/lang/IllegalStateException", hcut g)
def x8_demandSnapshotNumber (b0 : Int32) (g : AH) : Option ((Unit ⊕ String) × AH) :=
  cb (x8_isWithin b0 0 1 g) fun r1 g2 => if r1 = 0 then
  some (.inr "java/lang/IllegalArgumentException", hcut g2)
  else
  some (.inl (), g2)
def x8_saveSnapshot (p : Nat) (b0 : Int32) (g : AH) : Option ((Unit ⊕ String) × AH) :=
  cb (x8_demandSnapshotNumber b0 g) fun r1 g2 => Sum.elim (fun v4 =>
  gb (getR 8 g2 p 4) fun x6 => gb (aldR 5 g2 x6 b0) fun x8 => gb (getR 8 g2 p 0) fun x10 => gb (isO 3 g2 x8) fun _ => cb (x3_copyFrom x8 x10 g2) fun r12 g13 => gb (getR 8 g13 p 5) fun x17 => gb (astI 2 g13 x17 b0 1) fun g19 => some (.inl (), g19)) (fun w5 => some (.inr w5, g2)) r1
def x8_restoreSnapshot (p : Nat) (b0 : Int32) (g : AH) : Option ((Unit ⊕ String) × AH) :=
  cb (x8_demandSnapshotNumber b0 g) fun r1 g2 => Sum.elim (fun v4 =>
  gb (getR 8 g2 p 5) fun x6 => gb (aldI 2 g2 x6 b0) fun x8 => if x8 = 0 then
  some (.inr "java/lang/IllegalStateException", hcut g2)
  else
  gb (getR 8 g2 p 0) fun x11 => gb (getR 8 g2 p 4) fun x13 => gb (aldR 5 g2 x13 b0) fun x15 => gb (isO 3 g2 x11) fun _ => cb (x3_copyFrom x11 x15 g2) fun r17 g18 => gb (getR 8 g18 p 3) fun x22 => gb (isO 2 g18 x22) fun _ => cb (x2_forget x22 g18) fun r24 g25 => some (.inl (), g25)) (fun w5 => some (.inr w5, g2)) r1
set_option maxHeartbeats 4000000 in
set_option maxRecDepth 100000 in
theorem t_x8_fetchLogs_b {l : Launch} {G : GG} {M : MC} (X : CX M G cX8_fetchLogs 2 RX8 ⟨9, 3, 18, 243⟩) (hl0 : M.2.1 = l) (hr : (mM M).sig.returnType = (some .int)) (hnm : (mM M).name = yX8_fetchLogs.name) (hnt : ∀ x ∈ (mC M).exceptionTable.toList, False) (hst : l.stackTraces = false) {p : Nat} {b0 : Int32} {g : AH} {o : (Int32 ⊕ String)} {g1 : AH} (E : x8_fetchLogs p b0 g = some (o, g1)) : WW M G 2 (RX M G (ovI o) g1 3 18) 0 0 g 0 [(0, .ref p), (1, .int b0)] [] := by
  unfold x8_fetchLogs at E
  refine r_aload_n X 0 dX8_fetchLogs_0 rfl rfl ?_
  refine r_bipush X (v := 6) dX8_fetchLogs_1 (by decide) ?_
  refine r_iload_n X 1 dX8_fetchLogs_3 rfl rfl ?_
  refine r_iconst X (v := 0) dX8_fetchLogs_4 (by decide) ?_
  obtain ⟨u4, e5, E⟩ := gb_some E
  obtain ⟨r1, g2, e3, E⟩ := cb_some E
  rcases r1 with v6 | w7
  · rw [Sum.elim_inl] at E
    refine r_callVX X hl0 (ci := 8) dX8_fetchLogs_5 y_X8_act m_X8_339 rfl rfl e5 (t_x8_act (l := l) hst (G := G) e3) rfl rfl (Nat.le_of_ble_eq_true rfl) (by decide) ?_
    cases E
    exact r_ret (r_iret X hr dX8_fetchLogs_8 (by decide) (by decide))
  · rw [Sum.elim_inr] at E
    cases E
    exact r_thrV X hl0 hnt (ci := 8) dX8_fetchLogs_5 y_X8_act m_X8_339 rfl rfl e5 (t_x8_act (l := l) hst (G := G) e3) rfl rfl (Nat.le_of_ble_eq_true rfl) (by decide) (by decide) (by decide)
theorem t_x8_fetchLogs {l : Launch} (hst : l.stackTraces = false) {G : GG} {p : Nat} {b0 : Int32} {g : AH} {o : (Int32 ⊕ String)} {g1 : AH} (E : x8_fetchLogs p b0 g = some (o, g1)) : CtX l G yX8_fetchLogs cX8_fetchLogs 2 (some .int) ⟨9, 3, 18, 243⟩ [.ref p, .int b0] g (ovI o) g1 :=
  ctX_of (L0 := [(0, .ref p), (1, .int b0)]) y_X8_fetchLogs rfl (Nat.le_of_ble_eq_true rfl) fun M hl0 X hr hnm hnt => t_x8_fetchLogs_b X hl0 hr hnm hnt hst E
set_option maxHeartbeats 4000000 in
set_option maxRecDepth 100000 in
theorem t_x8_payDebt_b {l : Launch} {G : GG} {M : MC} (X : CX M G cX8_payDebt 3 RX8 ⟨9, 3, 18, 243⟩) (hl0 : M.2.1 = l) (hr : (mM M).sig.returnType = (some .int)) (hnm : (mM M).name = yX8_payDebt.name) (hnt : ∀ x ∈ (mC M).exceptionTable.toList, False) (hst : l.stackTraces = false) {p : Nat} {b0 : Int32} {b1 : Int32} {g : AH} {o : (Int32 ⊕ String)} {g1 : AH} (E : x8_payDebt p b0 b1 g = some (o, g1)) : WW M G 3 (RX M G (ovI o) g1 3 18) 0 0 g 0 [(0, .ref p), (1, .int b0), (2, .int b1)] [] := by
  unfold x8_payDebt at E
  refine r_aload_n X 0 dX8_payDebt_0 rfl rfl ?_
  refine r_bipush X (v := 7) dX8_payDebt_1 (by decide) ?_
  refine r_iload_n X 1 dX8_payDebt_3 rfl rfl ?_
  refine r_iload_n X 2 dX8_payDebt_4 rfl rfl ?_
  obtain ⟨u4, e5, E⟩ := gb_some E
  obtain ⟨r1, g2, e3, E⟩ := cb_some E
  rcases r1 with v6 | w7
  · rw [Sum.elim_inl] at E
    refine r_callVX X hl0 (ci := 8) dX8_payDebt_5 y_X8_act m_X8_339 rfl rfl e5 (t_x8_act (l := l) hst (G := G) e3) rfl rfl (Nat.le_of_ble_eq_true rfl) (by decide) ?_
    cases E
    exact r_ret (r_iret X hr dX8_payDebt_8 (by decide) (by decide))
  · rw [Sum.elim_inr] at E
    cases E
    exact r_thrV X hl0 hnt (ci := 8) dX8_payDebt_5 y_X8_act m_X8_339 rfl rfl e5 (t_x8_act (l := l) hst (G := G) e3) rfl rfl (Nat.le_of_ble_eq_true rfl) (by decide) (by decide) (by decide)
theorem t_x8_payDebt {l : Launch} (hst : l.stackTraces = false) {G : GG} {p : Nat} {b0 : Int32} {b1 : Int32} {g : AH} {o : (Int32 ⊕ String)} {g1 : AH} (E : x8_payDebt p b0 b1 g = some (o, g1)) : CtX l G yX8_payDebt cX8_payDebt 3 (some .int) ⟨9, 3, 18, 243⟩ [.ref p, .int b0, .int b1] g (ovI o) g1 :=
  ctX_of (L0 := [(0, .ref p), (1, .int b0), (2, .int b1)]) y_X8_payDebt rfl (Nat.le_of_ble_eq_true rfl) fun M hl0 X hr hnm hnt => t_x8_payDebt_b X hl0 hr hnm hnt hst E
set_option maxHeartbeats 4000000 in
set_option maxRecDepth 100000 in
theorem t_x8_passHours_b {l : Launch} {G : GG} {M : MC} (X : CX M G cX8_passHours 2 RX8 ⟨9, 3, 18, 243⟩) (hl0 : M.2.1 = l) (hr : (mM M).sig.returnType = (some .int)) (hnm : (mM M).name = yX8_passHours.name) (hnt : ∀ x ∈ (mC M).exceptionTable.toList, False) (hst : l.stackTraces = false) {p : Nat} {b0 : Int32} {g : AH} {o : (Int32 ⊕ String)} {g1 : AH} (E : x8_passHours p b0 g = some (o, g1)) : WW M G 2 (RX M G (ovI o) g1 3 18) 0 0 g 0 [(0, .ref p), (1, .int b0)] [] := by
  unfold x8_passHours at E
  refine r_aload_n X 0 dX8_passHours_0 rfl rfl ?_
  refine r_bipush X (v := 8) dX8_passHours_1 (by decide) ?_
  refine r_iload_n X 1 dX8_passHours_3 rfl rfl ?_
  refine r_iconst X (v := 0) dX8_passHours_4 (by decide) ?_
  obtain ⟨u4, e5, E⟩ := gb_some E
  obtain ⟨r1, g2, e3, E⟩ := cb_some E
  rcases r1 with v6 | w7
  · rw [Sum.elim_inl] at E
    refine r_callVX X hl0 (ci := 8) dX8_passHours_5 y_X8_act m_X8_339 rfl rfl e5 (t_x8_act (l := l) hst (G := G) e3) rfl rfl (Nat.le_of_ble_eq_true rfl) (by decide) ?_
    cases E
    exact r_ret (r_iret X hr dX8_passHours_8 (by decide) (by decide))
  · rw [Sum.elim_inr] at E
    cases E
    exact r_thrV X hl0 hnt (ci := 8) dX8_passHours_5 y_X8_act m_X8_339 rfl rfl e5 (t_x8_act (l := l) hst (G := G) e3) rfl rfl (Nat.le_of_ble_eq_true rfl) (by decide) (by decide) (by decide)
theorem t_x8_passHours {l : Launch} (hst : l.stackTraces = false) {G : GG} {p : Nat} {b0 : Int32} {g : AH} {o : (Int32 ⊕ String)} {g1 : AH} (E : x8_passHours p b0 g = some (o, g1)) : CtX l G yX8_passHours cX8_passHours 2 (some .int) ⟨9, 3, 18, 243⟩ [.ref p, .int b0] g (ovI o) g1 :=
  ctX_of (L0 := [(0, .ref p), (1, .int b0)]) y_X8_passHours rfl (Nat.le_of_ble_eq_true rfl) fun M hl0 X hr hnm hnt => t_x8_passHours_b X hl0 hr hnm hnt hst E
set_option maxHeartbeats 4000000 in
set_option maxRecDepth 100000 in
theorem t_x4_clear_b {l : Launch} {G : GG} {M : MC} (X : CX M G cX4_clear 1 RX4 ⟨1, 0, 0, 60⟩) (hl0 : M.2.1 = l) (hr : (mM M).sig.returnType = none) (hnm : (mM M).name = yX4_clear.name) {p : Nat} {g : AH} {r : Unit} {g1 : AH} (E : x4_clear p g = some (r, g1)) : WW M G 1 (RQ M G none g1 0 0) 0 0 g 0 [(0, .ref p)] [] := by
  unfold x4_clear at E
  refine r_aload_n X 0 dX4_clear_0 rfl rfl ?_
  refine r_iconst X (v := 0) dX4_clear_1 (by decide) ?_
  obtain ⟨g1, e2, E⟩ := gb_some E
  refine r_put X dX4_clear_2 f_X4_15 rfl rfl e2 ?_
  cases E
  exact r_vret X hr dX4_clear_5 (by decide) (by decide)
theorem t_x4_clear {l : Launch} {G : GG} {p : Nat} {g : AH} {r : Unit} {g1 : AH} (E : x4_clear p g = some (r, g1)) : Ct l G yX4_clear cX4_clear 1 none ⟨1, 0, 0, 60⟩ [.ref p] g none g1 :=
  ct_of (L0 := [(0, .ref p)]) y_X4_clear rfl (Nat.le_of_ble_eq_true rfl) fun M hl0 X hr hnm => t_x4_clear_b X hl0 hr hnm E
set_option maxHeartbeats 4000000 in
set_option maxRecDepth 100000 in
theorem t_x4_put_b {l : Launch} {G : GG} {M : MC} (X : CX M G cX4_put 2 RX4 ⟨1, 0, 0, 60⟩) (hl0 : M.2.1 = l) (hr : (mM M).sig.returnType = none) (hnm : (mM M).name = yX4_put.name) {p : Nat} {b0 : Int32} {g : AH} {r : Unit} {g1 : AH} (E : x4_put p b0 g = some (r, g1)) : WW M G 2 (RQ M G none g1 0 0) 0 0 g 0 [(0, .ref p), (1, .int b0)] [] := by
  unfold x4_put at E
  refine r_aload_n X 0 dX4_put_0 rfl rfl ?_
  obtain ⟨x1, e2, E⟩ := gb_some E
  refine r_getI X dX4_put_1 f_X4_15 e2 ?_
  refine r_aload_n X 0 dX4_put_4 rfl rfl ?_
  obtain ⟨x3, e4, E⟩ := gb_some E
  refine r_getR X dX4_put_5 f_X4_9 e4 ?_
  obtain ⟨x5, e6, E⟩ := gb_some E
  refine r_alen X 0 (by decide) dX4_put_8 e6 ?_
  refine r_icmp_ge X 32 dX4_put_9 (by decide) (fun c7 => ?_) (fun c7 => ?_)
  · rw [if_pos c7] at E
    cases E
    exact r_vret X hr dX4_put_32 (by decide) (by decide)
  · rw [if_neg c7] at E
    refine r_aload_n X 0 dX4_put_12 rfl rfl ?_
    obtain ⟨x8, e9, E⟩ := gb_some E
    refine r_getR X dX4_put_13 f_X4_9 e9 ?_
    refine r_aload_n X 0 dX4_put_16 rfl rfl ?_
    obtain ⟨x10, e11, E⟩ := gb_some E
    refine r_getI X dX4_put_17 f_X4_15 e11 ?_
    refine r_iload_n X 1 dX4_put_20 rfl rfl ?_
    obtain ⟨g12, e13, E⟩ := gb_some E
    refine r_iast X dX4_put_21 e13 ?_
    refine r_aload_n X 0 dX4_put_22 rfl rfl ?_
    refine r_dup X dX4_put_23 rfl ?_
    obtain ⟨x14, e15, E⟩ := gb_some E
    refine r_getI X dX4_put_24 f_X4_15 e15 ?_
    refine r_iconst X (v := 1) dX4_put_27 (by decide) ?_
    refine r_iadd X dX4_put_28 ?_
    obtain ⟨g16, e17, E⟩ := gb_some E
    refine r_put X dX4_put_29 f_X4_15 rfl rfl e17 ?_
    cases E
    exact r_vret X hr dX4_put_32 (by decide) (by decide)
theorem t_x4_put {l : Launch} {G : GG} {p : Nat} {b0 : Int32} {g : AH} {r : Unit} {g1 : AH} (E : x4_put p b0 g = some (r, g1)) : Ct l G yX4_put cX4_put 2 none ⟨1, 0, 0, 60⟩ [.ref p, .int b0] g none g1 :=
  ct_of (L0 := [(0, .ref p), (1, .int b0)]) y_X4_put rfl (Nat.le_of_ble_eq_true rfl) fun M hl0 X hr hnm => t_x4_put_b X hl0 hr hnm E
set_option maxHeartbeats 4000000 in
set_option maxRecDepth 100000 in
theorem t_x4_putNumber_j31_3 {l : Launch} {G : GG} {M : MC} (X : CX M G cX4_putNumber 3 RX4 ⟨2, 0, 0, 81⟩) (hl0 : M.2.1 = l) (hr : (mM M).sig.returnType = none) (hnm : (mM M).name = yX4_putNumber.name) {Q : State → Prop} {kc ks : Nat} {s9 : ((Int32) ⊕ (Unit))} {g1 : AH} {a0 : Nat} {a1 : Int32} {a2 : Int32} (hc : ∀ s1, s9 = .inl s1 → WW M G 3 Q kc ks g1 3 [(0, .ref a0), (1, .int a1), (2, .int s1)] []) (hx : ∀ t, s9 = .inr t → WW M G 3 Q kc ks g1 39 [] []) {g : AH} (E : x4_putNumber_j31_3 a0 a1 a2 g = some (s9, g1)) : WW M G 3 Q kc ks g 31 [(0, .ref a0), (1, .int a1), (2, .int a2)] [] := by
  unfold x4_putNumber_j31_3 at E
  refine r_iload_n X 2 dX4_putNumber_31 rfl rfl ?_
  refine r_bipush X (v := 10) dX4_putNumber_32 (by decide) ?_
  refine r_idiv X dX4_putNumber_34 (by decide) ?_
  refine r_istore_n X 2 (L1 := [(2, .int (a2 / 10)), (0, .ref a0), (1, .int a1)]) dX4_putNumber_35 rfl (by decide) rfl ?_
  refine r_goto X 3 dX4_putNumber_36 (by decide) ?_
  cases E
  exact r_pick (by rfl : lpick [(2, .int (a2 / 10)), (0, .ref a0), (1, .int a1)] [1, 2, 0] = _) (hc _ rfl)
set_option maxHeartbeats 4000000 in
set_option maxRecDepth 100000 in
theorem t_x4_putNumber_j18_3 {l : Launch} {G : GG} {M : MC} (X : CX M G cX4_putNumber 3 RX4 ⟨2, 0, 0, 81⟩) (hl0 : M.2.1 = l) (hr : (mM M).sig.returnType = none) (hnm : (mM M).name = yX4_putNumber.name) {Q : State → Prop} {kc ks : Nat} {s9 : ((Int32) ⊕ (Unit))} {g1 : AH} {a0 : Nat} {a1 : Int32} {a2 : Int32} (hc : ∀ s1, s9 = .inl s1 → WW M G 3 Q kc ks g1 3 [(0, .ref a0), (1, .int a1), (2, .int s1)] []) (hx : ∀ t, s9 = .inr t → WW M G 3 Q kc ks g1 39 [] []) {g : AH} (E : x4_putNumber_j18_3 a0 a1 a2 g = some (s9, g1)) : WW M G 3 Q kc ks g 18 [(0, .ref a0), (1, .int a1), (2, .int a2)] [] := by
  unfold x4_putNumber_j18_3 at E
  refine r_aload_n X 0 dX4_putNumber_18 rfl rfl ?_
  refine r_bipush X (v := 48) dX4_putNumber_19 (by decide) ?_
  refine r_iload_n X 1 dX4_putNumber_21 rfl rfl ?_
  refine r_iload_n X 2 dX4_putNumber_22 rfl rfl ?_
  by_cases c1 : a2 = 0
  · rw [if_pos c1] at E; cases E
  rw [if_neg c1] at E
  refine r_idiv X dX4_putNumber_23 c1 ?_
  refine r_bipush X (v := 10) dX4_putNumber_24 (by decide) ?_
  refine r_irem X dX4_putNumber_26 (by decide) ?_
  refine r_iadd X dX4_putNumber_27 ?_
  obtain ⟨u6, e7, E⟩ := gb_some E
  obtain ⟨r3, g4, e5, E⟩ := cb_some E
  refine r_callV0 X hl0 (ci := 4) dX4_putNumber_28 y_X4_put m_X4_20 rfl rfl e7 (t_x4_put (l := l) (G := G) e5) rfl rfl (Nat.le_of_ble_eq_true rfl) (by decide) ?_
  exact r_pick (by rfl : lpick [(0, .ref a0), (1, .int a1), (2, .int a2)] [0, 1, 2] = _) (t_x4_putNumber_j31_3 X hl0 hr hnm hc hx E)
set_option maxHeartbeats 4000000 in
set_option maxRecDepth 100000 in
theorem t_x4_putNumber_l3 {l : Launch} {G : GG} {M : MC} (X : CX M G cX4_putNumber 3 RX4 ⟨2, 0, 0, 81⟩) (hl0 : M.2.1 = l) (hr : (mM M).sig.returnType = none) (hnm : (mM M).name = yX4_putNumber.name) {Q : State → Prop} {kc ks : Nat} {s9 : ((Int32) ⊕ (Unit))} {g1 : AH} {a0 : Nat} {a1 : Int32} {s0 : Int32} (hc : ∀ s1, s9 = .inl s1 → WW M G 3 Q kc ks g1 3 [(0, .ref a0), (1, .int a1), (2, .int s1)] []) (hx : ∀ t, s9 = .inr t → WW M G 3 Q kc ks g1 39 [] []) {g : AH} (E : x4_putNumber_l3 a0 a1 s0 g = some (s9, g1)) : WW M G 3 Q kc ks g 3 [(0, .ref a0), (1, .int a1), (2, .int s0)] [] := by
  unfold x4_putNumber_l3 at E
  refine r_iload_n X 2 dX4_putNumber_3 rfl rfl ?_
  refine r_iconst X (v := 1) dX4_putNumber_4 (by decide) ?_
  refine r_icmp_lt X 39 dX4_putNumber_5 (by decide) (fun c1 => ?_) (fun c1 => ?_)
  · rw [if_pos c1] at E
    cases E
    exact r_pick (by rfl : lpick [(0, .ref a0), (1, .int a1), (2, .int s0)] [] = _) (hx _ rfl)
  · rw [if_neg c1] at E
    refine r_iload_n X 1 dX4_putNumber_8 rfl rfl ?_
    refine r_iload_n X 2 dX4_putNumber_9 rfl rfl ?_
    refine r_icmp_ge X 18 dX4_putNumber_10 (by decide) (fun c2 => ?_) (fun c2 => ?_)
    · rw [if_pos c2] at E
      exact r_pick (by rfl : lpick [(0, .ref a0), (1, .int a1), (2, .int s0)] [0, 1, 2] = _) (t_x4_putNumber_j18_3 X hl0 hr hnm hc hx E)
    · rw [if_neg c2] at E
      refine r_iload_n X 2 dX4_putNumber_13 rfl rfl ?_
      refine r_iconst X (v := 1) dX4_putNumber_14 (by decide) ?_
      refine r_icmp_ne X 31 dX4_putNumber_15 (by decide) (fun c3 => ?_) (fun c3 => ?_)
      · rw [if_neg c3] at E
        exact r_pick (by rfl : lpick [(0, .ref a0), (1, .int a1), (2, .int s0)] [0, 1, 2] = _) (t_x4_putNumber_j31_3 X hl0 hr hnm hc hx E)
      · rw [if_pos c3] at E
        exact r_pick (by rfl : lpick [(0, .ref a0), (1, .int a1), (2, .int s0)] [0, 1, 2] = _) (t_x4_putNumber_j18_3 X hl0 hr hnm hc hx E)
set_option maxHeartbeats 4000000 in
theorem t_x4_putNumber_l3_r {l : Launch} {G : GG} {M : MC} (X : CX M G cX4_putNumber 3 RX4 ⟨2, 0, 0, 81⟩) (hl0 : M.2.1 = l) (hr : (mM M).sig.returnType = none) (hnm : (mM M).name = yX4_putNumber.name) {Q : State → Prop} {kc ks : Nat} {a0 : Nat} {a1 : Int32} : ∀ (n : Nat) (s0 : Int32) (g : AH) (t : (Unit)) (g1 : AH), loopX (x4_putNumber_l3 a0 a1) n s0 g = some (t, g1) → WW M G 3 Q kc ks g1 39 [] [] → WW M G 3 Q kc ks g 3 [(0, .ref a0), (1, .int a1), (2, .int s0)] [] :=
  loop_cps (K := fun t g1 => WW M G 3 Q kc ks g1 39 [] []) (fun _ s0 g => WW M G 3 Q kc ks g 3 [(0, .ref a0), (1, .int a1), (2, .int s0)] []) (fun n s0 g st g1 E hc hx => t_x4_putNumber_l3 X hl0 hr hnm hc hx E)
set_option maxHeartbeats 4000000 in
set_option maxRecDepth 100000 in
theorem t_x4_putNumber_b {l : Launch} {G : GG} {M : MC} (X : CX M G cX4_putNumber 3 RX4 ⟨2, 0, 0, 81⟩) (hl0 : M.2.1 = l) (hr : (mM M).sig.returnType = none) (hnm : (mM M).name = yX4_putNumber.name) {p : Nat} {b0 : Int32} {g : AH} {r : Unit} {g1 : AH} (E : x4_putNumber p b0 g = some (r, g1)) : WW M G 3 (RQ M G none g1 0 0) 0 0 g 0 [(0, .ref p), (1, .int b0)] [] := by
  unfold x4_putNumber at E
  refine r_ldcI X dX4_putNumber_0 q_X4_19 ?_
  refine r_istore_n X 2 (L1 := [(2, .int 1000000000), (0, .ref p), (1, .int b0)]) dX4_putNumber_2 rfl (by decide) rfl ?_
  obtain ⟨t1, g2, e3, E⟩ := cb_some E
  refine r_pick (by rfl : lpick [(2, .int 1000000000), (0, .ref p), (1, .int b0)] [1, 2, 0] = _) (t_x4_putNumber_l3_r X hl0 hr hnm _ _ _ _ _ e3 ?_)
  cases E
  exact r_vret X hr dX4_putNumber_39 (by decide) (by decide)
theorem t_x4_putNumber {l : Launch} {G : GG} {p : Nat} {b0 : Int32} {g : AH} {r : Unit} {g1 : AH} (E : x4_putNumber p b0 g = some (r, g1)) : Ct l G yX4_putNumber cX4_putNumber 3 none ⟨2, 0, 0, 81⟩ [.ref p, .int b0] g none g1 :=
  ct_of (L0 := [(0, .ref p), (1, .int b0)]) y_X4_putNumber rfl (Nat.le_of_ble_eq_true rfl) fun M hl0 X hr hnm => t_x4_putNumber_b X hl0 hr hnm E
set_option maxHeartbeats 4000000 in
set_option maxRecDepth 100000 in
theorem t_x8_writeBunk_j75 {l : Launch} {G : GG} {M : MC} (X : CX M G cX8_writeBunk 4 RX8 ⟨3, 0, 0, 106⟩) (hl0 : M.2.1 = l) (hr : (mM M).sig.returnType = none) (hnm : (mM M).name = yX8_writeBunk.name) {a0 : Nat} {a2 : Int32} {g : AH} {r : Unit} {g1 : AH} (E : x8_writeBunk_j75 a0 a2 g = some (r, g1)) : WW M G 4 (RQ M G none g1 0 0) 0 0 g 75 [(0, .ref a0), (2, .int a2)] [] := by
  unfold x8_writeBunk_j75 at E
  refine r_aload_n X 0 dX8_writeBunk_75 rfl rfl ?_
  obtain ⟨x1, e2, E⟩ := gb_some E
  refine r_getR X dX8_writeBunk_76 f_X8_10 e2 ?_
  refine r_iload_n X 2 dX8_writeBunk_79 rfl rfl ?_
  obtain ⟨u6, e7, E⟩ := gb_some E
  obtain ⟨r3, g4, e5, E⟩ := cb_some E
  refine r_callV0 X hl0 (ci := 3) dX8_writeBunk_80 y_X3_activityNow m_X8_238 rfl rfl e7 (t_x3_activityNow (l := l) (G := G) e5) rfl rfl (Nat.le_of_ble_eq_true rfl) (by decide) ?_
  refine r_istore_n X 3 (L1 := [(3, .int r3), (0, .ref a0), (2, .int a2)]) dX8_writeBunk_83 rfl (by decide) rfl ?_
  refine r_iload_n X 3 dX8_writeBunk_84 rfl rfl ?_
  refine r_if_ne X 100 dX8_writeBunk_85 (by decide) (fun c8 => ?_) (fun c8 => ?_)
  · rw [if_neg c8] at E
    refine r_iload_n X 3 dX8_writeBunk_100 rfl rfl ?_
    refine r_iconst X (v := 1) dX8_writeBunk_101 (by decide) ?_
    refine r_icmp_ne X 114 dX8_writeBunk_102 (by decide) (fun c9 => ?_) (fun c9 => ?_)
    · rw [if_neg c9] at E
      cases E
      exact r_vret X hr dX8_writeBunk_114 (by decide) (by decide)
    · rw [if_pos c9] at E
      refine r_aload_n X 0 dX8_writeBunk_105 rfl rfl ?_
      obtain ⟨x10, e11, E⟩ := gb_some E
      refine r_getR X dX8_writeBunk_106 f_X8_62 e11 ?_
      refine r_bipush X (v := 63) dX8_writeBunk_109 (by decide) ?_
      obtain ⟨u15, e16, E⟩ := gb_some E
      obtain ⟨r12, g13, e14, E⟩ := cb_some E
      refine r_callV0 X hl0 (ci := 4) dX8_writeBunk_111 y_X4_put m_X8_357 rfl rfl e16 (t_x4_put (l := l) (G := G) e14) rfl rfl (Nat.le_of_ble_eq_true rfl) (by decide) ?_
      cases E
      exact r_vret X hr dX8_writeBunk_114 (by decide) (by decide)
  · rw [if_pos c8] at E
    refine r_aload_n X 0 dX8_writeBunk_88 rfl rfl ?_
    obtain ⟨x17, e18, E⟩ := gb_some E
    refine r_getR X dX8_writeBunk_89 f_X8_62 e18 ?_
    refine r_bipush X (v := 33) dX8_writeBunk_92 (by decide) ?_
    obtain ⟨u22, e23, E⟩ := gb_some E
    obtain ⟨r19, g20, e21, E⟩ := cb_some E
    refine r_callV0 X hl0 (ci := 4) dX8_writeBunk_94 y_X4_put m_X8_357 rfl rfl e23 (t_x4_put (l := l) (G := G) e21) rfl rfl (Nat.le_of_ble_eq_true rfl) (by decide) ?_
    refine r_goto X 114 dX8_writeBunk_97 (by decide) ?_
    cases E
    exact r_vret X hr dX8_writeBunk_114 (by decide) (by decide)
set_option maxHeartbeats 4000000 in
set_option maxRecDepth 100000 in
theorem t_x8_writeBunk_b {l : Launch} {G : GG} {M : MC} (X : CX M G cX8_writeBunk 4 RX8 ⟨3, 0, 0, 106⟩) (hl0 : M.2.1 = l) (hr : (mM M).sig.returnType = none) (hnm : (mM M).name = yX8_writeBunk.name) {p : Nat} {b0 : Int32} {g : AH} {r : Unit} {g1 : AH} (E : x8_writeBunk p b0 g = some (r, g1)) : WW M G 4 (RQ M G none g1 0 0) 0 0 g 0 [(0, .ref p), (1, .int b0)] [] := by
  unfold x8_writeBunk at E
  refine r_aload_n X 0 dX8_writeBunk_0 rfl rfl ?_
  obtain ⟨x1, e2, E⟩ := gb_some E
  refine r_getR X dX8_writeBunk_1 f_X8_10 e2 ?_
  refine r_iload_n X 1 dX8_writeBunk_4 rfl rfl ?_
  obtain ⟨u6, e7, E⟩ := gb_some E
  obtain ⟨r3, g4, e5, E⟩ := cb_some E
  refine r_callV0 X hl0 (ci := 3) dX8_writeBunk_5 y_X3_sleeperIn m_X8_168 rfl rfl e7 (t_x3_sleeperIn (l := l) (G := G) e5) rfl rfl (Nat.le_of_ble_eq_true rfl) (by decide) ?_
  refine r_istore_n X 2 (L1 := [(2, .int r3), (0, .ref p), (1, .int b0)]) dX8_writeBunk_8 rfl (by decide) rfl ?_
  refine r_aload_n X 0 dX8_writeBunk_9 rfl rfl ?_
  obtain ⟨x8, e9, E⟩ := gb_some E
  refine r_getR X dX8_writeBunk_10 f_X8_10 e9 ?_
  refine r_iload_n X 2 dX8_writeBunk_13 rfl rfl ?_
  obtain ⟨u13, e14, E⟩ := gb_some E
  obtain ⟨r10, g11, e12, E⟩ := cb_some E
  refine r_callV0 X hl0 (ci := 3) dX8_writeBunk_14 y_X3_hasHiker m_X8_196 rfl rfl e14 (t_x3_hasHiker (l := l) (G := G) e12) rfl rfl (Nat.le_of_ble_eq_true rfl) (by decide) ?_
  refine r_if_ne X 30 dX8_writeBunk_17 (by decide) (fun c15 => ?_) (fun c15 => ?_)
  · rw [if_neg c15] at E
    refine r_aload_n X 0 dX8_writeBunk_30 rfl rfl ?_
    obtain ⟨x16, e17, E⟩ := gb_some E
    refine r_getR X dX8_writeBunk_31 f_X8_62 e17 ?_
    refine r_bipush X (v := 97) dX8_writeBunk_34 (by decide) ?_
    refine r_iload_n X 2 dX8_writeBunk_36 rfl rfl ?_
    refine r_iadd X dX8_writeBunk_37 ?_
    obtain ⟨u21, e22, E⟩ := gb_some E
    obtain ⟨r18, g19, e20, E⟩ := cb_some E
    refine r_callV0 X hl0 (ci := 4) dX8_writeBunk_38 y_X4_put m_X8_357 rfl rfl e22 (t_x4_put (l := l) (G := G) e20) rfl rfl (Nat.le_of_ble_eq_true rfl) (by decide) ?_
    refine r_aload_n X 0 dX8_writeBunk_41 rfl rfl ?_
    obtain ⟨x23, e24, E⟩ := gb_some E
    refine r_getR X dX8_writeBunk_42 f_X8_10 e24 ?_
    obtain ⟨x25, e26, E⟩ := gb_some E
    refine r_getR X dX8_writeBunk_45 f_X8_223 e26 ?_
    refine r_iload_n X 2 dX8_writeBunk_48 rfl rfl ?_
    obtain ⟨x27, e28, E⟩ := gb_some E
    refine r_aald X 4 (by decide) rfl dX8_writeBunk_49 e28 ?_
    obtain ⟨x29, e30, E⟩ := gb_some E
    refine r_getI X dX8_writeBunk_50 f_X8_362 e30 ?_
    refine r_if_le X 75 dX8_writeBunk_53 (by decide) (fun c31 => ?_) (fun c31 => ?_)
    · rw [if_pos c31] at E
      exact r_pick (by rfl : lpick [(2, .int r3), (0, .ref p), (1, .int b0)] [1, 0] = _) (t_x8_writeBunk_j75 X hl0 hr hnm E)
    · rw [if_neg c31] at E
      refine r_aload_n X 0 dX8_writeBunk_56 rfl rfl ?_
      obtain ⟨x32, e33, E⟩ := gb_some E
      refine r_getR X dX8_writeBunk_57 f_X8_62 e33 ?_
      refine r_aload_n X 0 dX8_writeBunk_60 rfl rfl ?_
      obtain ⟨x34, e35, E⟩ := gb_some E
      refine r_getR X dX8_writeBunk_61 f_X8_10 e35 ?_
      obtain ⟨x36, e37, E⟩ := gb_some E
      refine r_getR X dX8_writeBunk_64 f_X8_223 e37 ?_
      refine r_iload_n X 2 dX8_writeBunk_67 rfl rfl ?_
      obtain ⟨x38, e39, E⟩ := gb_some E
      refine r_aald X 4 (by decide) rfl dX8_writeBunk_68 e39 ?_
      obtain ⟨x40, e41, E⟩ := gb_some E
      refine r_getI X dX8_writeBunk_69 f_X8_362 e41 ?_
      obtain ⟨u45, e46, E⟩ := gb_some E
      obtain ⟨r42, g43, e44, E⟩ := cb_some E
      refine r_callV0 X hl0 (ci := 4) dX8_writeBunk_72 y_X4_putNumber m_X8_365 rfl rfl e46 (t_x4_putNumber (l := l) (G := G) e44) rfl rfl (Nat.le_of_ble_eq_true rfl) (by decide) ?_
      exact r_pick (by rfl : lpick [(2, .int r3), (0, .ref p), (1, .int b0)] [1, 0] = _) (t_x8_writeBunk_j75 X hl0 hr hnm E)
  · rw [if_pos c15] at E
    refine r_aload_n X 0 dX8_writeBunk_20 rfl rfl ?_
    obtain ⟨x47, e48, E⟩ := gb_some E
    refine r_getR X dX8_writeBunk_21 f_X8_62 e48 ?_
    refine r_bipush X (v := 45) dX8_writeBunk_24 (by decide) ?_
    obtain ⟨u52, e53, E⟩ := gb_some E
    obtain ⟨r49, g50, e51, E⟩ := cb_some E
    refine r_callV0 X hl0 (ci := 4) dX8_writeBunk_26 y_X4_put m_X8_357 rfl rfl e53 (t_x4_put (l := l) (G := G) e51) rfl rfl (Nat.le_of_ble_eq_true rfl) (by decide) ?_
    cases E
    exact r_vret X hr dX8_writeBunk_29 (by decide) (by decide)
theorem t_x8_writeBunk {l : Launch} {G : GG} {p : Nat} {b0 : Int32} {g : AH} {r : Unit} {g1 : AH} (E : x8_writeBunk p b0 g = some (r, g1)) : Ct l G yX8_writeBunk cX8_writeBunk 4 none ⟨3, 0, 0, 106⟩ [.ref p, .int b0] g none g1 :=
  ct_of (L0 := [(0, .ref p), (1, .int b0)]) y_X8_writeBunk rfl (Nat.le_of_ble_eq_true rfl) fun M hl0 X hr hnm => t_x8_writeBunk_b X hl0 hr hnm E
set_option maxHeartbeats 4000000 in
set_option maxRecDepth 100000 in
theorem t_x8_writeBunks_j33_9 {l : Launch} {G : GG} {M : MC} (X : CX M G cX8_writeBunks 2 RX8 ⟨4, 0, 0, 129⟩) (hl0 : M.2.1 = l) (hr : (mM M).sig.returnType = (some .int)) (hnm : (mM M).name = yX8_writeBunks.name) {Q : State → Prop} {kc ks : Nat} {s9 : ((Int32) ⊕ (Unit))} {g1 : AH} {a0 : Nat} {a1 : Int32} (hc : ∀ s1, s9 = .inl s1 → WW M G 2 Q kc ks g1 9 [(0, .ref a0), (1, .int s1)] []) (hx : ∀ t, s9 = .inr t → WW M G 2 Q kc ks g1 44 [(0, .ref a0)] []) {g : AH} (E : x8_writeBunks_j33_9 a0 a1 g = some (s9, g1)) : WW M G 2 Q kc ks g 33 [(0, .ref a0), (1, .int a1)] [] := by
  unfold x8_writeBunks_j33_9 at E
  refine r_aload_n X 0 dX8_writeBunks_33 rfl rfl ?_
  refine r_iload_n X 1 dX8_writeBunks_34 rfl rfl ?_
  obtain ⟨u4, e5, E⟩ := gb_some E
  obtain ⟨r1, g2, e3, E⟩ := cb_some E
  refine r_callV0 X hl0 (ci := 8) dX8_writeBunks_35 y_X8_writeBunk m_X8_358 rfl rfl e5 (t_x8_writeBunk (l := l) (G := G) e3) rfl rfl (Nat.le_of_ble_eq_true rfl) (by decide) ?_
  refine r_iinc X (v := (a1 + 1)) (L1 := [(1, .int (a1 + 1)), (0, .ref a0)]) dX8_writeBunks_38 rfl rfl (by decide) rfl ?_
  refine r_goto X 9 dX8_writeBunks_41 (by decide) ?_
  cases E
  exact r_pick (by rfl : lpick [(1, .int (a1 + 1)), (0, .ref a0)] [1, 0] = _) (hc _ rfl)
set_option maxHeartbeats 4000000 in
set_option maxRecDepth 100000 in
theorem t_x8_writeBunks_l9 {l : Launch} {G : GG} {M : MC} (X : CX M G cX8_writeBunks 2 RX8 ⟨4, 0, 0, 129⟩) (hl0 : M.2.1 = l) (hr : (mM M).sig.returnType = (some .int)) (hnm : (mM M).name = yX8_writeBunks.name) {Q : State → Prop} {kc ks : Nat} {s9 : ((Int32) ⊕ (Unit))} {g1 : AH} {a0 : Nat} {s0 : Int32} (hc : ∀ s1, s9 = .inl s1 → WW M G 2 Q kc ks g1 9 [(0, .ref a0), (1, .int s1)] []) (hx : ∀ t, s9 = .inr t → WW M G 2 Q kc ks g1 44 [(0, .ref a0)] []) {g : AH} (E : x8_writeBunks_l9 a0 s0 g = some (s9, g1)) : WW M G 2 Q kc ks g 9 [(0, .ref a0), (1, .int s0)] [] := by
  unfold x8_writeBunks_l9 at E
  refine r_iload_n X 1 dX8_writeBunks_9 rfl rfl ?_
  refine r_aload_n X 0 dX8_writeBunks_10 rfl rfl ?_
  obtain ⟨x1, e2, E⟩ := gb_some E
  refine r_getR X dX8_writeBunks_11 f_X8_10 e2 ?_
  obtain ⟨x3, e4, E⟩ := gb_some E
  refine r_getI X dX8_writeBunks_14 f_X8_354 e4 ?_
  refine r_icmp_ge X 44 dX8_writeBunks_17 (by decide) (fun c5 => ?_) (fun c5 => ?_)
  · rw [if_pos c5] at E
    cases E
    exact r_pick (by rfl : lpick [(0, .ref a0), (1, .int s0)] [0] = _) (hx _ rfl)
  · rw [if_neg c5] at E
    refine r_iload_n X 1 dX8_writeBunks_20 rfl rfl ?_
    refine r_if_le X 33 dX8_writeBunks_21 (by decide) (fun c6 => ?_) (fun c6 => ?_)
    · rw [if_pos c6] at E
      exact r_pick (by rfl : lpick [(0, .ref a0), (1, .int s0)] [0, 1] = _) (t_x8_writeBunks_j33_9 X hl0 hr hnm hc hx E)
    · rw [if_neg c6] at E
      refine r_aload_n X 0 dX8_writeBunks_24 rfl rfl ?_
      obtain ⟨x7, e8, E⟩ := gb_some E
      refine r_getR X dX8_writeBunks_25 f_X8_62 e8 ?_
      refine r_bipush X (v := 32) dX8_writeBunks_28 (by decide) ?_
      obtain ⟨u12, e13, E⟩ := gb_some E
      obtain ⟨r9, g10, e11, E⟩ := cb_some E
      refine r_callV0 X hl0 (ci := 4) dX8_writeBunks_30 y_X4_put m_X8_357 rfl rfl e13 (t_x4_put (l := l) (G := G) e11) rfl rfl (Nat.le_of_ble_eq_true rfl) (by decide) ?_
      exact r_pick (by rfl : lpick [(0, .ref a0), (1, .int s0)] [0, 1] = _) (t_x8_writeBunks_j33_9 X hl0 hr hnm hc hx E)
set_option maxHeartbeats 4000000 in
theorem t_x8_writeBunks_l9_r {l : Launch} {G : GG} {M : MC} (X : CX M G cX8_writeBunks 2 RX8 ⟨4, 0, 0, 129⟩) (hl0 : M.2.1 = l) (hr : (mM M).sig.returnType = (some .int)) (hnm : (mM M).name = yX8_writeBunks.name) {Q : State → Prop} {kc ks : Nat} {a0 : Nat} : ∀ (n : Nat) (s0 : Int32) (g : AH) (t : (Unit)) (g1 : AH), loopX (x8_writeBunks_l9 a0) n s0 g = some (t, g1) → WW M G 2 Q kc ks g1 44 [(0, .ref a0)] [] → WW M G 2 Q kc ks g 9 [(0, .ref a0), (1, .int s0)] [] :=
  loop_cps (K := fun t g1 => WW M G 2 Q kc ks g1 44 [(0, .ref a0)] []) (fun _ s0 g => WW M G 2 Q kc ks g 9 [(0, .ref a0), (1, .int s0)] []) (fun n s0 g st g1 E hc hx => t_x8_writeBunks_l9 X hl0 hr hnm hc hx E)
set_option maxHeartbeats 4000000 in
set_option maxRecDepth 100000 in
theorem t_x8_writeBunks_b {l : Launch} {G : GG} {M : MC} (X : CX M G cX8_writeBunks 2 RX8 ⟨4, 0, 0, 129⟩) (hl0 : M.2.1 = l) (hr : (mM M).sig.returnType = (some .int)) (hnm : (mM M).name = yX8_writeBunks.name) {p : Nat} {g : AH} {r : Int32} {g1 : AH} (E : x8_writeBunks p g = some (r, g1)) : WW M G 2 (RQ M G (some (.int r)) g1 0 0) 0 0 g 0 [(0, .ref p)] [] := by
  unfold x8_writeBunks at E
  refine r_aload_n X 0 dX8_writeBunks_0 rfl rfl ?_
  obtain ⟨x1, e2, E⟩ := gb_some E
  refine r_getR X dX8_writeBunks_1 f_X8_62 e2 ?_
  obtain ⟨u6, e7, E⟩ := gb_some E
  obtain ⟨r3, g4, e5, E⟩ := cb_some E
  refine r_callV0 X hl0 (ci := 4) dX8_writeBunks_4 y_X4_clear m_X8_351 rfl rfl e7 (t_x4_clear (l := l) (G := G) e5) rfl rfl (Nat.le_of_ble_eq_true rfl) (by decide) ?_
  refine r_iconst X (v := 0) dX8_writeBunks_7 (by decide) ?_
  refine r_istore_n X 1 (L1 := [(1, .int 0), (0, .ref p)]) dX8_writeBunks_8 rfl (by decide) rfl ?_
  obtain ⟨t8, g9, e10, E⟩ := cb_some E
  refine r_pick (by rfl : lpick [(1, .int 0), (0, .ref p)] [1, 0] = _) (t_x8_writeBunks_l9_r X hl0 hr hnm _ _ _ _ _ e10 ?_)
  refine r_aload_n X 0 dX8_writeBunks_44 rfl rfl ?_
  obtain ⟨x11, e12, E⟩ := gb_some E
  refine r_getR X dX8_writeBunks_45 f_X8_62 e12 ?_
  obtain ⟨x13, e14, E⟩ := gb_some E
  refine r_getI X dX8_writeBunks_48 f_X8_361 e14 ?_
  cases E
  exact r_iret X hr dX8_writeBunks_51 (by decide) (by decide)
theorem t_x8_writeBunks {l : Launch} {G : GG} {p : Nat} {g : AH} {r : Int32} {g1 : AH} (E : x8_writeBunks p g = some (r, g1)) : Ct l G yX8_writeBunks cX8_writeBunks 2 (some .int) ⟨4, 0, 0, 129⟩ [.ref p] g (some (.int r)) g1 :=
  ct_of (L0 := [(0, .ref p)]) y_X8_writeBunks rfl (Nat.le_of_ble_eq_true rfl) fun M hl0 X hr hnm => t_x8_writeBunks_b X hl0 hr hnm E
set_option maxHeartbeats 4000000 in
set_option maxRecDepth 100000 in
theorem t_x8_writeHiker_j58 {l : Launch} {G : GG} {M : MC} (X : CX M G cX8_writeHiker 3 RX8 ⟨3, 0, 0, 103⟩) (hl0 : M.2.1 = l) (hr : (mM M).sig.returnType = none) (hnm : (mM M).name = yX8_writeHiker.name) {a0 : Nat} {a2 : Nat} {g : AH} {r : Unit} {g1 : AH} (E : x8_writeHiker_j58 a0 a2 g = some (r, g1)) : WW M G 3 (RQ M G none g1 0 0) 0 0 g 58 [(0, .ref a0), (2, .ref a2)] [] := by
  unfold x8_writeHiker_j58 at E
  refine r_aload_n X 0 dX8_writeHiker_58 rfl rfl ?_
  obtain ⟨x1, e2, E⟩ := gb_some E
  refine r_getR X dX8_writeHiker_59 f_X8_62 e2 ?_
  refine r_bipush X (v := 47) dX8_writeHiker_62 (by decide) ?_
  obtain ⟨u6, e7, E⟩ := gb_some E
  obtain ⟨r3, g4, e5, E⟩ := cb_some E
  refine r_callV0 X hl0 (ci := 4) dX8_writeHiker_64 y_X4_put m_X8_357 rfl rfl e7 (t_x4_put (l := l) (G := G) e5) rfl rfl (Nat.le_of_ble_eq_true rfl) (by decide) ?_
  refine r_aload_n X 0 dX8_writeHiker_67 rfl rfl ?_
  obtain ⟨x8, e9, E⟩ := gb_some E
  refine r_getR X dX8_writeHiker_68 f_X8_62 e9 ?_
  refine r_aload_n X 2 dX8_writeHiker_71 rfl rfl ?_
  obtain ⟨x10, e11, E⟩ := gb_some E
  refine r_getR X dX8_writeHiker_72 f_X8_243 e11 ?_
  refine r_iconst X (v := 2) dX8_writeHiker_75 (by decide) ?_
  obtain ⟨x12, e13, E⟩ := gb_some E
  refine r_iald X dX8_writeHiker_76 e13 ?_
  obtain ⟨u17, e18, E⟩ := gb_some E
  obtain ⟨r14, g15, e16, E⟩ := cb_some E
  refine r_callV0 X hl0 (ci := 4) dX8_writeHiker_77 y_X4_putNumber m_X8_365 rfl rfl e18 (t_x4_putNumber (l := l) (G := G) e16) rfl rfl (Nat.le_of_ble_eq_true rfl) (by decide) ?_
  cases E
  exact r_vret X hr dX8_writeHiker_80 (by decide) (by decide)
set_option maxHeartbeats 4000000 in
set_option maxRecDepth 100000 in
theorem t_x8_writeHiker_b {l : Launch} {G : GG} {M : MC} (X : CX M G cX8_writeHiker 3 RX8 ⟨3, 0, 0, 103⟩) (hl0 : M.2.1 = l) (hr : (mM M).sig.returnType = none) (hnm : (mM M).name = yX8_writeHiker.name) {p : Nat} {b0 : Int32} {b1 : Nat} {g : AH} {r : Unit} {g1 : AH} (E : x8_writeHiker p b0 b1 g = some (r, g1)) : WW M G 3 (RQ M G none g1 0 0) 0 0 g 0 [(0, .ref p), (1, .int b0), (2, .ref b1)] [] := by
  unfold x8_writeHiker at E
  refine r_aload_n X 0 dX8_writeHiker_0 rfl rfl ?_
  obtain ⟨x1, e2, E⟩ := gb_some E
  refine r_getR X dX8_writeHiker_1 f_X8_62 e2 ?_
  refine r_bipush X (v := 97) dX8_writeHiker_4 (by decide) ?_
  refine r_iload_n X 1 dX8_writeHiker_6 rfl rfl ?_
  refine r_iadd X dX8_writeHiker_7 ?_
  obtain ⟨u6, e7, E⟩ := gb_some E
  obtain ⟨r3, g4, e5, E⟩ := cb_some E
  refine r_callV0 X hl0 (ci := 4) dX8_writeHiker_8 y_X4_put m_X8_357 rfl rfl e7 (t_x4_put (l := l) (G := G) e5) rfl rfl (Nat.le_of_ble_eq_true rfl) (by decide) ?_
  refine r_aload_n X 0 dX8_writeHiker_11 rfl rfl ?_
  obtain ⟨x8, e9, E⟩ := gb_some E
  refine r_getR X dX8_writeHiker_12 f_X8_62 e9 ?_
  refine r_bipush X (v := 61) dX8_writeHiker_15 (by decide) ?_
  obtain ⟨u13, e14, E⟩ := gb_some E
  obtain ⟨r10, g11, e12, E⟩ := cb_some E
  refine r_callV0 X hl0 (ci := 4) dX8_writeHiker_17 y_X4_put m_X8_357 rfl rfl e14 (t_x4_put (l := l) (G := G) e12) rfl rfl (Nat.le_of_ble_eq_true rfl) (by decide) ?_
  refine r_aload_n X 0 dX8_writeHiker_20 rfl rfl ?_
  obtain ⟨x15, e16, E⟩ := gb_some E
  refine r_getR X dX8_writeHiker_21 f_X8_62 e16 ?_
  refine r_aload_n X 2 dX8_writeHiker_24 rfl rfl ?_
  obtain ⟨x17, e18, E⟩ := gb_some E
  refine r_getI X dX8_writeHiker_25 f_X8_246 e18 ?_
  obtain ⟨u22, e23, E⟩ := gb_some E
  obtain ⟨r19, g20, e21, E⟩ := cb_some E
  refine r_callV0 X hl0 (ci := 4) dX8_writeHiker_28 y_X4_putNumber m_X8_365 rfl rfl e23 (t_x4_putNumber (l := l) (G := G) e21) rfl rfl (Nat.le_of_ble_eq_true rfl) (by decide) ?_
  refine r_aload_n X 2 dX8_writeHiker_31 rfl rfl ?_
  obtain ⟨x24, e25, E⟩ := gb_some E
  refine r_getI X dX8_writeHiker_32 f_X8_249 e25 ?_
  refine r_if_le X 58 dX8_writeHiker_35 (by decide) (fun c26 => ?_) (fun c26 => ?_)
  · rw [if_pos c26] at E
    exact r_pick (by rfl : lpick [(0, .ref p), (1, .int b0), (2, .ref b1)] [0, 2] = _) (t_x8_writeHiker_j58 X hl0 hr hnm E)
  · rw [if_neg c26] at E
    refine r_aload_n X 0 dX8_writeHiker_38 rfl rfl ?_
    obtain ⟨x27, e28, E⟩ := gb_some E
    refine r_getR X dX8_writeHiker_39 f_X8_62 e28 ?_
    refine r_bipush X (v := 45) dX8_writeHiker_42 (by decide) ?_
    obtain ⟨u32, e33, E⟩ := gb_some E
    obtain ⟨r29, g30, e31, E⟩ := cb_some E
    refine r_callV0 X hl0 (ci := 4) dX8_writeHiker_44 y_X4_put m_X8_357 rfl rfl e33 (t_x4_put (l := l) (G := G) e31) rfl rfl (Nat.le_of_ble_eq_true rfl) (by decide) ?_
    refine r_aload_n X 0 dX8_writeHiker_47 rfl rfl ?_
    obtain ⟨x34, e35, E⟩ := gb_some E
    refine r_getR X dX8_writeHiker_48 f_X8_62 e35 ?_
    refine r_aload_n X 2 dX8_writeHiker_51 rfl rfl ?_
    obtain ⟨x36, e37, E⟩ := gb_some E
    refine r_getI X dX8_writeHiker_52 f_X8_249 e37 ?_
    obtain ⟨u41, e42, E⟩ := gb_some E
    obtain ⟨r38, g39, e40, E⟩ := cb_some E
    refine r_callV0 X hl0 (ci := 4) dX8_writeHiker_55 y_X4_putNumber m_X8_365 rfl rfl e42 (t_x4_putNumber (l := l) (G := G) e40) rfl rfl (Nat.le_of_ble_eq_true rfl) (by decide) ?_
    exact r_pick (by rfl : lpick [(0, .ref p), (1, .int b0), (2, .ref b1)] [0, 2] = _) (t_x8_writeHiker_j58 X hl0 hr hnm E)
theorem t_x8_writeHiker {l : Launch} {G : GG} {p : Nat} {b0 : Int32} {b1 : Nat} {g : AH} {r : Unit} {g1 : AH} (E : x8_writeHiker p b0 b1 g = some (r, g1)) : Ct l G yX8_writeHiker cX8_writeHiker 3 none ⟨3, 0, 0, 103⟩ [.ref p, .int b0, .ref b1] g none g1 :=
  ct_of (L0 := [(0, .ref p), (1, .int b0), (2, .ref b1)]) y_X8_writeHiker rfl (Nat.le_of_ble_eq_true rfl) fun M hl0 X hr hnm => t_x8_writeHiker_b X hl0 hr hnm E
set_option maxHeartbeats 4000000 in
set_option maxRecDepth 100000 in
theorem t_x8_writeLedger_j33_9 {l : Launch} {G : GG} {M : MC} (X : CX M G cX8_writeLedger 2 RX8 ⟨4, 0, 0, 125⟩) (hl0 : M.2.1 = l) (hr : (mM M).sig.returnType = (some .int)) (hnm : (mM M).name = yX8_writeLedger.name) {Q : State → Prop} {kc ks : Nat} {s9 : ((Int32) ⊕ (Unit))} {g1 : AH} {a0 : Nat} {a1 : Int32} (hc : ∀ s1, s9 = .inl s1 → WW M G 2 Q kc ks g1 9 [(0, .ref a0), (1, .int s1)] []) (hx : ∀ t, s9 = .inr t → WW M G 2 Q kc ks g1 53 [(0, .ref a0)] []) {g : AH} (E : x8_writeLedger_j33_9 a0 a1 g = some (s9, g1)) : WW M G 2 Q kc ks g 33 [(0, .ref a0), (1, .int a1)] [] := by
  unfold x8_writeLedger_j33_9 at E
  refine r_aload_n X 0 dX8_writeLedger_33 rfl rfl ?_
  refine r_iload_n X 1 dX8_writeLedger_34 rfl rfl ?_
  refine r_aload_n X 0 dX8_writeLedger_35 rfl rfl ?_
  obtain ⟨x1, e2, E⟩ := gb_some E
  refine r_getR X dX8_writeLedger_36 f_X8_10 e2 ?_
  obtain ⟨x3, e4, E⟩ := gb_some E
  refine r_getR X dX8_writeLedger_39 f_X8_223 e4 ?_
  refine r_iload_n X 1 dX8_writeLedger_42 rfl rfl ?_
  obtain ⟨x5, e6, E⟩ := gb_some E
  refine r_aald X 4 (by decide) rfl dX8_writeLedger_43 e6 ?_
  obtain ⟨u10, e11, E⟩ := gb_some E
  obtain ⟨r7, g8, e9, E⟩ := cb_some E
  refine r_callV0 X hl0 (ci := 8) dX8_writeLedger_44 y_X8_writeHiker m_X8_368 rfl rfl e11 (t_x8_writeHiker (l := l) (G := G) e9) rfl rfl (Nat.le_of_ble_eq_true rfl) (by decide) ?_
  refine r_iinc X (v := (a1 + 1)) (L1 := [(1, .int (a1 + 1)), (0, .ref a0)]) dX8_writeLedger_47 rfl rfl (by decide) rfl ?_
  refine r_goto X 9 dX8_writeLedger_50 (by decide) ?_
  cases E
  exact r_pick (by rfl : lpick [(1, .int (a1 + 1)), (0, .ref a0)] [1, 0] = _) (hc _ rfl)
set_option maxHeartbeats 4000000 in
set_option maxRecDepth 100000 in
theorem t_x8_writeLedger_l9 {l : Launch} {G : GG} {M : MC} (X : CX M G cX8_writeLedger 2 RX8 ⟨4, 0, 0, 125⟩) (hl0 : M.2.1 = l) (hr : (mM M).sig.returnType = (some .int)) (hnm : (mM M).name = yX8_writeLedger.name) {Q : State → Prop} {kc ks : Nat} {s9 : ((Int32) ⊕ (Unit))} {g1 : AH} {a0 : Nat} {s0 : Int32} (hc : ∀ s1, s9 = .inl s1 → WW M G 2 Q kc ks g1 9 [(0, .ref a0), (1, .int s1)] []) (hx : ∀ t, s9 = .inr t → WW M G 2 Q kc ks g1 53 [(0, .ref a0)] []) {g : AH} (E : x8_writeLedger_l9 a0 s0 g = some (s9, g1)) : WW M G 2 Q kc ks g 9 [(0, .ref a0), (1, .int s0)] [] := by
  unfold x8_writeLedger_l9 at E
  refine r_iload_n X 1 dX8_writeLedger_9 rfl rfl ?_
  refine r_aload_n X 0 dX8_writeLedger_10 rfl rfl ?_
  obtain ⟨x1, e2, E⟩ := gb_some E
  refine r_getR X dX8_writeLedger_11 f_X8_10 e2 ?_
  obtain ⟨x3, e4, E⟩ := gb_some E
  refine r_getI X dX8_writeLedger_14 f_X8_116 e4 ?_
  refine r_icmp_ge X 53 dX8_writeLedger_17 (by decide) (fun c5 => ?_) (fun c5 => ?_)
  · rw [if_pos c5] at E
    cases E
    exact r_pick (by rfl : lpick [(0, .ref a0), (1, .int s0)] [0] = _) (hx _ rfl)
  · rw [if_neg c5] at E
    refine r_iload_n X 1 dX8_writeLedger_20 rfl rfl ?_
    refine r_if_le X 33 dX8_writeLedger_21 (by decide) (fun c6 => ?_) (fun c6 => ?_)
    · rw [if_pos c6] at E
      exact r_pick (by rfl : lpick [(0, .ref a0), (1, .int s0)] [0, 1] = _) (t_x8_writeLedger_j33_9 X hl0 hr hnm hc hx E)
    · rw [if_neg c6] at E
      refine r_aload_n X 0 dX8_writeLedger_24 rfl rfl ?_
      obtain ⟨x7, e8, E⟩ := gb_some E
      refine r_getR X dX8_writeLedger_25 f_X8_62 e8 ?_
      refine r_bipush X (v := 32) dX8_writeLedger_28 (by decide) ?_
      obtain ⟨u12, e13, E⟩ := gb_some E
      obtain ⟨r9, g10, e11, E⟩ := cb_some E
      refine r_callV0 X hl0 (ci := 4) dX8_writeLedger_30 y_X4_put m_X8_357 rfl rfl e13 (t_x4_put (l := l) (G := G) e11) rfl rfl (Nat.le_of_ble_eq_true rfl) (by decide) ?_
      exact r_pick (by rfl : lpick [(0, .ref a0), (1, .int s0)] [0, 1] = _) (t_x8_writeLedger_j33_9 X hl0 hr hnm hc hx E)
set_option maxHeartbeats 4000000 in
theorem t_x8_writeLedger_l9_r {l : Launch} {G : GG} {M : MC} (X : CX M G cX8_writeLedger 2 RX8 ⟨4, 0, 0, 125⟩) (hl0 : M.2.1 = l) (hr : (mM M).sig.returnType = (some .int)) (hnm : (mM M).name = yX8_writeLedger.name) {Q : State → Prop} {kc ks : Nat} {a0 : Nat} : ∀ (n : Nat) (s0 : Int32) (g : AH) (t : (Unit)) (g1 : AH), loopX (x8_writeLedger_l9 a0) n s0 g = some (t, g1) → WW M G 2 Q kc ks g1 53 [(0, .ref a0)] [] → WW M G 2 Q kc ks g 9 [(0, .ref a0), (1, .int s0)] [] :=
  loop_cps (K := fun t g1 => WW M G 2 Q kc ks g1 53 [(0, .ref a0)] []) (fun _ s0 g => WW M G 2 Q kc ks g 9 [(0, .ref a0), (1, .int s0)] []) (fun n s0 g st g1 E hc hx => t_x8_writeLedger_l9 X hl0 hr hnm hc hx E)
set_option maxHeartbeats 4000000 in
set_option maxRecDepth 100000 in
theorem t_x8_writeLedger_b {l : Launch} {G : GG} {M : MC} (X : CX M G cX8_writeLedger 2 RX8 ⟨4, 0, 0, 125⟩) (hl0 : M.2.1 = l) (hr : (mM M).sig.returnType = (some .int)) (hnm : (mM M).name = yX8_writeLedger.name) {p : Nat} {g : AH} {r : Int32} {g1 : AH} (E : x8_writeLedger p g = some (r, g1)) : WW M G 2 (RQ M G (some (.int r)) g1 0 0) 0 0 g 0 [(0, .ref p)] [] := by
  unfold x8_writeLedger at E
  refine r_aload_n X 0 dX8_writeLedger_0 rfl rfl ?_
  obtain ⟨x1, e2, E⟩ := gb_some E
  refine r_getR X dX8_writeLedger_1 f_X8_62 e2 ?_
  obtain ⟨u6, e7, E⟩ := gb_some E
  obtain ⟨r3, g4, e5, E⟩ := cb_some E
  refine r_callV0 X hl0 (ci := 4) dX8_writeLedger_4 y_X4_clear m_X8_351 rfl rfl e7 (t_x4_clear (l := l) (G := G) e5) rfl rfl (Nat.le_of_ble_eq_true rfl) (by decide) ?_
  refine r_iconst X (v := 0) dX8_writeLedger_7 (by decide) ?_
  refine r_istore_n X 1 (L1 := [(1, .int 0), (0, .ref p)]) dX8_writeLedger_8 rfl (by decide) rfl ?_
  obtain ⟨t8, g9, e10, E⟩ := cb_some E
  refine r_pick (by rfl : lpick [(1, .int 0), (0, .ref p)] [1, 0] = _) (t_x8_writeLedger_l9_r X hl0 hr hnm _ _ _ _ _ e10 ?_)
  refine r_aload_n X 0 dX8_writeLedger_53 rfl rfl ?_
  obtain ⟨x11, e12, E⟩ := gb_some E
  refine r_getR X dX8_writeLedger_54 f_X8_62 e12 ?_
  obtain ⟨x13, e14, E⟩ := gb_some E
  refine r_getI X dX8_writeLedger_57 f_X8_361 e14 ?_
  cases E
  exact r_iret X hr dX8_writeLedger_60 (by decide) (by decide)
theorem t_x8_writeLedger {l : Launch} {G : GG} {p : Nat} {g : AH} {r : Int32} {g1 : AH} (E : x8_writeLedger p g = some (r, g1)) : Ct l G yX8_writeLedger cX8_writeLedger 2 (some .int) ⟨4, 0, 0, 125⟩ [.ref p] g (some (.int r)) g1 :=
  ct_of (L0 := [(0, .ref p)]) y_X8_writeLedger rfl (Nat.le_of_ble_eq_true rfl) fun M hl0 X hr hnm => t_x8_writeLedger_b X hl0 hr hnm E
set_option maxHeartbeats 4000000 in
set_option maxRecDepth 100000 in
theorem t_x8_outputByte_b {l : Launch} {G : GG} {M : MC} (X : CX M G cX8_outputByte 2 RX8 ⟨2, 0, 0, 82⟩) (hl0 : M.2.1 = l) (hr : (mM M).sig.returnType = (some .int)) (hnm : (mM M).name = yX8_outputByte.name) {p : Nat} {b0 : Int32} {g : AH} {r : Int32} {g1 : AH} (E : x8_outputByte p b0 g = some (r, g1)) : WW M G 2 (RQ M G (some (.int r)) g1 0 0) 0 0 g 0 [(0, .ref p), (1, .int b0)] [] := by
  unfold x8_outputByte at E
  refine r_iload_n X 1 dX8_outputByte_0 rfl rfl ?_
  refine r_iconst X (v := 0) dX8_outputByte_1 (by decide) ?_
  refine r_aload_n X 0 dX8_outputByte_2 rfl rfl ?_
  obtain ⟨x1, e2, E⟩ := gb_some E
  refine r_getR X dX8_outputByte_3 f_X8_62 e2 ?_
  obtain ⟨x3, e4, E⟩ := gb_some E
  refine r_getI X dX8_outputByte_6 f_X8_361 e4 ?_
  refine r_iconst X (v := 1) dX8_outputByte_9 (by decide) ?_
  refine r_isub X dX8_outputByte_10 ?_
  obtain ⟨r5, g6, e7, E⟩ := cb_some E
  refine r_callS0 X hl0 dX8_outputByte_11 y_X8_isWithin m_X8_100 (t_x8_isWithin (l := l) (G := G) e7) rfl rfl (Nat.le_of_ble_eq_true rfl) (by decide) ?_
  refine r_if_eq X 29 dX8_outputByte_14 (by decide) (fun c8 => ?_) (fun c8 => ?_)
  · rw [if_pos c8] at E
    refine r_iconst X (v := (-1)) dX8_outputByte_29 (by decide) ?_
    cases E
    exact r_iret X hr dX8_outputByte_30 (by decide) (by decide)
  · rw [if_neg c8] at E
    refine r_aload_n X 0 dX8_outputByte_17 rfl rfl ?_
    obtain ⟨x9, e10, E⟩ := gb_some E
    refine r_getR X dX8_outputByte_18 f_X8_62 e10 ?_
    obtain ⟨x11, e12, E⟩ := gb_some E
    refine r_getR X dX8_outputByte_21 f_X8_372 e12 ?_
    refine r_iload_n X 1 dX8_outputByte_24 rfl rfl ?_
    obtain ⟨x13, e14, E⟩ := gb_some E
    refine r_iald X dX8_outputByte_25 e14 ?_
    refine r_goto X 30 dX8_outputByte_26 (by decide) ?_
    cases E
    exact r_iret X hr dX8_outputByte_30 (by decide) (by decide)
theorem t_x8_outputByte {l : Launch} {G : GG} {p : Nat} {b0 : Int32} {g : AH} {r : Int32} {g1 : AH} (E : x8_outputByte p b0 g = some (r, g1)) : Ct l G yX8_outputByte cX8_outputByte 2 (some .int) ⟨2, 0, 0, 82⟩ [.ref p, .int b0] g (some (.int r)) g1 :=
  ct_of (L0 := [(0, .ref p), (1, .int b0)]) y_X8_outputByte rfl (Nat.le_of_ble_eq_true rfl) fun M hl0 X hr hnm => t_x8_outputByte_b X hl0 hr hnm E
set_option maxHeartbeats 4000000 in
set_option maxRecDepth 100000 in
theorem t_x2_takeBack_b {l : Launch} {G : GG} {M : MC} (X : CX M G cX2_takeBack 2 RX2 ⟨4, 0, 0, 193⟩) (hl0 : M.2.1 = l) (hr : (mM M).sig.returnType = none) (hnm : (mM M).name = yX2_takeBack.name) {p : Nat} {b0 : Nat} {g : AH} {r : Unit} {g1 : AH} (E : x2_takeBack p b0 g = some (r, g1)) : WW M G 2 (RQ M G none g1 0 0) 0 0 g 0 [(0, .ref p), (1, .ref b0)] [] := by
  unfold x2_takeBack at E
  refine r_aload_n X 0 dX2_takeBack_0 rfl rfl ?_
  refine r_aload_n X 0 dX2_takeBack_1 rfl rfl ?_
  obtain ⟨x1, e2, E⟩ := gb_some E
  refine r_getI X dX2_takeBack_2 f_X2_19 e2 ?_
  refine r_bipush X (v := 6) dX2_takeBack_5 (by decide) ?_
  refine r_iadd X dX2_takeBack_7 ?_
  refine r_iconst X (v := 1) dX2_takeBack_8 (by decide) ?_
  refine r_isub X dX2_takeBack_9 ?_
  refine r_bipush X (v := 6) dX2_takeBack_10 (by decide) ?_
  refine r_irem X dX2_takeBack_12 (by decide) ?_
  obtain ⟨g4, e5, E⟩ := gb_some E
  refine r_put X dX2_takeBack_13 f_X2_19 rfl rfl e5 ?_
  refine r_aload_n X 0 dX2_takeBack_16 rfl rfl ?_
  refine r_dup X dX2_takeBack_17 rfl ?_
  obtain ⟨x6, e7, E⟩ := gb_some E
  refine r_getI X dX2_takeBack_18 f_X2_29 e7 ?_
  refine r_iconst X (v := 1) dX2_takeBack_21 (by decide) ?_
  refine r_isub X dX2_takeBack_22 ?_
  obtain ⟨g8, e9, E⟩ := gb_some E
  refine r_put X dX2_takeBack_23 f_X2_29 rfl rfl e9 ?_
  refine r_aload_n X 1 dX2_takeBack_26 rfl rfl ?_
  refine r_aload_n X 0 dX2_takeBack_27 rfl rfl ?_
  obtain ⟨x10, e11, E⟩ := gb_some E
  refine r_getR X dX2_takeBack_28 f_X2_13 e11 ?_
  refine r_aload_n X 0 dX2_takeBack_31 rfl rfl ?_
  obtain ⟨x12, e13, E⟩ := gb_some E
  refine r_getI X dX2_takeBack_32 f_X2_19 e13 ?_
  obtain ⟨x14, e15, E⟩ := gb_some E
  refine r_aald X 5 (by decide) rfl dX2_takeBack_35 e15 ?_
  obtain ⟨u19, e20, E⟩ := gb_some E
  obtain ⟨r16, g17, e18, E⟩ := cb_some E
  refine r_callV0 X hl0 (ci := 3) dX2_takeBack_36 y_X3_copyFrom m_X2_23 rfl rfl e20 (t_x3_copyFrom (l := l) (G := G) e18) rfl rfl (Nat.le_of_ble_eq_true rfl) (by decide) ?_
  cases E
  exact r_vret X hr dX2_takeBack_39 (by decide) (by decide)
theorem t_x2_takeBack {l : Launch} {G : GG} {p : Nat} {b0 : Nat} {g : AH} {r : Unit} {g1 : AH} (E : x2_takeBack p b0 g = some (r, g1)) : Ct l G yX2_takeBack cX2_takeBack 2 none ⟨4, 0, 0, 193⟩ [.ref p, .ref b0] g none g1 :=
  ct_of (L0 := [(0, .ref p), (1, .ref b0)]) y_X2_takeBack rfl (Nat.le_of_ble_eq_true rfl) fun M hl0 X hr hnm => t_x2_takeBack_b X hl0 hr hnm E
set_option maxHeartbeats 4000000 in
set_option maxRecDepth 100000 in
theorem t_x8_undo_b {l : Launch} {G : GG} {M : MC} (X : CX M G cX8_undo 1 RX8 ⟨7, 1, 6, 214⟩) (hl0 : M.2.1 = l) (hr : (mM M).sig.returnType = (some .int)) (hnm : (mM M).name = yX8_undo.name) (hnt : ∀ x ∈ (mC M).exceptionTable.toList, False) (hst : l.stackTraces = false) {p : Nat} {g : AH} {o : (Int32 ⊕ String)} {g1 : AH} (E : x8_undo p g = some (o, g1)) : WW M G 1 (RX M G (ovI o) g1 1 6) 0 0 g 0 [(0, .ref p)] [] := by
  unfold x8_undo at E
  refine r_aload_n X 0 dX8_undo_0 rfl rfl ?_
  obtain ⟨x1, e2, E⟩ := gb_some E
  refine r_getR X dX8_undo_1 f_X8_29 e2 ?_
  obtain ⟨x3, e4, E⟩ := gb_some E
  refine r_getI X dX8_undo_4 f_X8_375 e4 ?_
  refine r_iconst X (v := 1) dX8_undo_7 (by decide) ?_
  refine r_icmp_ge X 22 dX8_undo_8 (by decide) (fun c5 => ?_) (fun c5 => ?_)
  · rw [if_pos c5] at E
    refine r_aload_n X 0 dX8_undo_22 rfl rfl ?_
    obtain ⟨x6, e7, E⟩ := gb_some E
    refine r_getR X dX8_undo_23 f_X8_29 e7 ?_
    refine r_aload_n X 0 dX8_undo_26 rfl rfl ?_
    obtain ⟨x8, e9, E⟩ := gb_some E
    refine r_getR X dX8_undo_27 f_X8_10 e9 ?_
    obtain ⟨u13, e14, E⟩ := gb_some E
    obtain ⟨r10, g11, e12, E⟩ := cb_some E
    refine r_callV0 X hl0 (ci := 2) dX8_undo_30 y_X2_takeBack m_X8_380 rfl rfl e14 (t_x2_takeBack (l := l) (G := G) e12) rfl rfl (Nat.le_of_ble_eq_true rfl) (by decide) ?_
    refine r_aload_n X 0 dX8_undo_33 rfl rfl ?_
    obtain ⟨x15, e16, E⟩ := gb_some E
    refine r_getR X dX8_undo_34 f_X8_29 e16 ?_
    obtain ⟨x17, e18, E⟩ := gb_some E
    refine r_getI X dX8_undo_37 f_X8_375 e18 ?_
    cases E
    exact r_ret (r_iret X hr dX8_undo_40 (by decide) (by decide))
  · rw [if_neg c5] at E
    cases E
    exact r_throwW X hl0 hst hnt th_X8_94 k_X8_90 (List.mem_of_getElem? (i := 12) rfl) dX8_undo_11 dX8_undo_14 dX8_undo_15 dX8_undo_18 dX8_undo_21 ⟨by decide, Nat.le_of_ble_eq_true rfl⟩ (by decide) (by decide)
theorem t_x8_undo {l : Launch} (hst : l.stackTraces = false) {G : GG} {p : Nat} {g : AH} {o : (Int32 ⊕ String)} {g1 : AH} (E : x8_undo p g = some (o, g1)) : CtX l G yX8_undo cX8_undo 1 (some .int) ⟨7, 1, 6, 214⟩ [.ref p] g (ovI o) g1 :=
  ctX_of (L0 := [(0, .ref p)]) y_X8_undo rfl (Nat.le_of_ble_eq_true rfl) fun M hl0 X hr hnm hnt => t_x8_undo_b X hl0 hr hnm hnt hst E
set_option maxHeartbeats 4000000 in
set_option maxRecDepth 100000 in
theorem t_x8_demandSnapshotNumber_b {l : Launch} {G : GG} {M : MC} (X : CX M G cX8_demandSnapshotNumber 1 RX8 ⟨7, 1, 6, 200⟩) (hl0 : M.2.1 = l) (hr : (mM M).sig.returnType = none) (hnm : (mM M).name = yX8_demandSnapshotNumber.name) (hnt : ∀ x ∈ (mC M).exceptionTable.toList, False) (hst : l.stackTraces = false) {b0 : Int32} {g : AH} {o : (Unit ⊕ String)} {g1 : AH} (E : x8_demandSnapshotNumber b0 g = some (o, g1)) : WW M G 1 (RX M G (ovU o) g1 1 6) 0 0 g 0 [(0, .int b0)] [] := by
  unfold x8_demandSnapshotNumber at E
  refine r_iload_n X 0 dX8_demandSnapshotNumber_0 rfl rfl ?_
  refine r_iconst X (v := 0) dX8_demandSnapshotNumber_1 (by decide) ?_
  refine r_iconst X (v := 1) dX8_demandSnapshotNumber_2 (by decide) ?_
  obtain ⟨r1, g2, e3, E⟩ := cb_some E
  refine r_callS0 X hl0 dX8_demandSnapshotNumber_3 y_X8_isWithin m_X8_100 (t_x8_isWithin (l := l) (G := G) e3) rfl rfl (Nat.le_of_ble_eq_true rfl) (by decide) ?_
  refine r_if_ne X 20 dX8_demandSnapshotNumber_6 (by decide) (fun c4 => ?_) (fun c4 => ?_)
  · rw [if_neg c4] at E
    cases E
    exact r_ret (r_vret X hr dX8_demandSnapshotNumber_20 (by decide) (by decide))
  · rw [if_pos c4] at E
    cases E
    exact r_throwW X hl0 hst hnt th_X8_108 k_X8_104 (List.mem_of_getElem? (i := 14) rfl) dX8_demandSnapshotNumber_9 dX8_demandSnapshotNumber_12 dX8_demandSnapshotNumber_13 dX8_demandSnapshotNumber_16 dX8_demandSnapshotNumber_19 ⟨by decide, Nat.le_of_ble_eq_true rfl⟩ (by decide) (by decide)
theorem t_x8_demandSnapshotNumber {l : Launch} (hst : l.stackTraces = false) {G : GG} {b0 : Int32} {g : AH} {o : (Unit ⊕ String)} {g1 : AH} (E : x8_demandSnapshotNumber b0 g = some (o, g1)) : CtX l G yX8_demandSnapshotNumber cX8_demandSnapshotNumber 1 none ⟨7, 1, 6, 200⟩ [.int b0] g (ovU o) g1 :=
  ctX_of (L0 := [(0, .int b0)]) y_X8_demandSnapshotNumber rfl (Nat.le_of_ble_eq_true rfl) fun M hl0 X hr hnm hnt => t_x8_demandSnapshotNumber_b X hl0 hr hnm hnt hst E
set_option maxHeartbeats 4000000 in
set_option maxRecDepth 100000 in
theorem t_x8_saveSnapshot_b {l : Launch} {G : GG} {M : MC} (X : CX M G cX8_saveSnapshot 2 RX8 ⟨8, 1, 6, 220⟩) (hl0 : M.2.1 = l) (hr : (mM M).sig.returnType = none) (hnm : (mM M).name = yX8_saveSnapshot.name) (hnt : ∀ x ∈ (mC M).exceptionTable.toList, False) (hst : l.stackTraces = false) {p : Nat} {b0 : Int32} {g : AH} {o : (Unit ⊕ String)} {g1 : AH} (E : x8_saveSnapshot p b0 g = some (o, g1)) : WW M G 2 (RX M G (ovU o) g1 1 6) 0 0 g 0 [(0, .ref p), (1, .int b0)] [] := by
  unfold x8_saveSnapshot at E
  refine r_iload_n X 1 dX8_saveSnapshot_0 rfl rfl ?_
  obtain ⟨r1, g2, e3, E⟩ := cb_some E
  rcases r1 with v4 | w5
  · rw [Sum.elim_inl] at E
    refine r_callSX X hl0 dX8_saveSnapshot_1 y_X8_demandSnapshotNumber m_X8_383 (t_x8_demandSnapshotNumber (l := l) hst (G := G) e3) rfl rfl (Nat.le_of_ble_eq_true rfl) (by decide) ?_
    refine r_aload_n X 0 dX8_saveSnapshot_4 rfl rfl ?_
    obtain ⟨x6, e7, E⟩ := gb_some E
    refine r_getR X dX8_saveSnapshot_5 f_X8_37 e7 ?_
    refine r_iload_n X 1 dX8_saveSnapshot_8 rfl rfl ?_
    obtain ⟨x8, e9, E⟩ := gb_some E
    refine r_aald X 5 (by decide) rfl dX8_saveSnapshot_9 e9 ?_
    refine r_aload_n X 0 dX8_saveSnapshot_10 rfl rfl ?_
    obtain ⟨x10, e11, E⟩ := gb_some E
    refine r_getR X dX8_saveSnapshot_11 f_X8_10 e11 ?_
    obtain ⟨u15, e16, E⟩ := gb_some E
    obtain ⟨r12, g13, e14, E⟩ := cb_some E
    refine r_callV0 X hl0 (ci := 3) dX8_saveSnapshot_14 y_X3_copyFrom m_X8_109 rfl rfl e16 (t_x3_copyFrom (l := l) (G := G) e14) rfl rfl (Nat.le_of_ble_eq_true rfl) (by decide) ?_
    refine r_aload_n X 0 dX8_saveSnapshot_17 rfl rfl ?_
    obtain ⟨x17, e18, E⟩ := gb_some E
    refine r_getR X dX8_saveSnapshot_18 f_X8_41 e18 ?_
    refine r_iload_n X 1 dX8_saveSnapshot_21 rfl rfl ?_
    refine r_iconst X (v := 1) dX8_saveSnapshot_22 (by decide) ?_
    obtain ⟨g19, e20, E⟩ := gb_some E
    refine r_zast X dX8_saveSnapshot_23 rfl e20 ?_
    cases E
    exact r_ret (r_vret X hr dX8_saveSnapshot_24 (by decide) (by decide))
  · rw [Sum.elim_inr] at E
    cases E
    exact r_thrS X hl0 hnt dX8_saveSnapshot_1 y_X8_demandSnapshotNumber m_X8_383 (t_x8_demandSnapshotNumber (l := l) hst (G := G) e3) rfl rfl (Nat.le_of_ble_eq_true rfl) (by decide) (by decide) (by decide)
theorem t_x8_saveSnapshot {l : Launch} (hst : l.stackTraces = false) {G : GG} {p : Nat} {b0 : Int32} {g : AH} {o : (Unit ⊕ String)} {g1 : AH} (E : x8_saveSnapshot p b0 g = some (o, g1)) : CtX l G yX8_saveSnapshot cX8_saveSnapshot 2 none ⟨8, 1, 6, 220⟩ [.ref p, .int b0] g (ovU o) g1 :=
  ctX_of (L0 := [(0, .ref p), (1, .int b0)]) y_X8_saveSnapshot rfl (Nat.le_of_ble_eq_true rfl) fun M hl0 X hr hnm hnt => t_x8_saveSnapshot_b X hl0 hr hnm hnt hst E
set_option maxHeartbeats 4000000 in
set_option maxRecDepth 100000 in
theorem t_x8_restoreSnapshot_b {l : Launch} {G : GG} {M : MC} (X : CX M G cX8_restoreSnapshot 2 RX8 ⟨8, 2, 12, 220⟩) (hl0 : M.2.1 = l) (hr : (mM M).sig.returnType = none) (hnm : (mM M).name = yX8_restoreSnapshot.name) (hnt : ∀ x ∈ (mC M).exceptionTable.toList, False) (hst : l.stackTraces = false) {p : Nat} {b0 : Int32} {g : AH} {o : (Unit ⊕ String)} {g1 : AH} (E : x8_restoreSnapshot p b0 g = some (o, g1)) : WW M G 2 (RX M G (ovU o) g1 2 12) 0 0 g 0 [(0, .ref p), (1, .int b0)] [] := by
  unfold x8_restoreSnapshot at E
  refine r_iload_n X 1 dX8_restoreSnapshot_0 rfl rfl ?_
  obtain ⟨r1, g2, e3, E⟩ := cb_some E
  rcases r1 with v4 | w5
  · rw [Sum.elim_inl] at E
    refine r_callSX X hl0 dX8_restoreSnapshot_1 y_X8_demandSnapshotNumber m_X8_383 (t_x8_demandSnapshotNumber (l := l) hst (G := G) e3) rfl rfl (Nat.le_of_ble_eq_true rfl) (by decide) ?_
    refine r_aload_n X 0 dX8_restoreSnapshot_4 rfl rfl ?_
    obtain ⟨x6, e7, E⟩ := gb_some E
    refine r_getR X dX8_restoreSnapshot_5 f_X8_41 e7 ?_
    refine r_iload_n X 1 dX8_restoreSnapshot_8 rfl rfl ?_
    obtain ⟨x8, e9, E⟩ := gb_some E
    refine r_zald X dX8_restoreSnapshot_9 e9 ?_
    refine r_if_ne X 24 dX8_restoreSnapshot_10 (by decide) (fun c10 => ?_) (fun c10 => ?_)
    · rw [if_neg c10] at E
      refine r_aload_n X 0 dX8_restoreSnapshot_24 rfl rfl ?_
      obtain ⟨x11, e12, E⟩ := gb_some E
      refine r_getR X dX8_restoreSnapshot_25 f_X8_10 e12 ?_
      refine r_aload_n X 0 dX8_restoreSnapshot_28 rfl rfl ?_
      obtain ⟨x13, e14, E⟩ := gb_some E
      refine r_getR X dX8_restoreSnapshot_29 f_X8_37 e14 ?_
      refine r_iload_n X 1 dX8_restoreSnapshot_32 rfl rfl ?_
      obtain ⟨x15, e16, E⟩ := gb_some E
      refine r_aald X 5 (by decide) rfl dX8_restoreSnapshot_33 e16 ?_
      obtain ⟨u20, e21, E⟩ := gb_some E
      obtain ⟨r17, g18, e19, E⟩ := cb_some E
      refine r_callV0 X hl0 (ci := 3) dX8_restoreSnapshot_34 y_X3_copyFrom m_X8_109 rfl rfl e21 (t_x3_copyFrom (l := l) (G := G) e19) rfl rfl (Nat.le_of_ble_eq_true rfl) (by decide) ?_
      refine r_aload_n X 0 dX8_restoreSnapshot_37 rfl rfl ?_
      obtain ⟨x22, e23, E⟩ := gb_some E
      refine r_getR X dX8_restoreSnapshot_38 f_X8_29 e23 ?_
      obtain ⟨u27, e28, E⟩ := gb_some E
      obtain ⟨r24, g25, e26, E⟩ := cb_some E
      refine r_callV0 X hl0 (ci := 2) dX8_restoreSnapshot_41 y_X2_forget m_X8_113 rfl rfl e28 (t_x2_forget (l := l) (G := G) e26) rfl rfl (Nat.le_of_ble_eq_true rfl) (by decide) ?_
      cases E
      exact r_ret (r_vret X hr dX8_restoreSnapshot_44 (by decide) (by decide))
    · rw [if_pos c10] at E
      cases E
      exact r_throwW X hl0 hst hnt th_X8_94 k_X8_90 (List.mem_of_getElem? (i := 13) rfl) dX8_restoreSnapshot_13 dX8_restoreSnapshot_16 dX8_restoreSnapshot_17 dX8_restoreSnapshot_20 dX8_restoreSnapshot_23 ⟨by decide, Nat.le_of_ble_eq_true rfl⟩ (by decide) (by decide)
  · rw [Sum.elim_inr] at E
    cases E
    exact r_thrS X hl0 hnt dX8_restoreSnapshot_1 y_X8_demandSnapshotNumber m_X8_383 (t_x8_demandSnapshotNumber (l := l) hst (G := G) e3) rfl rfl (Nat.le_of_ble_eq_true rfl) (by decide) (by decide) (by decide)
theorem t_x8_restoreSnapshot {l : Launch} (hst : l.stackTraces = false) {G : GG} {p : Nat} {b0 : Int32} {g : AH} {o : (Unit ⊕ String)} {g1 : AH} (E : x8_restoreSnapshot p b0 g = some (o, g1)) : CtX l G yX8_restoreSnapshot cX8_restoreSnapshot 2 none ⟨8, 2, 12, 220⟩ [.ref p, .int b0] g (ovU o) g1 :=
  ctX_of (L0 := [(0, .ref p), (1, .int b0)]) y_X8_restoreSnapshot rfl (Nat.le_of_ble_eq_true rfl) fun M hl0 X hr hnm hnt => t_x8_restoreSnapshot_b X hl0 hr hnm hnt hst E
