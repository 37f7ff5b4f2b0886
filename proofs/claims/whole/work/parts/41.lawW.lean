/-! the law's callers, by program -/
def l_appendText (b0 : Nat) (b1 : Int32) (b2 : Nat) (g : AH) : Option (Int32 × AH) :=
  gb (isO 8 g b0) fun _ => cb (x8_appendText b0 b1 g) fun r1 g2 => Sum.elim (fun v6 =>
  gb (astL g2 b2 0 (v6.toInt64)) fun g8 => some (0, g8)) (fun w7 => if w7 = "java/lang/IllegalStateException" then some (1, g2) else none) r1
def l_truncateText (b0 : Nat) (b1 : Int32) (b2 : Nat) (g : AH) : Option (Int32 × AH) :=
  gb (isO 8 g b0) fun _ => cb (x8_truncateText b0 b1 g) fun r1 g2 => Sum.elim (fun v6 =>
  gb (astL g2 b2 0 (v6.toInt64)) fun g8 => some (0, g8)) (fun w7 => if w7 = "java/lang/IllegalArgumentException" then some (1, g2) else none) r1
def l_hikerIn (b0 : Nat) (b1 : Int32) (b2 : Nat) (g : AH) : Option (Int32 × AH) :=
  gb (isO 8 g b0) fun _ => cb (x8_hikerIn b0 b1 g) fun r1 g2 => Sum.elim (fun v6 =>
  gb (astL g2 b2 0 (v6.toInt64)) fun g8 => some (0, g8)) (fun w7 => if w7 = "java/lang/IndexOutOfBoundsException" then some (1, g2) else none) r1
def l_noiseIn (b0 : Nat) (b1 : Int32) (b2 : Nat) (g : AH) : Option (Int32 × AH) :=
  gb (isO 8 g b0) fun _ => cb (x8_noiseIn b0 b1 g) fun r1 g2 => Sum.elim (fun v6 =>
  gb (astL g2 b2 0 (v6.toInt64)) fun g8 => some (0, g8)) (fun w7 => if w7 = "java/lang/IndexOutOfBoundsException" then some (1, g2) else none) r1
def l_bestPlaceFor (b0 : Nat) (b1 : Int32) (b2 : Nat) (g : AH) : Option (Int32 × AH) :=
  gb (isO 8 g b0) fun _ => cb (x8_bestPlaceFor b0 b1 g) fun r1 g2 => Sum.elim (fun v6 =>
  gb (astL g2 b2 0 (v6.toInt64)) fun g8 => some (0, g8)) (fun w7 => if w7 = "java/lang/IndexOutOfBoundsException" then some (1, g2) else none) r1
def l_userOf (b0 : Nat) (b1 : Int32) (b2 : Nat) (g : AH) : Option (Int32 × AH) :=
  gb (isO 8 g b0) fun _ => cb (x8_userOf b0 b1 g) fun r1 g2 => Sum.elim (fun v6 =>
  gb (astL g2 b2 0 (v6.toInt64)) fun g8 => some (0, g8)) (fun w7 => if w7 = "java/lang/IndexOutOfBoundsException" then some (1, g2) else none) r1
def l_blanketOnPile (b0 : Nat) (b1 : Int32) (b2 : Nat) (g : AH) : Option (Int32 × AH) :=
  gb (isO 8 g b0) fun _ => cb (x8_blanketOnPile b0 b1 g) fun r1 g2 => Sum.elim (fun v6 =>
  gb (astL g2 b2 0 (v6.toInt64)) fun g8 => some (0, g8)) (fun w7 => if w7 = "java/util/NoSuchElementException" then some (1, g2) else none) r1
def l_fittingBlanket (b0 : Nat) (b1 : Int32) (b2 : Nat) (g : AH) : Option (Int32 × AH) :=
  gb (isO 8 g b0) fun _ => cb (x8_fittingBlanket b0 b1 g) fun r1 g2 => Sum.elim (fun v6 =>
  gb (astL g2 b2 0 (v6.toInt64)) fun g8 => some (0, g8)) (fun w7 => if w7 = "java/lang/IndexOutOfBoundsException" then some (1, g2) else none) r1
def l_bunkOf (b0 : Nat) (b1 : Int32) (b2 : Nat) (g : AH) : Option (Int32 × AH) :=
  gb (isO 8 g b0) fun _ => cb (x8_bunkOf b0 b1 g) fun r1 g2 => Sum.elim (fun v6 =>
  gb (astL g2 b2 0 (v6.toInt64)) fun g8 => some (0, g8)) (fun w7 => if w7 = "java/lang/IndexOutOfBoundsException" then some (1, g2) else none) r1
def l_blanketOf (b0 : Nat) (b1 : Int32) (b2 : Nat) (g : AH) : Option (Int32 × AH) :=
  gb (isO 8 g b0) fun _ => cb (x8_blanketOf b0 b1 g) fun r1 g2 => Sum.elim (fun v6 =>
  gb (astL g2 b2 0 (v6.toInt64)) fun g8 => some (0, g8)) (fun w7 => if w7 = "java/lang/IndexOutOfBoundsException" then some (1, g2) else none) r1
def l_warmth (b0 : Nat) (b1 : Int32) (b2 : Nat) (g : AH) : Option (Int32 × AH) :=
  gb (isO 8 g b0) fun _ => cb (x8_warmth b0 b1 g) fun r1 g2 => Sum.elim (fun v6 =>
  gb (astL g2 b2 0 (v6.toInt64)) fun g8 => some (0, g8)) (fun w7 => if w7 = "java/lang/IndexOutOfBoundsException" then some (1, g2) else none) r1
def l_activity (b0 : Nat) (b1 : Int32) (b2 : Nat) (g : AH) : Option (Int32 × AH) :=
  gb (isO 8 g b0) fun _ => cb (x8_activity b0 b1 g) fun r1 g2 => Sum.elim (fun v6 =>
  gb (astL g2 b2 0 (v6.toInt64)) fun g8 => some (0, g8)) (fun w7 => if w7 = "java/lang/IndexOutOfBoundsException" then some (1, g2) else none) r1
def l_hoursOf (b0 : Nat) (b1 : Int32) (b2 : Int32) (b3 : Nat) (g : AH) : Option (Int32 × AH) :=
  gb (isO 8 g b0) fun _ => cb (x8_hoursOf b0 b1 b2 g) fun r1 g2 => Sum.elim (fun v6 =>
  gb (astL g2 b3 0 (v6.toInt64)) fun g8 => some (0, g8)) (fun w7 => if w7 = "java/lang/IndexOutOfBoundsException" then some (1, g2) else if w7 = "java/lang/IllegalArgumentException" then some (2, g2) else none) r1
def l_coinsOf (b0 : Nat) (b1 : Int32) (b2 : Nat) (g : AH) : Option (Int32 × AH) :=
  gb (isO 8 g b0) fun _ => cb (x8_coinsOf b0 b1 g) fun r1 g2 => Sum.elim (fun v6 =>
  gb (astL g2 b2 0 (v6.toInt64)) fun g8 => some (0, g8)) (fun w7 => if w7 = "java/lang/IndexOutOfBoundsException" then some (1, g2) else none) r1
def l_debtOf (b0 : Nat) (b1 : Int32) (b2 : Nat) (g : AH) : Option (Int32 × AH) :=
  gb (isO 8 g b0) fun _ => cb (x8_debtOf b0 b1 g) fun r1 g2 => Sum.elim (fun v6 =>
  gb (astL g2 b2 0 (v6.toInt64)) fun g8 => some (0, g8)) (fun w7 => if w7 = "java/lang/IndexOutOfBoundsException" then some (1, g2) else none) r1
def l_hikerAtRank (b0 : Nat) (b1 : Int32) (b2 : Nat) (g : AH) : Option (Int32 × AH) :=
  gb (isO 8 g b0) fun _ => cb (x8_hikerAtRank b0 b1 g) fun r1 g2 => Sum.elim (fun v6 =>
  gb (astL g2 b2 0 (v6.toInt64)) fun g8 => some (0, g8)) (fun w7 => if w7 = "java/util/NoSuchElementException" then some (1, g2) else none) r1
def l_warmestBunk (b0 : Nat) (b1 : Int32) (b2 : Nat) (g : AH) : Option (Int32 × AH) :=
  gb (isO 8 g b0) fun _ => cb (x8_warmestBunk b0 b1 g) fun r1 g2 => Sum.elim (fun v6 =>
  gb (astL g2 b2 0 (v6.toInt64)) fun g8 => some (0, g8)) (fun w7 => if w7 = "java/lang/IndexOutOfBoundsException" then some (1, g2) else none) r1
def l_temperatureAfter (b0 : Nat) (b1 : Int32) (b2 : Nat) (g : AH) : Option (Int32 × AH) :=
  gb (isO 8 g b0) fun _ => cb (x8_temperatureAfter b0 b1 g) fun r1 g2 => Sum.elim (fun v6 =>
  gb (astL g2 b2 0 (v6.toInt64)) fun g8 => some (0, g8)) (fun w7 => if w7 = "java/lang/IllegalArgumentException" then some (1, g2) else none) r1
def l_shiversUntilDawn (b0 : Nat) (b1 : Int32) (b2 : Nat) (g : AH) : Option (Int32 × AH) :=
  gb (isO 8 g b0) fun _ => cb (x8_shiversUntilDawn b0 b1 g) fun r1 g2 => Sum.elim (fun v6 =>
  gb (astL g2 b2 0 (v6.toInt64)) fun g8 => some (0, g8)) (fun w7 => if w7 = "java/lang/IndexOutOfBoundsException" then some (1, g2) else none) r1
def l_paymentAtDawn (b0 : Nat) (b1 : Int32) (b2 : Nat) (g : AH) : Option (Int32 × AH) :=
  gb (isO 8 g b0) fun _ => cb (x8_paymentAtDawn b0 b1 g) fun r1 g2 => Sum.elim (fun v6 =>
  gb (astL g2 b2 0 (v6.toInt64)) fun g8 => some (0, g8)) (fun w7 => if w7 = "java/lang/IndexOutOfBoundsException" then some (1, g2) else none) r1
def l_debtAfter (b0 : Nat) (b1 : Int32) (b2 : Int32) (b3 : Nat) (g : AH) : Option (Int32 × AH) :=
  gb (isO 8 g b0) fun _ => cb (x8_debtAfter b0 b1 b2 g) fun r1 g2 => Sum.elim (fun v6 =>
  gb (astL g2 b3 0 (v6.toInt64)) fun g8 => some (0, g8)) (fun w7 => if w7 = "java/lang/IndexOutOfBoundsException" then some (1, g2) else if w7 = "java/lang/IllegalArgumentException" then some (2, g2) else none) r1
def l_dawnsUntilDebt (b0 : Nat) (b1 : Int32) (b2 : Nat) (g : AH) : Option (Int32 × AH) :=
  gb (isO 8 g b0) fun _ => cb (x8_dawnsUntilDebt b0 b1 g) fun r1 g2 => Sum.elim (fun v6 =>
  gb (astL g2 b2 0 (v6.toInt64)) fun g8 => some (0, g8)) (fun w7 => if w7 = "java/lang/IndexOutOfBoundsException" then some (1, g2) else none) r1
def l_takeBlanket (b0 : Nat) (b1 : Int32) (b2 : Int32) (b3 : Nat) (g : AH) : Option (Int32 × AH) :=
  gb (isO 8 g b0) fun _ => cb (x8_takeBlanket b0 b1 b2 g) fun r1 g2 => Sum.elim (fun v6 =>
  gb (astL g2 b3 0 (v6.toInt64)) fun g8 => some (0, g8)) (fun w7 => if w7 = "java/lang/IndexOutOfBoundsException" then some (1, g2) else if w7 = "java/lang/IllegalStateException" then some (2, g2) else none) r1
def l_returnBlanket (b0 : Nat) (b1 : Int32) (b2 : Nat) (g : AH) : Option (Int32 × AH) :=
  gb (isO 8 g b0) fun _ => cb (x8_returnBlanket b0 b1 g) fun r1 g2 => Sum.elim (fun v6 =>
  gb (astL g2 b2 0 (v6.toInt64)) fun g8 => some (0, g8)) (fun w7 => if w7 = "java/lang/IndexOutOfBoundsException" then some (1, g2) else if w7 = "java/lang/IllegalStateException" then some (2, g2) else none) r1
def l_swapBlankets (b0 : Nat) (b1 : Int32) (b2 : Int32) (b3 : Nat) (g : AH) : Option (Int32 × AH) :=
  gb (isO 8 g b0) fun _ => cb (x8_swapBlankets b0 b1 b2 g) fun r1 g2 => Sum.elim (fun v6 =>
  gb (astL g2 b3 0 (v6.toInt64)) fun g8 => some (0, g8)) (fun w7 => if w7 = "java/lang/IndexOutOfBoundsException" then some (1, g2) else if w7 = "java/lang/IllegalStateException" then some (2, g2) else none) r1
def l_lieDown (b0 : Nat) (b1 : Int32) (b2 : Int32) (b3 : Nat) (g : AH) : Option (Int32 × AH) :=
  gb (isO 8 g b0) fun _ => cb (x8_lieDown b0 b1 b2 g) fun r1 g2 => Sum.elim (fun v6 =>
  gb (astL g2 b3 0 (v6.toInt64)) fun g8 => some (0, g8)) (fun w7 => if w7 = "java/lang/IndexOutOfBoundsException" then some (1, g2) else if w7 = "java/lang/IllegalStateException" then some (2, g2) else none) r1
def l_getUp (b0 : Nat) (b1 : Int32) (b2 : Nat) (g : AH) : Option (Int32 × AH) :=
  gb (isO 8 g b0) fun _ => cb (x8_getUp b0 b1 g) fun r1 g2 => Sum.elim (fun v6 =>
  gb (astL g2 b2 0 (v6.toInt64)) fun g8 => some (0, g8)) (fun w7 => if w7 = "java/lang/IndexOutOfBoundsException" then some (1, g2) else if w7 = "java/lang/IllegalStateException" then some (2, g2) else none) r1
def l_setRate (b0 : Nat) (b1 : Int32) (b2 : Nat) (g : AH) : Option (Int32 × AH) :=
  gb (isO 8 g b0) fun _ => cb (x8_setRate b0 b1 g) fun r1 g2 => Sum.elim (fun v6 =>
  gb (astL g2 b2 0 (v6.toInt64)) fun g8 => some (0, g8)) (fun w7 => if w7 = "java/lang/IllegalArgumentException" then some (1, g2) else none) r1
def l_fetchLogs (b0 : Nat) (b1 : Int32) (b2 : Nat) (g : AH) : Option (Int32 × AH) :=
  gb (isO 8 g b0) fun _ => cb (x8_fetchLogs b0 b1 g) fun r1 g2 => Sum.elim (fun v6 =>
  gb (astL g2 b2 0 (v6.toInt64)) fun g8 => some (0, g8)) (fun w7 => if w7 = "java/lang/IllegalArgumentException" then some (1, g2) else if w7 = "java/lang/IllegalStateException" then some (2, g2) else none) r1
def l_payDebt (b0 : Nat) (b1 : Int32) (b2 : Int32) (b3 : Nat) (g : AH) : Option (Int32 × AH) :=
  gb (isO 8 g b0) fun _ => cb (x8_payDebt b0 b1 b2 g) fun r1 g2 => Sum.elim (fun v6 =>
  gb (astL g2 b3 0 (v6.toInt64)) fun g8 => some (0, g8)) (fun w7 => if w7 = "java/lang/IndexOutOfBoundsException" then some (1, g2) else if w7 = "java/lang/IllegalArgumentException" then some (2, g2) else if w7 = "java/lang/IllegalStateException" then some (3, g2) else none) r1
def l_passHours (b0 : Nat) (b1 : Int32) (b2 : Nat) (g : AH) : Option (Int32 × AH) :=
  gb (isO 8 g b0) fun _ => cb (x8_passHours b0 b1 g) fun r1 g2 => Sum.elim (fun v6 =>
  gb (astL g2 b2 0 (v6.toInt64)) fun g8 => some (0, g8)) (fun w7 => if w7 = "java/lang/IllegalArgumentException" then some (1, g2) else if w7 = "java/lang/IllegalStateException" then some (2, g2) else none) r1
def l_undo (b0 : Nat) (b1 : Nat) (g : AH) : Option (Int32 × AH) :=
  gb (isO 8 g b0) fun _ => cb (x8_undo b0  g) fun r1 g2 => Sum.elim (fun v6 =>
  gb (astL g2 b1 0 (v6.toInt64)) fun g8 => some (0, g8)) (fun w7 => if w7 = "java/lang/IllegalStateException" then some (1, g2) else none) r1
def l_saveSnapshot (b0 : Nat) (b1 : Int32) (g : AH) : Option (Int32 × AH) :=
  gb (isO 8 g b0) fun _ => cb (x8_saveSnapshot b0 b1 g) fun r1 g2 => Sum.elim (fun v6 =>
  some (0, g2)) (fun w7 => if w7 = "java/lang/IllegalArgumentException" then some (1, g2) else none) r1
def l_restoreSnapshot (b0 : Nat) (b1 : Int32) (g : AH) : Option (Int32 × AH) :=
  gb (isO 8 g b0) fun _ => cb (x8_restoreSnapshot b0 b1 g) fun r1 g2 => Sum.elim (fun v6 =>
  some (0, g2)) (fun w7 => if w7 = "java/lang/IllegalArgumentException" then some (1, g2) else if w7 = "java/lang/IllegalStateException" then some (2, g2) else none) r1
set_option maxHeartbeats 4000000 in
theorem t_l_appendText_b {l : Launch} (hst : l.stackTraces = false) {G : GG} {M : MC} (X : CX M G cL_appendText 4 RL ⟨8, 1, 6, 221⟩) (hl0 : M.2.1 = l) (hr : (mM M).sig.returnType = (some .int)) (ht : (mC M).exceptionTable.toList = tableOf hh_L_appendText) {b0 : Nat} {b1 : Int32} {b2 : Nat} {g : AH} {r : Int32} {g1 : AH} (E : l_appendText b0 b1 b2 g = some (r, g1)) : WW M G 4 (RX M G (.inl (some (.int r))) g1 1 6) 0 0 g 0 [(0, .ref b0), (1, .int b1), (2, .ref b2)] [] := by
  unfold l_appendText at E
  refine r_aload_n X 2 dL_appendText_0 rfl rfl ?_
  refine r_iconst X (v := 0) dL_appendText_1 (by decide) ?_
  refine r_aload_n X 0 dL_appendText_2 rfl rfl ?_
  refine r_iload_n X 1 dL_appendText_3 rfl rfl ?_
  obtain ⟨u4, e5, E⟩ := gb_some E
  obtain ⟨r1, g2, e3, E⟩ := cb_some E
  rcases r1 with v6 | w7
  · rw [Sum.elim_inl] at E
    refine r_callVX X hl0 (ci := 8) dL_appendText_4 y_X8_appendText m_L_7 rfl rfl e5 (t_x8_appendText (l := l) hst (G := G) e3) rfl rfl (Nat.le_of_ble_eq_true rfl) (by decide) ?_
    refine r_i2l X dL_appendText_7 ?_
    obtain ⟨g8, e9, E⟩ := gb_some E
    refine r_last X dL_appendText_8 e9 ?_
    refine r_goto X 15 dL_appendText_9 (by decide) ?_
    refine r_iconst X (v := 0) dL_appendText_15 (by decide) ?_
    cases E
    exact r_ret (r_iret X hr dL_appendText_16 (by decide) (by decide))
  · rw [Sum.elim_inr] at E
    by_cases c10 : w7 = "java/lang/IllegalStateException"
    · rw [if_pos c10] at E
      subst c10
      refine r_catch X hl0 ht (ci := 8) dL_appendText_4 y_X8_appendText m_L_7 rfl rfl e5 (t_x8_appendText (l := l) hst (G := G) e3) rfl rfl (Nat.le_of_ble_eq_true rfl) (by decide) [] (0, 9, 12, 13) [] rfl (by decide) (by intro z hz; cases hz) (by decide) (by decide) k_L_13 (by decide) (fun q11 => ?_)
      refine r_astore_n X 3 (L1 := [(3, .ref q11), (0, .ref b0), (1, .int b1), (2, .ref b2)]) dL_appendText_12 rfl (by decide) rfl ?_
      refine r_iconst X (v := 1) dL_appendText_13 (by decide) ?_
      cases E
      exact r_ret (r_iret X hr dL_appendText_14 (by decide) (by decide))
    rw [if_neg c10] at E
    cases E
theorem t_l_appendText {l : Launch} (hst : l.stackTraces = false) {G : GG} {b0 : Nat} {b1 : Int32} {b2 : Nat} {g : AH} {r : Int32} {g1 : AH} (E : l_appendText b0 b1 b2 g = some (r, g1)) : CtW l G yL_appendText cL_appendText 4 (some .int) hh_L_appendText ⟨8, 1, 6, 221⟩ [.ref b0, .int b1, .ref b2] g (some (.int r)) g1 :=
  ctW_of (L0 := [(0, .ref b0), (1, .int b1), (2, .ref b2)]) y_L_appendText rfl (Nat.le_of_ble_eq_true rfl) fun M hl0 X hr ht => t_l_appendText_b hst X hl0 hr ht E
set_option maxHeartbeats 4000000 in
theorem t_l_truncateText_b {l : Launch} (hst : l.stackTraces = false) {G : GG} {M : MC} (X : CX M G cL_truncateText 4 RL ⟨8, 1, 6, 221⟩) (hl0 : M.2.1 = l) (hr : (mM M).sig.returnType = (some .int)) (ht : (mC M).exceptionTable.toList = tableOf hh_L_truncateText) {b0 : Nat} {b1 : Int32} {b2 : Nat} {g : AH} {r : Int32} {g1 : AH} (E : l_truncateText b0 b1 b2 g = some (r, g1)) : WW M G 4 (RX M G (.inl (some (.int r))) g1 1 6) 0 0 g 0 [(0, .ref b0), (1, .int b1), (2, .ref b2)] [] := by
  unfold l_truncateText at E
  refine r_aload_n X 2 dL_truncateText_0 rfl rfl ?_
  refine r_iconst X (v := 0) dL_truncateText_1 (by decide) ?_
  refine r_aload_n X 0 dL_truncateText_2 rfl rfl ?_
  refine r_iload_n X 1 dL_truncateText_3 rfl rfl ?_
  obtain ⟨u4, e5, E⟩ := gb_some E
  obtain ⟨r1, g2, e3, E⟩ := cb_some E
  rcases r1 with v6 | w7
  · rw [Sum.elim_inl] at E
    refine r_callVX X hl0 (ci := 8) dL_truncateText_4 y_X8_truncateText m_L_15 rfl rfl e5 (t_x8_truncateText (l := l) hst (G := G) e3) rfl rfl (Nat.le_of_ble_eq_true rfl) (by decide) ?_
    refine r_i2l X dL_truncateText_7 ?_
    obtain ⟨g8, e9, E⟩ := gb_some E
    refine r_last X dL_truncateText_8 e9 ?_
    refine r_goto X 15 dL_truncateText_9 (by decide) ?_
    refine r_iconst X (v := 0) dL_truncateText_15 (by decide) ?_
    cases E
    exact r_ret (r_iret X hr dL_truncateText_16 (by decide) (by decide))
  · rw [Sum.elim_inr] at E
    by_cases c10 : w7 = "java/lang/IllegalArgumentException"
    · rw [if_pos c10] at E
      subst c10
      refine r_catch X hl0 ht (ci := 8) dL_truncateText_4 y_X8_truncateText m_L_15 rfl rfl e5 (t_x8_truncateText (l := l) hst (G := G) e3) rfl rfl (Nat.le_of_ble_eq_true rfl) (by decide) [] (0, 9, 12, 18) [] rfl (by decide) (by intro z hz; cases hz) (by decide) (by decide) k_L_18 (by decide) (fun q11 => ?_)
      refine r_astore_n X 3 (L1 := [(3, .ref q11), (0, .ref b0), (1, .int b1), (2, .ref b2)]) dL_truncateText_12 rfl (by decide) rfl ?_
      refine r_iconst X (v := 1) dL_truncateText_13 (by decide) ?_
      cases E
      exact r_ret (r_iret X hr dL_truncateText_14 (by decide) (by decide))
    rw [if_neg c10] at E
    cases E
theorem t_l_truncateText {l : Launch} (hst : l.stackTraces = false) {G : GG} {b0 : Nat} {b1 : Int32} {b2 : Nat} {g : AH} {r : Int32} {g1 : AH} (E : l_truncateText b0 b1 b2 g = some (r, g1)) : CtW l G yL_truncateText cL_truncateText 4 (some .int) hh_L_truncateText ⟨8, 1, 6, 221⟩ [.ref b0, .int b1, .ref b2] g (some (.int r)) g1 :=
  ctW_of (L0 := [(0, .ref b0), (1, .int b1), (2, .ref b2)]) y_L_truncateText rfl (Nat.le_of_ble_eq_true rfl) fun M hl0 X hr ht => t_l_truncateText_b hst X hl0 hr ht E
set_option maxHeartbeats 4000000 in
theorem t_l_hikerIn_b {l : Launch} (hst : l.stackTraces = false) {G : GG} {M : MC} (X : CX M G cL_hikerIn 4 RL ⟨9, 1, 6, 242⟩) (hl0 : M.2.1 = l) (hr : (mM M).sig.returnType = (some .int)) (ht : (mC M).exceptionTable.toList = tableOf hh_L_hikerIn) {b0 : Nat} {b1 : Int32} {b2 : Nat} {g : AH} {r : Int32} {g1 : AH} (E : l_hikerIn b0 b1 b2 g = some (r, g1)) : WW M G 4 (RX M G (.inl (some (.int r))) g1 1 6) 0 0 g 0 [(0, .ref b0), (1, .int b1), (2, .ref b2)] [] := by
  unfold l_hikerIn at E
  refine r_aload_n X 2 dL_hikerIn_0 rfl rfl ?_
  refine r_iconst X (v := 0) dL_hikerIn_1 (by decide) ?_
  refine r_aload_n X 0 dL_hikerIn_2 rfl rfl ?_
  refine r_iload_n X 1 dL_hikerIn_3 rfl rfl ?_
  obtain ⟨u4, e5, E⟩ := gb_some E
  obtain ⟨r1, g2, e3, E⟩ := cb_some E
  rcases r1 with v6 | w7
  · rw [Sum.elim_inl] at E
    refine r_callVX X hl0 (ci := 8) dL_hikerIn_4 y_X8_hikerIn m_L_20 rfl rfl e5 (t_x8_hikerIn (l := l) hst (G := G) e3) rfl rfl (Nat.le_of_ble_eq_true rfl) (by decide) ?_
    refine r_i2l X dL_hikerIn_7 ?_
    obtain ⟨g8, e9, E⟩ := gb_some E
    refine r_last X dL_hikerIn_8 e9 ?_
    refine r_goto X 15 dL_hikerIn_9 (by decide) ?_
    refine r_iconst X (v := 0) dL_hikerIn_15 (by decide) ?_
    cases E
    exact r_ret (r_iret X hr dL_hikerIn_16 (by decide) (by decide))
  · rw [Sum.elim_inr] at E
    by_cases c10 : w7 = "java/lang/IndexOutOfBoundsException"
    · rw [if_pos c10] at E
      subst c10
      refine r_catch X hl0 ht (ci := 8) dL_hikerIn_4 y_X8_hikerIn m_L_20 rfl rfl e5 (t_x8_hikerIn (l := l) hst (G := G) e3) rfl rfl (Nat.le_of_ble_eq_true rfl) (by decide) [] (0, 9, 12, 23) [] rfl (by decide) (by intro z hz; cases hz) (by decide) (by decide) k_L_23 (by decide) (fun q11 => ?_)
      refine r_astore_n X 3 (L1 := [(3, .ref q11), (0, .ref b0), (1, .int b1), (2, .ref b2)]) dL_hikerIn_12 rfl (by decide) rfl ?_
      refine r_iconst X (v := 1) dL_hikerIn_13 (by decide) ?_
      cases E
      exact r_ret (r_iret X hr dL_hikerIn_14 (by decide) (by decide))
    rw [if_neg c10] at E
    cases E
theorem t_l_hikerIn {l : Launch} (hst : l.stackTraces = false) {G : GG} {b0 : Nat} {b1 : Int32} {b2 : Nat} {g : AH} {r : Int32} {g1 : AH} (E : l_hikerIn b0 b1 b2 g = some (r, g1)) : CtW l G yL_hikerIn cL_hikerIn 4 (some .int) hh_L_hikerIn ⟨9, 1, 6, 242⟩ [.ref b0, .int b1, .ref b2] g (some (.int r)) g1 :=
  ctW_of (L0 := [(0, .ref b0), (1, .int b1), (2, .ref b2)]) y_L_hikerIn rfl (Nat.le_of_ble_eq_true rfl) fun M hl0 X hr ht => t_l_hikerIn_b hst X hl0 hr ht E
set_option maxHeartbeats 4000000 in
theorem t_l_noiseIn_b {l : Launch} (hst : l.stackTraces = false) {G : GG} {M : MC} (X : CX M G cL_noiseIn 4 RL ⟨9, 1, 6, 242⟩) (hl0 : M.2.1 = l) (hr : (mM M).sig.returnType = (some .int)) (ht : (mC M).exceptionTable.toList = tableOf hh_L_noiseIn) {b0 : Nat} {b1 : Int32} {b2 : Nat} {g : AH} {r : Int32} {g1 : AH} (E : l_noiseIn b0 b1 b2 g = some (r, g1)) : WW M G 4 (RX M G (.inl (some (.int r))) g1 1 6) 0 0 g 0 [(0, .ref b0), (1, .int b1), (2, .ref b2)] [] := by
  unfold l_noiseIn at E
  refine r_aload_n X 2 dL_noiseIn_0 rfl rfl ?_
  refine r_iconst X (v := 0) dL_noiseIn_1 (by decide) ?_
  refine r_aload_n X 0 dL_noiseIn_2 rfl rfl ?_
  refine r_iload_n X 1 dL_noiseIn_3 rfl rfl ?_
  obtain ⟨u4, e5, E⟩ := gb_some E
  obtain ⟨r1, g2, e3, E⟩ := cb_some E
  rcases r1 with v6 | w7
  · rw [Sum.elim_inl] at E
    refine r_callVX X hl0 (ci := 8) dL_noiseIn_4 y_X8_noiseIn m_L_25 rfl rfl e5 (t_x8_noiseIn (l := l) hst (G := G) e3) rfl rfl (Nat.le_of_ble_eq_true rfl) (by decide) ?_
    refine r_i2l X dL_noiseIn_7 ?_
    obtain ⟨g8, e9, E⟩ := gb_some E
    refine r_last X dL_noiseIn_8 e9 ?_
    refine r_goto X 15 dL_noiseIn_9 (by decide) ?_
    refine r_iconst X (v := 0) dL_noiseIn_15 (by decide) ?_
    cases E
    exact r_ret (r_iret X hr dL_noiseIn_16 (by decide) (by decide))
  · rw [Sum.elim_inr] at E
    by_cases c10 : w7 = "java/lang/IndexOutOfBoundsException"
    · rw [if_pos c10] at E
      subst c10
      refine r_catch X hl0 ht (ci := 8) dL_noiseIn_4 y_X8_noiseIn m_L_25 rfl rfl e5 (t_x8_noiseIn (l := l) hst (G := G) e3) rfl rfl (Nat.le_of_ble_eq_true rfl) (by decide) [] (0, 9, 12, 23) [] rfl (by decide) (by intro z hz; cases hz) (by decide) (by decide) k_L_23 (by decide) (fun q11 => ?_)
      refine r_astore_n X 3 (L1 := [(3, .ref q11), (0, .ref b0), (1, .int b1), (2, .ref b2)]) dL_noiseIn_12 rfl (by decide) rfl ?_
      refine r_iconst X (v := 1) dL_noiseIn_13 (by decide) ?_
      cases E
      exact r_ret (r_iret X hr dL_noiseIn_14 (by decide) (by decide))
    rw [if_neg c10] at E
    cases E
theorem t_l_noiseIn {l : Launch} (hst : l.stackTraces = false) {G : GG} {b0 : Nat} {b1 : Int32} {b2 : Nat} {g : AH} {r : Int32} {g1 : AH} (E : l_noiseIn b0 b1 b2 g = some (r, g1)) : CtW l G yL_noiseIn cL_noiseIn 4 (some .int) hh_L_noiseIn ⟨9, 1, 6, 242⟩ [.ref b0, .int b1, .ref b2] g (some (.int r)) g1 :=
  ctW_of (L0 := [(0, .ref b0), (1, .int b1), (2, .ref b2)]) y_L_noiseIn rfl (Nat.le_of_ble_eq_true rfl) fun M hl0 X hr ht => t_l_noiseIn_b hst X hl0 hr ht E
set_option maxHeartbeats 4000000 in
theorem t_l_bestPlaceFor_b {l : Launch} (hst : l.stackTraces = false) {G : GG} {M : MC} (X : CX M G cL_bestPlaceFor 4 RL ⟨9, 1, 6, 242⟩) (hl0 : M.2.1 = l) (hr : (mM M).sig.returnType = (some .int)) (ht : (mC M).exceptionTable.toList = tableOf hh_L_bestPlaceFor) {b0 : Nat} {b1 : Int32} {b2 : Nat} {g : AH} {r : Int32} {g1 : AH} (E : l_bestPlaceFor b0 b1 b2 g = some (r, g1)) : WW M G 4 (RX M G (.inl (some (.int r))) g1 1 6) 0 0 g 0 [(0, .ref b0), (1, .int b1), (2, .ref b2)] [] := by
  unfold l_bestPlaceFor at E
  refine r_aload_n X 2 dL_bestPlaceFor_0 rfl rfl ?_
  refine r_iconst X (v := 0) dL_bestPlaceFor_1 (by decide) ?_
  refine r_aload_n X 0 dL_bestPlaceFor_2 rfl rfl ?_
  refine r_iload_n X 1 dL_bestPlaceFor_3 rfl rfl ?_
  obtain ⟨u4, e5, E⟩ := gb_some E
  obtain ⟨r1, g2, e3, E⟩ := cb_some E
  rcases r1 with v6 | w7
  · rw [Sum.elim_inl] at E
    refine r_callVX X hl0 (ci := 8) dL_bestPlaceFor_4 y_X8_bestPlaceFor m_L_28 rfl rfl e5 (t_x8_bestPlaceFor (l := l) hst (G := G) e3) rfl rfl (Nat.le_of_ble_eq_true rfl) (by decide) ?_
    refine r_i2l X dL_bestPlaceFor_7 ?_
    obtain ⟨g8, e9, E⟩ := gb_some E
    refine r_last X dL_bestPlaceFor_8 e9 ?_
    refine r_goto X 15 dL_bestPlaceFor_9 (by decide) ?_
    refine r_iconst X (v := 0) dL_bestPlaceFor_15 (by decide) ?_
    cases E
    exact r_ret (r_iret X hr dL_bestPlaceFor_16 (by decide) (by decide))
  · rw [Sum.elim_inr] at E
    by_cases c10 : w7 = "java/lang/IndexOutOfBoundsException"
    · rw [if_pos c10] at E
      subst c10
      refine r_catch X hl0 ht (ci := 8) dL_bestPlaceFor_4 y_X8_bestPlaceFor m_L_28 rfl rfl e5 (t_x8_bestPlaceFor (l := l) hst (G := G) e3) rfl rfl (Nat.le_of_ble_eq_true rfl) (by decide) [] (0, 9, 12, 23) [] rfl (by decide) (by intro z hz; cases hz) (by decide) (by decide) k_L_23 (by decide) (fun q11 => ?_)
      refine r_astore_n X 3 (L1 := [(3, .ref q11), (0, .ref b0), (1, .int b1), (2, .ref b2)]) dL_bestPlaceFor_12 rfl (by decide) rfl ?_
      refine r_iconst X (v := 1) dL_bestPlaceFor_13 (by decide) ?_
      cases E
      exact r_ret (r_iret X hr dL_bestPlaceFor_14 (by decide) (by decide))
    rw [if_neg c10] at E
    cases E
theorem t_l_bestPlaceFor {l : Launch} (hst : l.stackTraces = false) {G : GG} {b0 : Nat} {b1 : Int32} {b2 : Nat} {g : AH} {r : Int32} {g1 : AH} (E : l_bestPlaceFor b0 b1 b2 g = some (r, g1)) : CtW l G yL_bestPlaceFor cL_bestPlaceFor 4 (some .int) hh_L_bestPlaceFor ⟨9, 1, 6, 242⟩ [.ref b0, .int b1, .ref b2] g (some (.int r)) g1 :=
  ctW_of (L0 := [(0, .ref b0), (1, .int b1), (2, .ref b2)]) y_L_bestPlaceFor rfl (Nat.le_of_ble_eq_true rfl) fun M hl0 X hr ht => t_l_bestPlaceFor_b hst X hl0 hr ht E
set_option maxHeartbeats 4000000 in
theorem t_l_userOf_b {l : Launch} (hst : l.stackTraces = false) {G : GG} {M : MC} (X : CX M G cL_userOf 4 RL ⟨8, 1, 6, 221⟩) (hl0 : M.2.1 = l) (hr : (mM M).sig.returnType = (some .int)) (ht : (mC M).exceptionTable.toList = tableOf hh_L_userOf) {b0 : Nat} {b1 : Int32} {b2 : Nat} {g : AH} {r : Int32} {g1 : AH} (E : l_userOf b0 b1 b2 g = some (r, g1)) : WW M G 4 (RX M G (.inl (some (.int r))) g1 1 6) 0 0 g 0 [(0, .ref b0), (1, .int b1), (2, .ref b2)] [] := by
  unfold l_userOf at E
  refine r_aload_n X 2 dL_userOf_0 rfl rfl ?_
  refine r_iconst X (v := 0) dL_userOf_1 (by decide) ?_
  refine r_aload_n X 0 dL_userOf_2 rfl rfl ?_
  refine r_iload_n X 1 dL_userOf_3 rfl rfl ?_
  obtain ⟨u4, e5, E⟩ := gb_some E
  obtain ⟨r1, g2, e3, E⟩ := cb_some E
  rcases r1 with v6 | w7
  · rw [Sum.elim_inl] at E
    refine r_callVX X hl0 (ci := 8) dL_userOf_4 y_X8_userOf m_L_31 rfl rfl e5 (t_x8_userOf (l := l) hst (G := G) e3) rfl rfl (Nat.le_of_ble_eq_true rfl) (by decide) ?_
    refine r_i2l X dL_userOf_7 ?_
    obtain ⟨g8, e9, E⟩ := gb_some E
    refine r_last X dL_userOf_8 e9 ?_
    refine r_goto X 15 dL_userOf_9 (by decide) ?_
    refine r_iconst X (v := 0) dL_userOf_15 (by decide) ?_
    cases E
    exact r_ret (r_iret X hr dL_userOf_16 (by decide) (by decide))
  · rw [Sum.elim_inr] at E
    by_cases c10 : w7 = "java/lang/IndexOutOfBoundsException"
    · rw [if_pos c10] at E
      subst c10
      refine r_catch X hl0 ht (ci := 8) dL_userOf_4 y_X8_userOf m_L_31 rfl rfl e5 (t_x8_userOf (l := l) hst (G := G) e3) rfl rfl (Nat.le_of_ble_eq_true rfl) (by decide) [] (0, 9, 12, 23) [] rfl (by decide) (by intro z hz; cases hz) (by decide) (by decide) k_L_23 (by decide) (fun q11 => ?_)
      refine r_astore_n X 3 (L1 := [(3, .ref q11), (0, .ref b0), (1, .int b1), (2, .ref b2)]) dL_userOf_12 rfl (by decide) rfl ?_
      refine r_iconst X (v := 1) dL_userOf_13 (by decide) ?_
      cases E
      exact r_ret (r_iret X hr dL_userOf_14 (by decide) (by decide))
    rw [if_neg c10] at E
    cases E
theorem t_l_userOf {l : Launch} (hst : l.stackTraces = false) {G : GG} {b0 : Nat} {b1 : Int32} {b2 : Nat} {g : AH} {r : Int32} {g1 : AH} (E : l_userOf b0 b1 b2 g = some (r, g1)) : CtW l G yL_userOf cL_userOf 4 (some .int) hh_L_userOf ⟨8, 1, 6, 221⟩ [.ref b0, .int b1, .ref b2] g (some (.int r)) g1 :=
  ctW_of (L0 := [(0, .ref b0), (1, .int b1), (2, .ref b2)]) y_L_userOf rfl (Nat.le_of_ble_eq_true rfl) fun M hl0 X hr ht => t_l_userOf_b hst X hl0 hr ht E
set_option maxHeartbeats 4000000 in
theorem t_l_blanketOnPile_b {l : Launch} (hst : l.stackTraces = false) {G : GG} {M : MC} (X : CX M G cL_blanketOnPile 4 RL ⟨8, 1, 6, 222⟩) (hl0 : M.2.1 = l) (hr : (mM M).sig.returnType = (some .int)) (ht : (mC M).exceptionTable.toList = tableOf hh_L_blanketOnPile) {b0 : Nat} {b1 : Int32} {b2 : Nat} {g : AH} {r : Int32} {g1 : AH} (E : l_blanketOnPile b0 b1 b2 g = some (r, g1)) : WW M G 4 (RX M G (.inl (some (.int r))) g1 1 6) 0 0 g 0 [(0, .ref b0), (1, .int b1), (2, .ref b2)] [] := by
  unfold l_blanketOnPile at E
  refine r_aload_n X 2 dL_blanketOnPile_0 rfl rfl ?_
  refine r_iconst X (v := 0) dL_blanketOnPile_1 (by decide) ?_
  refine r_aload_n X 0 dL_blanketOnPile_2 rfl rfl ?_
  refine r_iload_n X 1 dL_blanketOnPile_3 rfl rfl ?_
  obtain ⟨u4, e5, E⟩ := gb_some E
  obtain ⟨r1, g2, e3, E⟩ := cb_some E
  rcases r1 with v6 | w7
  · rw [Sum.elim_inl] at E
    refine r_callVX X hl0 (ci := 8) dL_blanketOnPile_4 y_X8_blanketOnPile m_L_34 rfl rfl e5 (t_x8_blanketOnPile (l := l) hst (G := G) e3) rfl rfl (Nat.le_of_ble_eq_true rfl) (by decide) ?_
    refine r_i2l X dL_blanketOnPile_7 ?_
    obtain ⟨g8, e9, E⟩ := gb_some E
    refine r_last X dL_blanketOnPile_8 e9 ?_
    refine r_goto X 15 dL_blanketOnPile_9 (by decide) ?_
    refine r_iconst X (v := 0) dL_blanketOnPile_15 (by decide) ?_
    cases E
    exact r_ret (r_iret X hr dL_blanketOnPile_16 (by decide) (by decide))
  · rw [Sum.elim_inr] at E
    by_cases c10 : w7 = "java/util/NoSuchElementException"
    · rw [if_pos c10] at E
      subst c10
      refine r_catch X hl0 ht (ci := 8) dL_blanketOnPile_4 y_X8_blanketOnPile m_L_34 rfl rfl e5 (t_x8_blanketOnPile (l := l) hst (G := G) e3) rfl rfl (Nat.le_of_ble_eq_true rfl) (by decide) [] (0, 9, 12, 37) [] rfl (by decide) (by intro z hz; cases hz) (by decide) (by decide) k_L_37 (by decide) (fun q11 => ?_)
      refine r_astore_n X 3 (L1 := [(3, .ref q11), (0, .ref b0), (1, .int b1), (2, .ref b2)]) dL_blanketOnPile_12 rfl (by decide) rfl ?_
      refine r_iconst X (v := 1) dL_blanketOnPile_13 (by decide) ?_
      cases E
      exact r_ret (r_iret X hr dL_blanketOnPile_14 (by decide) (by decide))
    rw [if_neg c10] at E
    cases E
theorem t_l_blanketOnPile {l : Launch} (hst : l.stackTraces = false) {G : GG} {b0 : Nat} {b1 : Int32} {b2 : Nat} {g : AH} {r : Int32} {g1 : AH} (E : l_blanketOnPile b0 b1 b2 g = some (r, g1)) : CtW l G yL_blanketOnPile cL_blanketOnPile 4 (some .int) hh_L_blanketOnPile ⟨8, 1, 6, 222⟩ [.ref b0, .int b1, .ref b2] g (some (.int r)) g1 :=
  ctW_of (L0 := [(0, .ref b0), (1, .int b1), (2, .ref b2)]) y_L_blanketOnPile rfl (Nat.le_of_ble_eq_true rfl) fun M hl0 X hr ht => t_l_blanketOnPile_b hst X hl0 hr ht E
set_option maxHeartbeats 4000000 in
theorem t_l_fittingBlanket_b {l : Launch} (hst : l.stackTraces = false) {G : GG} {M : MC} (X : CX M G cL_fittingBlanket 4 RL ⟨9, 1, 6, 242⟩) (hl0 : M.2.1 = l) (hr : (mM M).sig.returnType = (some .int)) (ht : (mC M).exceptionTable.toList = tableOf hh_L_fittingBlanket) {b0 : Nat} {b1 : Int32} {b2 : Nat} {g : AH} {r : Int32} {g1 : AH} (E : l_fittingBlanket b0 b1 b2 g = some (r, g1)) : WW M G 4 (RX M G (.inl (some (.int r))) g1 1 6) 0 0 g 0 [(0, .ref b0), (1, .int b1), (2, .ref b2)] [] := by
  unfold l_fittingBlanket at E
  refine r_aload_n X 2 dL_fittingBlanket_0 rfl rfl ?_
  refine r_iconst X (v := 0) dL_fittingBlanket_1 (by decide) ?_
  refine r_aload_n X 0 dL_fittingBlanket_2 rfl rfl ?_
  refine r_iload_n X 1 dL_fittingBlanket_3 rfl rfl ?_
  obtain ⟨u4, e5, E⟩ := gb_some E
  obtain ⟨r1, g2, e3, E⟩ := cb_some E
  rcases r1 with v6 | w7
  · rw [Sum.elim_inl] at E
    refine r_callVX X hl0 (ci := 8) dL_fittingBlanket_4 y_X8_fittingBlanket m_L_39 rfl rfl e5 (t_x8_fittingBlanket (l := l) hst (G := G) e3) rfl rfl (Nat.le_of_ble_eq_true rfl) (by decide) ?_
    refine r_i2l X dL_fittingBlanket_7 ?_
    obtain ⟨g8, e9, E⟩ := gb_some E
    refine r_last X dL_fittingBlanket_8 e9 ?_
    refine r_goto X 15 dL_fittingBlanket_9 (by decide) ?_
    refine r_iconst X (v := 0) dL_fittingBlanket_15 (by decide) ?_
    cases E
    exact r_ret (r_iret X hr dL_fittingBlanket_16 (by decide) (by decide))
  · rw [Sum.elim_inr] at E
    by_cases c10 : w7 = "java/lang/IndexOutOfBoundsException"
    · rw [if_pos c10] at E
      subst c10
      refine r_catch X hl0 ht (ci := 8) dL_fittingBlanket_4 y_X8_fittingBlanket m_L_39 rfl rfl e5 (t_x8_fittingBlanket (l := l) hst (G := G) e3) rfl rfl (Nat.le_of_ble_eq_true rfl) (by decide) [] (0, 9, 12, 23) [] rfl (by decide) (by intro z hz; cases hz) (by decide) (by decide) k_L_23 (by decide) (fun q11 => ?_)
      refine r_astore_n X 3 (L1 := [(3, .ref q11), (0, .ref b0), (1, .int b1), (2, .ref b2)]) dL_fittingBlanket_12 rfl (by decide) rfl ?_
      refine r_iconst X (v := 1) dL_fittingBlanket_13 (by decide) ?_
      cases E
      exact r_ret (r_iret X hr dL_fittingBlanket_14 (by decide) (by decide))
    rw [if_neg c10] at E
    cases E
theorem t_l_fittingBlanket {l : Launch} (hst : l.stackTraces = false) {G : GG} {b0 : Nat} {b1 : Int32} {b2 : Nat} {g : AH} {r : Int32} {g1 : AH} (E : l_fittingBlanket b0 b1 b2 g = some (r, g1)) : CtW l G yL_fittingBlanket cL_fittingBlanket 4 (some .int) hh_L_fittingBlanket ⟨9, 1, 6, 242⟩ [.ref b0, .int b1, .ref b2] g (some (.int r)) g1 :=
  ctW_of (L0 := [(0, .ref b0), (1, .int b1), (2, .ref b2)]) y_L_fittingBlanket rfl (Nat.le_of_ble_eq_true rfl) fun M hl0 X hr ht => t_l_fittingBlanket_b hst X hl0 hr ht E
set_option maxHeartbeats 4000000 in
theorem t_l_bunkOf_b {l : Launch} (hst : l.stackTraces = false) {G : GG} {M : MC} (X : CX M G cL_bunkOf 4 RL ⟨9, 1, 6, 242⟩) (hl0 : M.2.1 = l) (hr : (mM M).sig.returnType = (some .int)) (ht : (mC M).exceptionTable.toList = tableOf hh_L_bunkOf) {b0 : Nat} {b1 : Int32} {b2 : Nat} {g : AH} {r : Int32} {g1 : AH} (E : l_bunkOf b0 b1 b2 g = some (r, g1)) : WW M G 4 (RX M G (.inl (some (.int r))) g1 1 6) 0 0 g 0 [(0, .ref b0), (1, .int b1), (2, .ref b2)] [] := by
  unfold l_bunkOf at E
  refine r_aload_n X 2 dL_bunkOf_0 rfl rfl ?_
  refine r_iconst X (v := 0) dL_bunkOf_1 (by decide) ?_
  refine r_aload_n X 0 dL_bunkOf_2 rfl rfl ?_
  refine r_iload_n X 1 dL_bunkOf_3 rfl rfl ?_
  obtain ⟨u4, e5, E⟩ := gb_some E
  obtain ⟨r1, g2, e3, E⟩ := cb_some E
  rcases r1 with v6 | w7
  · rw [Sum.elim_inl] at E
    refine r_callVX X hl0 (ci := 8) dL_bunkOf_4 y_X8_bunkOf m_L_42 rfl rfl e5 (t_x8_bunkOf (l := l) hst (G := G) e3) rfl rfl (Nat.le_of_ble_eq_true rfl) (by decide) ?_
    refine r_i2l X dL_bunkOf_7 ?_
    obtain ⟨g8, e9, E⟩ := gb_some E
    refine r_last X dL_bunkOf_8 e9 ?_
    refine r_goto X 15 dL_bunkOf_9 (by decide) ?_
    refine r_iconst X (v := 0) dL_bunkOf_15 (by decide) ?_
    cases E
    exact r_ret (r_iret X hr dL_bunkOf_16 (by decide) (by decide))
  · rw [Sum.elim_inr] at E
    by_cases c10 : w7 = "java/lang/IndexOutOfBoundsException"
    · rw [if_pos c10] at E
      subst c10
      refine r_catch X hl0 ht (ci := 8) dL_bunkOf_4 y_X8_bunkOf m_L_42 rfl rfl e5 (t_x8_bunkOf (l := l) hst (G := G) e3) rfl rfl (Nat.le_of_ble_eq_true rfl) (by decide) [] (0, 9, 12, 23) [] rfl (by decide) (by intro z hz; cases hz) (by decide) (by decide) k_L_23 (by decide) (fun q11 => ?_)
      refine r_astore_n X 3 (L1 := [(3, .ref q11), (0, .ref b0), (1, .int b1), (2, .ref b2)]) dL_bunkOf_12 rfl (by decide) rfl ?_
      refine r_iconst X (v := 1) dL_bunkOf_13 (by decide) ?_
      cases E
      exact r_ret (r_iret X hr dL_bunkOf_14 (by decide) (by decide))
    rw [if_neg c10] at E
    cases E
theorem t_l_bunkOf {l : Launch} (hst : l.stackTraces = false) {G : GG} {b0 : Nat} {b1 : Int32} {b2 : Nat} {g : AH} {r : Int32} {g1 : AH} (E : l_bunkOf b0 b1 b2 g = some (r, g1)) : CtW l G yL_bunkOf cL_bunkOf 4 (some .int) hh_L_bunkOf ⟨9, 1, 6, 242⟩ [.ref b0, .int b1, .ref b2] g (some (.int r)) g1 :=
  ctW_of (L0 := [(0, .ref b0), (1, .int b1), (2, .ref b2)]) y_L_bunkOf rfl (Nat.le_of_ble_eq_true rfl) fun M hl0 X hr ht => t_l_bunkOf_b hst X hl0 hr ht E
set_option maxHeartbeats 4000000 in
theorem t_l_blanketOf_b {l : Launch} (hst : l.stackTraces = false) {G : GG} {M : MC} (X : CX M G cL_blanketOf 4 RL ⟨9, 1, 6, 242⟩) (hl0 : M.2.1 = l) (hr : (mM M).sig.returnType = (some .int)) (ht : (mC M).exceptionTable.toList = tableOf hh_L_blanketOf) {b0 : Nat} {b1 : Int32} {b2 : Nat} {g : AH} {r : Int32} {g1 : AH} (E : l_blanketOf b0 b1 b2 g = some (r, g1)) : WW M G 4 (RX M G (.inl (some (.int r))) g1 1 6) 0 0 g 0 [(0, .ref b0), (1, .int b1), (2, .ref b2)] [] := by
  unfold l_blanketOf at E
  refine r_aload_n X 2 dL_blanketOf_0 rfl rfl ?_
  refine r_iconst X (v := 0) dL_blanketOf_1 (by decide) ?_
  refine r_aload_n X 0 dL_blanketOf_2 rfl rfl ?_
  refine r_iload_n X 1 dL_blanketOf_3 rfl rfl ?_
  obtain ⟨u4, e5, E⟩ := gb_some E
  obtain ⟨r1, g2, e3, E⟩ := cb_some E
  rcases r1 with v6 | w7
  · rw [Sum.elim_inl] at E
    refine r_callVX X hl0 (ci := 8) dL_blanketOf_4 y_X8_blanketOf m_L_45 rfl rfl e5 (t_x8_blanketOf (l := l) hst (G := G) e3) rfl rfl (Nat.le_of_ble_eq_true rfl) (by decide) ?_
    refine r_i2l X dL_blanketOf_7 ?_
    obtain ⟨g8, e9, E⟩ := gb_some E
    refine r_last X dL_blanketOf_8 e9 ?_
    refine r_goto X 15 dL_blanketOf_9 (by decide) ?_
    refine r_iconst X (v := 0) dL_blanketOf_15 (by decide) ?_
    cases E
    exact r_ret (r_iret X hr dL_blanketOf_16 (by decide) (by decide))
  · rw [Sum.elim_inr] at E
    by_cases c10 : w7 = "java/lang/IndexOutOfBoundsException"
    · rw [if_pos c10] at E
      subst c10
      refine r_catch X hl0 ht (ci := 8) dL_blanketOf_4 y_X8_blanketOf m_L_45 rfl rfl e5 (t_x8_blanketOf (l := l) hst (G := G) e3) rfl rfl (Nat.le_of_ble_eq_true rfl) (by decide) [] (0, 9, 12, 23) [] rfl (by decide) (by intro z hz; cases hz) (by decide) (by decide) k_L_23 (by decide) (fun q11 => ?_)
      refine r_astore_n X 3 (L1 := [(3, .ref q11), (0, .ref b0), (1, .int b1), (2, .ref b2)]) dL_blanketOf_12 rfl (by decide) rfl ?_
      refine r_iconst X (v := 1) dL_blanketOf_13 (by decide) ?_
      cases E
      exact r_ret (r_iret X hr dL_blanketOf_14 (by decide) (by decide))
    rw [if_neg c10] at E
    cases E
theorem t_l_blanketOf {l : Launch} (hst : l.stackTraces = false) {G : GG} {b0 : Nat} {b1 : Int32} {b2 : Nat} {g : AH} {r : Int32} {g1 : AH} (E : l_blanketOf b0 b1 b2 g = some (r, g1)) : CtW l G yL_blanketOf cL_blanketOf 4 (some .int) hh_L_blanketOf ⟨9, 1, 6, 242⟩ [.ref b0, .int b1, .ref b2] g (some (.int r)) g1 :=
  ctW_of (L0 := [(0, .ref b0), (1, .int b1), (2, .ref b2)]) y_L_blanketOf rfl (Nat.le_of_ble_eq_true rfl) fun M hl0 X hr ht => t_l_blanketOf_b hst X hl0 hr ht E
set_option maxHeartbeats 4000000 in
theorem t_l_warmth_b {l : Launch} (hst : l.stackTraces = false) {G : GG} {M : MC} (X : CX M G cL_warmth 4 RL ⟨9, 1, 6, 242⟩) (hl0 : M.2.1 = l) (hr : (mM M).sig.returnType = (some .int)) (ht : (mC M).exceptionTable.toList = tableOf hh_L_warmth) {b0 : Nat} {b1 : Int32} {b2 : Nat} {g : AH} {r : Int32} {g1 : AH} (E : l_warmth b0 b1 b2 g = some (r, g1)) : WW M G 4 (RX M G (.inl (some (.int r))) g1 1 6) 0 0 g 0 [(0, .ref b0), (1, .int b1), (2, .ref b2)] [] := by
  unfold l_warmth at E
  refine r_aload_n X 2 dL_warmth_0 rfl rfl ?_
  refine r_iconst X (v := 0) dL_warmth_1 (by decide) ?_
  refine r_aload_n X 0 dL_warmth_2 rfl rfl ?_
  refine r_iload_n X 1 dL_warmth_3 rfl rfl ?_
  obtain ⟨u4, e5, E⟩ := gb_some E
  obtain ⟨r1, g2, e3, E⟩ := cb_some E
  rcases r1 with v6 | w7
  · rw [Sum.elim_inl] at E
    refine r_callVX X hl0 (ci := 8) dL_warmth_4 y_X8_warmth m_L_48 rfl rfl e5 (t_x8_warmth (l := l) hst (G := G) e3) rfl rfl (Nat.le_of_ble_eq_true rfl) (by decide) ?_
    refine r_i2l X dL_warmth_7 ?_
    obtain ⟨g8, e9, E⟩ := gb_some E
    refine r_last X dL_warmth_8 e9 ?_
    refine r_goto X 15 dL_warmth_9 (by decide) ?_
    refine r_iconst X (v := 0) dL_warmth_15 (by decide) ?_
    cases E
    exact r_ret (r_iret X hr dL_warmth_16 (by decide) (by decide))
  · rw [Sum.elim_inr] at E
    by_cases c10 : w7 = "java/lang/IndexOutOfBoundsException"
    · rw [if_pos c10] at E
      subst c10
      refine r_catch X hl0 ht (ci := 8) dL_warmth_4 y_X8_warmth m_L_48 rfl rfl e5 (t_x8_warmth (l := l) hst (G := G) e3) rfl rfl (Nat.le_of_ble_eq_true rfl) (by decide) [] (0, 9, 12, 23) [] rfl (by decide) (by intro z hz; cases hz) (by decide) (by decide) k_L_23 (by decide) (fun q11 => ?_)
      refine r_astore_n X 3 (L1 := [(3, .ref q11), (0, .ref b0), (1, .int b1), (2, .ref b2)]) dL_warmth_12 rfl (by decide) rfl ?_
      refine r_iconst X (v := 1) dL_warmth_13 (by decide) ?_
      cases E
      exact r_ret (r_iret X hr dL_warmth_14 (by decide) (by decide))
    rw [if_neg c10] at E
    cases E
theorem t_l_warmth {l : Launch} (hst : l.stackTraces = false) {G : GG} {b0 : Nat} {b1 : Int32} {b2 : Nat} {g : AH} {r : Int32} {g1 : AH} (E : l_warmth b0 b1 b2 g = some (r, g1)) : CtW l G yL_warmth cL_warmth 4 (some .int) hh_L_warmth ⟨9, 1, 6, 242⟩ [.ref b0, .int b1, .ref b2] g (some (.int r)) g1 :=
  ctW_of (L0 := [(0, .ref b0), (1, .int b1), (2, .ref b2)]) y_L_warmth rfl (Nat.le_of_ble_eq_true rfl) fun M hl0 X hr ht => t_l_warmth_b hst X hl0 hr ht E
set_option maxHeartbeats 4000000 in
theorem t_l_activity_b {l : Launch} (hst : l.stackTraces = false) {G : GG} {M : MC} (X : CX M G cL_activity 4 RL ⟨9, 1, 6, 242⟩) (hl0 : M.2.1 = l) (hr : (mM M).sig.returnType = (some .int)) (ht : (mC M).exceptionTable.toList = tableOf hh_L_activity) {b0 : Nat} {b1 : Int32} {b2 : Nat} {g : AH} {r : Int32} {g1 : AH} (E : l_activity b0 b1 b2 g = some (r, g1)) : WW M G 4 (RX M G (.inl (some (.int r))) g1 1 6) 0 0 g 0 [(0, .ref b0), (1, .int b1), (2, .ref b2)] [] := by
  unfold l_activity at E
  refine r_aload_n X 2 dL_activity_0 rfl rfl ?_
  refine r_iconst X (v := 0) dL_activity_1 (by decide) ?_
  refine r_aload_n X 0 dL_activity_2 rfl rfl ?_
  refine r_iload_n X 1 dL_activity_3 rfl rfl ?_
  obtain ⟨u4, e5, E⟩ := gb_some E
  obtain ⟨r1, g2, e3, E⟩ := cb_some E
  rcases r1 with v6 | w7
  · rw [Sum.elim_inl] at E
    refine r_callVX X hl0 (ci := 8) dL_activity_4 y_X8_activity m_L_51 rfl rfl e5 (t_x8_activity (l := l) hst (G := G) e3) rfl rfl (Nat.le_of_ble_eq_true rfl) (by decide) ?_
    refine r_i2l X dL_activity_7 ?_
    obtain ⟨g8, e9, E⟩ := gb_some E
    refine r_last X dL_activity_8 e9 ?_
    refine r_goto X 15 dL_activity_9 (by decide) ?_
    refine r_iconst X (v := 0) dL_activity_15 (by decide) ?_
    cases E
    exact r_ret (r_iret X hr dL_activity_16 (by decide) (by decide))
  · rw [Sum.elim_inr] at E
    by_cases c10 : w7 = "java/lang/IndexOutOfBoundsException"
    · rw [if_pos c10] at E
      subst c10
      refine r_catch X hl0 ht (ci := 8) dL_activity_4 y_X8_activity m_L_51 rfl rfl e5 (t_x8_activity (l := l) hst (G := G) e3) rfl rfl (Nat.le_of_ble_eq_true rfl) (by decide) [] (0, 9, 12, 23) [] rfl (by decide) (by intro z hz; cases hz) (by decide) (by decide) k_L_23 (by decide) (fun q11 => ?_)
      refine r_astore_n X 3 (L1 := [(3, .ref q11), (0, .ref b0), (1, .int b1), (2, .ref b2)]) dL_activity_12 rfl (by decide) rfl ?_
      refine r_iconst X (v := 1) dL_activity_13 (by decide) ?_
      cases E
      exact r_ret (r_iret X hr dL_activity_14 (by decide) (by decide))
    rw [if_neg c10] at E
    cases E
theorem t_l_activity {l : Launch} (hst : l.stackTraces = false) {G : GG} {b0 : Nat} {b1 : Int32} {b2 : Nat} {g : AH} {r : Int32} {g1 : AH} (E : l_activity b0 b1 b2 g = some (r, g1)) : CtW l G yL_activity cL_activity 4 (some .int) hh_L_activity ⟨9, 1, 6, 242⟩ [.ref b0, .int b1, .ref b2] g (some (.int r)) g1 :=
  ctW_of (L0 := [(0, .ref b0), (1, .int b1), (2, .ref b2)]) y_L_activity rfl (Nat.le_of_ble_eq_true rfl) fun M hl0 X hr ht => t_l_activity_b hst X hl0 hr ht E
set_option maxHeartbeats 4000000 in
theorem t_l_hoursOf_b {l : Launch} (hst : l.stackTraces = false) {G : GG} {M : MC} (X : CX M G cL_hoursOf 5 RL ⟨9, 2, 12, 243⟩) (hl0 : M.2.1 = l) (hr : (mM M).sig.returnType = (some .int)) (ht : (mC M).exceptionTable.toList = tableOf hh_L_hoursOf) {b0 : Nat} {b1 : Int32} {b2 : Int32} {b3 : Nat} {g : AH} {r : Int32} {g1 : AH} (E : l_hoursOf b0 b1 b2 b3 g = some (r, g1)) : WW M G 5 (RX M G (.inl (some (.int r))) g1 2 12) 0 0 g 0 [(0, .ref b0), (1, .int b1), (2, .int b2), (3, .ref b3)] [] := by
  unfold l_hoursOf at E
  refine r_aload_n X 3 dL_hoursOf_0 rfl rfl ?_
  refine r_iconst X (v := 0) dL_hoursOf_1 (by decide) ?_
  refine r_aload_n X 0 dL_hoursOf_2 rfl rfl ?_
  refine r_iload_n X 1 dL_hoursOf_3 rfl rfl ?_
  refine r_iload_n X 2 dL_hoursOf_4 rfl rfl ?_
  obtain ⟨u4, e5, E⟩ := gb_some E
  obtain ⟨r1, g2, e3, E⟩ := cb_some E
  rcases r1 with v6 | w7
  · rw [Sum.elim_inl] at E
    refine r_callVX X hl0 (ci := 8) dL_hoursOf_5 y_X8_hoursOf m_L_54 rfl rfl e5 (t_x8_hoursOf (l := l) hst (G := G) e3) rfl rfl (Nat.le_of_ble_eq_true rfl) (by decide) ?_
    refine r_i2l X dL_hoursOf_8 ?_
    obtain ⟨g8, e9, E⟩ := gb_some E
    refine r_last X dL_hoursOf_9 e9 ?_
    refine r_goto X 21 dL_hoursOf_10 (by decide) ?_
    refine r_iconst X (v := 0) dL_hoursOf_21 (by decide) ?_
    cases E
    exact r_ret (r_iret X hr dL_hoursOf_22 (by decide) (by decide))
  · rw [Sum.elim_inr] at E
    by_cases c10 : w7 = "java/lang/IndexOutOfBoundsException"
    · rw [if_pos c10] at E
      subst c10
      refine r_catch X hl0 ht (ci := 8) dL_hoursOf_5 y_X8_hoursOf m_L_54 rfl rfl e5 (t_x8_hoursOf (l := l) hst (G := G) e3) rfl rfl (Nat.le_of_ble_eq_true rfl) (by decide) [] (0, 10, 13, 23) [(0, 10, 17, 18)] rfl (by decide) (by intro z hz; cases hz) (by decide) (by decide) k_L_23 (by decide) (fun q11 => ?_)
      refine r_astore X (L1 := [(4, .ref q11), (0, .ref b0), (1, .int b1), (2, .int b2), (3, .ref b3)]) dL_hoursOf_13 (by decide) rfl ?_
      refine r_iconst X (v := 1) dL_hoursOf_15 (by decide) ?_
      cases E
      exact r_ret (r_iret X hr dL_hoursOf_16 (by decide) (by decide))
    rw [if_neg c10] at E
    by_cases c12 : w7 = "java/lang/IllegalArgumentException"
    · rw [if_pos c12] at E
      subst c12
      refine r_catch X hl0 ht (ci := 8) dL_hoursOf_5 y_X8_hoursOf m_L_54 rfl rfl e5 (t_x8_hoursOf (l := l) hst (G := G) e3) rfl rfl (Nat.le_of_ble_eq_true rfl) (by decide) [(0, 10, 13, 23)] (0, 10, 17, 18) [] rfl (by decide) (by
        intro z hz
        rcases List.mem_singleton.mp hz with rfl
        · exact ⟨by decide, "java/lang/IndexOutOfBoundsException", by decide, by decide, k_L_23⟩
        ) (by decide) (by decide) k_L_18 (by decide) (fun q13 => ?_)
      refine r_astore X (L1 := [(4, .ref q13), (0, .ref b0), (1, .int b1), (2, .int b2), (3, .ref b3)]) dL_hoursOf_17 (by decide) rfl ?_
      refine r_iconst X (v := 2) dL_hoursOf_19 (by decide) ?_
      cases E
      exact r_ret (r_iret X hr dL_hoursOf_20 (by decide) (by decide))
    rw [if_neg c12] at E
    cases E
theorem t_l_hoursOf {l : Launch} (hst : l.stackTraces = false) {G : GG} {b0 : Nat} {b1 : Int32} {b2 : Int32} {b3 : Nat} {g : AH} {r : Int32} {g1 : AH} (E : l_hoursOf b0 b1 b2 b3 g = some (r, g1)) : CtW l G yL_hoursOf cL_hoursOf 5 (some .int) hh_L_hoursOf ⟨9, 2, 12, 243⟩ [.ref b0, .int b1, .int b2, .ref b3] g (some (.int r)) g1 :=
  ctW_of (L0 := [(0, .ref b0), (1, .int b1), (2, .int b2), (3, .ref b3)]) y_L_hoursOf rfl (Nat.le_of_ble_eq_true rfl) fun M hl0 X hr ht => t_l_hoursOf_b hst X hl0 hr ht E
set_option maxHeartbeats 4000000 in
theorem t_l_coinsOf_b {l : Launch} (hst : l.stackTraces = false) {G : GG} {M : MC} (X : CX M G cL_coinsOf 4 RL ⟨9, 1, 6, 242⟩) (hl0 : M.2.1 = l) (hr : (mM M).sig.returnType = (some .int)) (ht : (mC M).exceptionTable.toList = tableOf hh_L_coinsOf) {b0 : Nat} {b1 : Int32} {b2 : Nat} {g : AH} {r : Int32} {g1 : AH} (E : l_coinsOf b0 b1 b2 g = some (r, g1)) : WW M G 4 (RX M G (.inl (some (.int r))) g1 1 6) 0 0 g 0 [(0, .ref b0), (1, .int b1), (2, .ref b2)] [] := by
  unfold l_coinsOf at E
  refine r_aload_n X 2 dL_coinsOf_0 rfl rfl ?_
  refine r_iconst X (v := 0) dL_coinsOf_1 (by decide) ?_
  refine r_aload_n X 0 dL_coinsOf_2 rfl rfl ?_
  refine r_iload_n X 1 dL_coinsOf_3 rfl rfl ?_
  obtain ⟨u4, e5, E⟩ := gb_some E
  obtain ⟨r1, g2, e3, E⟩ := cb_some E
  rcases r1 with v6 | w7
  · rw [Sum.elim_inl] at E
    refine r_callVX X hl0 (ci := 8) dL_coinsOf_4 y_X8_coinsOf m_L_58 rfl rfl e5 (t_x8_coinsOf (l := l) hst (G := G) e3) rfl rfl (Nat.le_of_ble_eq_true rfl) (by decide) ?_
    refine r_i2l X dL_coinsOf_7 ?_
    obtain ⟨g8, e9, E⟩ := gb_some E
    refine r_last X dL_coinsOf_8 e9 ?_
    refine r_goto X 15 dL_coinsOf_9 (by decide) ?_
    refine r_iconst X (v := 0) dL_coinsOf_15 (by decide) ?_
    cases E
    exact r_ret (r_iret X hr dL_coinsOf_16 (by decide) (by decide))
  · rw [Sum.elim_inr] at E
    by_cases c10 : w7 = "java/lang/IndexOutOfBoundsException"
    · rw [if_pos c10] at E
      subst c10
      refine r_catch X hl0 ht (ci := 8) dL_coinsOf_4 y_X8_coinsOf m_L_58 rfl rfl e5 (t_x8_coinsOf (l := l) hst (G := G) e3) rfl rfl (Nat.le_of_ble_eq_true rfl) (by decide) [] (0, 9, 12, 23) [] rfl (by decide) (by intro z hz; cases hz) (by decide) (by decide) k_L_23 (by decide) (fun q11 => ?_)
      refine r_astore_n X 3 (L1 := [(3, .ref q11), (0, .ref b0), (1, .int b1), (2, .ref b2)]) dL_coinsOf_12 rfl (by decide) rfl ?_
      refine r_iconst X (v := 1) dL_coinsOf_13 (by decide) ?_
      cases E
      exact r_ret (r_iret X hr dL_coinsOf_14 (by decide) (by decide))
    rw [if_neg c10] at E
    cases E
theorem t_l_coinsOf {l : Launch} (hst : l.stackTraces = false) {G : GG} {b0 : Nat} {b1 : Int32} {b2 : Nat} {g : AH} {r : Int32} {g1 : AH} (E : l_coinsOf b0 b1 b2 g = some (r, g1)) : CtW l G yL_coinsOf cL_coinsOf 4 (some .int) hh_L_coinsOf ⟨9, 1, 6, 242⟩ [.ref b0, .int b1, .ref b2] g (some (.int r)) g1 :=
  ctW_of (L0 := [(0, .ref b0), (1, .int b1), (2, .ref b2)]) y_L_coinsOf rfl (Nat.le_of_ble_eq_true rfl) fun M hl0 X hr ht => t_l_coinsOf_b hst X hl0 hr ht E
set_option maxHeartbeats 4000000 in
theorem t_l_debtOf_b {l : Launch} (hst : l.stackTraces = false) {G : GG} {M : MC} (X : CX M G cL_debtOf 4 RL ⟨9, 1, 6, 242⟩) (hl0 : M.2.1 = l) (hr : (mM M).sig.returnType = (some .int)) (ht : (mC M).exceptionTable.toList = tableOf hh_L_debtOf) {b0 : Nat} {b1 : Int32} {b2 : Nat} {g : AH} {r : Int32} {g1 : AH} (E : l_debtOf b0 b1 b2 g = some (r, g1)) : WW M G 4 (RX M G (.inl (some (.int r))) g1 1 6) 0 0 g 0 [(0, .ref b0), (1, .int b1), (2, .ref b2)] [] := by
  unfold l_debtOf at E
  refine r_aload_n X 2 dL_debtOf_0 rfl rfl ?_
  refine r_iconst X (v := 0) dL_debtOf_1 (by decide) ?_
  refine r_aload_n X 0 dL_debtOf_2 rfl rfl ?_
  refine r_iload_n X 1 dL_debtOf_3 rfl rfl ?_
  obtain ⟨u4, e5, E⟩ := gb_some E
  obtain ⟨r1, g2, e3, E⟩ := cb_some E
  rcases r1 with v6 | w7
  · rw [Sum.elim_inl] at E
    refine r_callVX X hl0 (ci := 8) dL_debtOf_4 y_X8_debtOf m_L_61 rfl rfl e5 (t_x8_debtOf (l := l) hst (G := G) e3) rfl rfl (Nat.le_of_ble_eq_true rfl) (by decide) ?_
    refine r_i2l X dL_debtOf_7 ?_
    obtain ⟨g8, e9, E⟩ := gb_some E
    refine r_last X dL_debtOf_8 e9 ?_
    refine r_goto X 15 dL_debtOf_9 (by decide) ?_
    refine r_iconst X (v := 0) dL_debtOf_15 (by decide) ?_
    cases E
    exact r_ret (r_iret X hr dL_debtOf_16 (by decide) (by decide))
  · rw [Sum.elim_inr] at E
    by_cases c10 : w7 = "java/lang/IndexOutOfBoundsException"
    · rw [if_pos c10] at E
      subst c10
      refine r_catch X hl0 ht (ci := 8) dL_debtOf_4 y_X8_debtOf m_L_61 rfl rfl e5 (t_x8_debtOf (l := l) hst (G := G) e3) rfl rfl (Nat.le_of_ble_eq_true rfl) (by decide) [] (0, 9, 12, 23) [] rfl (by decide) (by intro z hz; cases hz) (by decide) (by decide) k_L_23 (by decide) (fun q11 => ?_)
      refine r_astore_n X 3 (L1 := [(3, .ref q11), (0, .ref b0), (1, .int b1), (2, .ref b2)]) dL_debtOf_12 rfl (by decide) rfl ?_
      refine r_iconst X (v := 1) dL_debtOf_13 (by decide) ?_
      cases E
      exact r_ret (r_iret X hr dL_debtOf_14 (by decide) (by decide))
    rw [if_neg c10] at E
    cases E
theorem t_l_debtOf {l : Launch} (hst : l.stackTraces = false) {G : GG} {b0 : Nat} {b1 : Int32} {b2 : Nat} {g : AH} {r : Int32} {g1 : AH} (E : l_debtOf b0 b1 b2 g = some (r, g1)) : CtW l G yL_debtOf cL_debtOf 4 (some .int) hh_L_debtOf ⟨9, 1, 6, 242⟩ [.ref b0, .int b1, .ref b2] g (some (.int r)) g1 :=
  ctW_of (L0 := [(0, .ref b0), (1, .int b1), (2, .ref b2)]) y_L_debtOf rfl (Nat.le_of_ble_eq_true rfl) fun M hl0 X hr ht => t_l_debtOf_b hst X hl0 hr ht E
set_option maxHeartbeats 4000000 in
theorem t_l_hikerAtRank_b {l : Launch} (hst : l.stackTraces = false) {G : GG} {M : MC} (X : CX M G cL_hikerAtRank 4 RL ⟨8, 1, 6, 222⟩) (hl0 : M.2.1 = l) (hr : (mM M).sig.returnType = (some .int)) (ht : (mC M).exceptionTable.toList = tableOf hh_L_hikerAtRank) {b0 : Nat} {b1 : Int32} {b2 : Nat} {g : AH} {r : Int32} {g1 : AH} (E : l_hikerAtRank b0 b1 b2 g = some (r, g1)) : WW M G 4 (RX M G (.inl (some (.int r))) g1 1 6) 0 0 g 0 [(0, .ref b0), (1, .int b1), (2, .ref b2)] [] := by
  unfold l_hikerAtRank at E
  refine r_aload_n X 2 dL_hikerAtRank_0 rfl rfl ?_
  refine r_iconst X (v := 0) dL_hikerAtRank_1 (by decide) ?_
  refine r_aload_n X 0 dL_hikerAtRank_2 rfl rfl ?_
  refine r_iload_n X 1 dL_hikerAtRank_3 rfl rfl ?_
  obtain ⟨u4, e5, E⟩ := gb_some E
  obtain ⟨r1, g2, e3, E⟩ := cb_some E
  rcases r1 with v6 | w7
  · rw [Sum.elim_inl] at E
    refine r_callVX X hl0 (ci := 8) dL_hikerAtRank_4 y_X8_hikerAtRank m_L_64 rfl rfl e5 (t_x8_hikerAtRank (l := l) hst (G := G) e3) rfl rfl (Nat.le_of_ble_eq_true rfl) (by decide) ?_
    refine r_i2l X dL_hikerAtRank_7 ?_
    obtain ⟨g8, e9, E⟩ := gb_some E
    refine r_last X dL_hikerAtRank_8 e9 ?_
    refine r_goto X 15 dL_hikerAtRank_9 (by decide) ?_
    refine r_iconst X (v := 0) dL_hikerAtRank_15 (by decide) ?_
    cases E
    exact r_ret (r_iret X hr dL_hikerAtRank_16 (by decide) (by decide))
  · rw [Sum.elim_inr] at E
    by_cases c10 : w7 = "java/util/NoSuchElementException"
    · rw [if_pos c10] at E
      subst c10
      refine r_catch X hl0 ht (ci := 8) dL_hikerAtRank_4 y_X8_hikerAtRank m_L_64 rfl rfl e5 (t_x8_hikerAtRank (l := l) hst (G := G) e3) rfl rfl (Nat.le_of_ble_eq_true rfl) (by decide) [] (0, 9, 12, 37) [] rfl (by decide) (by intro z hz; cases hz) (by decide) (by decide) k_L_37 (by decide) (fun q11 => ?_)
      refine r_astore_n X 3 (L1 := [(3, .ref q11), (0, .ref b0), (1, .int b1), (2, .ref b2)]) dL_hikerAtRank_12 rfl (by decide) rfl ?_
      refine r_iconst X (v := 1) dL_hikerAtRank_13 (by decide) ?_
      cases E
      exact r_ret (r_iret X hr dL_hikerAtRank_14 (by decide) (by decide))
    rw [if_neg c10] at E
    cases E
theorem t_l_hikerAtRank {l : Launch} (hst : l.stackTraces = false) {G : GG} {b0 : Nat} {b1 : Int32} {b2 : Nat} {g : AH} {r : Int32} {g1 : AH} (E : l_hikerAtRank b0 b1 b2 g = some (r, g1)) : CtW l G yL_hikerAtRank cL_hikerAtRank 4 (some .int) hh_L_hikerAtRank ⟨8, 1, 6, 222⟩ [.ref b0, .int b1, .ref b2] g (some (.int r)) g1 :=
  ctW_of (L0 := [(0, .ref b0), (1, .int b1), (2, .ref b2)]) y_L_hikerAtRank rfl (Nat.le_of_ble_eq_true rfl) fun M hl0 X hr ht => t_l_hikerAtRank_b hst X hl0 hr ht E
set_option maxHeartbeats 4000000 in
theorem t_l_warmestBunk_b {l : Launch} (hst : l.stackTraces = false) {G : GG} {M : MC} (X : CX M G cL_warmestBunk 4 RL ⟨9, 1, 6, 242⟩) (hl0 : M.2.1 = l) (hr : (mM M).sig.returnType = (some .int)) (ht : (mC M).exceptionTable.toList = tableOf hh_L_warmestBunk) {b0 : Nat} {b1 : Int32} {b2 : Nat} {g : AH} {r : Int32} {g1 : AH} (E : l_warmestBunk b0 b1 b2 g = some (r, g1)) : WW M G 4 (RX M G (.inl (some (.int r))) g1 1 6) 0 0 g 0 [(0, .ref b0), (1, .int b1), (2, .ref b2)] [] := by
  unfold l_warmestBunk at E
  refine r_aload_n X 2 dL_warmestBunk_0 rfl rfl ?_
  refine r_iconst X (v := 0) dL_warmestBunk_1 (by decide) ?_
  refine r_aload_n X 0 dL_warmestBunk_2 rfl rfl ?_
  refine r_iload_n X 1 dL_warmestBunk_3 rfl rfl ?_
  obtain ⟨u4, e5, E⟩ := gb_some E
  obtain ⟨r1, g2, e3, E⟩ := cb_some E
  rcases r1 with v6 | w7
  · rw [Sum.elim_inl] at E
    refine r_callVX X hl0 (ci := 8) dL_warmestBunk_4 y_X8_warmestBunk m_L_67 rfl rfl e5 (t_x8_warmestBunk (l := l) hst (G := G) e3) rfl rfl (Nat.le_of_ble_eq_true rfl) (by decide) ?_
    refine r_i2l X dL_warmestBunk_7 ?_
    obtain ⟨g8, e9, E⟩ := gb_some E
    refine r_last X dL_warmestBunk_8 e9 ?_
    refine r_goto X 15 dL_warmestBunk_9 (by decide) ?_
    refine r_iconst X (v := 0) dL_warmestBunk_15 (by decide) ?_
    cases E
    exact r_ret (r_iret X hr dL_warmestBunk_16 (by decide) (by decide))
  · rw [Sum.elim_inr] at E
    by_cases c10 : w7 = "java/lang/IndexOutOfBoundsException"
    · rw [if_pos c10] at E
      subst c10
      refine r_catch X hl0 ht (ci := 8) dL_warmestBunk_4 y_X8_warmestBunk m_L_67 rfl rfl e5 (t_x8_warmestBunk (l := l) hst (G := G) e3) rfl rfl (Nat.le_of_ble_eq_true rfl) (by decide) [] (0, 9, 12, 23) [] rfl (by decide) (by intro z hz; cases hz) (by decide) (by decide) k_L_23 (by decide) (fun q11 => ?_)
      refine r_astore_n X 3 (L1 := [(3, .ref q11), (0, .ref b0), (1, .int b1), (2, .ref b2)]) dL_warmestBunk_12 rfl (by decide) rfl ?_
      refine r_iconst X (v := 1) dL_warmestBunk_13 (by decide) ?_
      cases E
      exact r_ret (r_iret X hr dL_warmestBunk_14 (by decide) (by decide))
    rw [if_neg c10] at E
    cases E
theorem t_l_warmestBunk {l : Launch} (hst : l.stackTraces = false) {G : GG} {b0 : Nat} {b1 : Int32} {b2 : Nat} {g : AH} {r : Int32} {g1 : AH} (E : l_warmestBunk b0 b1 b2 g = some (r, g1)) : CtW l G yL_warmestBunk cL_warmestBunk 4 (some .int) hh_L_warmestBunk ⟨9, 1, 6, 242⟩ [.ref b0, .int b1, .ref b2] g (some (.int r)) g1 :=
  ctW_of (L0 := [(0, .ref b0), (1, .int b1), (2, .ref b2)]) y_L_warmestBunk rfl (Nat.le_of_ble_eq_true rfl) fun M hl0 X hr ht => t_l_warmestBunk_b hst X hl0 hr ht E
set_option maxHeartbeats 4000000 in
theorem t_l_temperatureAfter_b {l : Launch} (hst : l.stackTraces = false) {G : GG} {M : MC} (X : CX M G cL_temperatureAfter 4 RL ⟨9, 1, 6, 241⟩) (hl0 : M.2.1 = l) (hr : (mM M).sig.returnType = (some .int)) (ht : (mC M).exceptionTable.toList = tableOf hh_L_temperatureAfter) {b0 : Nat} {b1 : Int32} {b2 : Nat} {g : AH} {r : Int32} {g1 : AH} (E : l_temperatureAfter b0 b1 b2 g = some (r, g1)) : WW M G 4 (RX M G (.inl (some (.int r))) g1 1 6) 0 0 g 0 [(0, .ref b0), (1, .int b1), (2, .ref b2)] [] := by
  unfold l_temperatureAfter at E
  refine r_aload_n X 2 dL_temperatureAfter_0 rfl rfl ?_
  refine r_iconst X (v := 0) dL_temperatureAfter_1 (by decide) ?_
  refine r_aload_n X 0 dL_temperatureAfter_2 rfl rfl ?_
  refine r_iload_n X 1 dL_temperatureAfter_3 rfl rfl ?_
  obtain ⟨u4, e5, E⟩ := gb_some E
  obtain ⟨r1, g2, e3, E⟩ := cb_some E
  rcases r1 with v6 | w7
  · rw [Sum.elim_inl] at E
    refine r_callVX X hl0 (ci := 8) dL_temperatureAfter_4 y_X8_temperatureAfter m_L_70 rfl rfl e5 (t_x8_temperatureAfter (l := l) hst (G := G) e3) rfl rfl (Nat.le_of_ble_eq_true rfl) (by decide) ?_
    refine r_i2l X dL_temperatureAfter_7 ?_
    obtain ⟨g8, e9, E⟩ := gb_some E
    refine r_last X dL_temperatureAfter_8 e9 ?_
    refine r_goto X 15 dL_temperatureAfter_9 (by decide) ?_
    refine r_iconst X (v := 0) dL_temperatureAfter_15 (by decide) ?_
    cases E
    exact r_ret (r_iret X hr dL_temperatureAfter_16 (by decide) (by decide))
  · rw [Sum.elim_inr] at E
    by_cases c10 : w7 = "java/lang/IllegalArgumentException"
    · rw [if_pos c10] at E
      subst c10
      refine r_catch X hl0 ht (ci := 8) dL_temperatureAfter_4 y_X8_temperatureAfter m_L_70 rfl rfl e5 (t_x8_temperatureAfter (l := l) hst (G := G) e3) rfl rfl (Nat.le_of_ble_eq_true rfl) (by decide) [] (0, 9, 12, 18) [] rfl (by decide) (by intro z hz; cases hz) (by decide) (by decide) k_L_18 (by decide) (fun q11 => ?_)
      refine r_astore_n X 3 (L1 := [(3, .ref q11), (0, .ref b0), (1, .int b1), (2, .ref b2)]) dL_temperatureAfter_12 rfl (by decide) rfl ?_
      refine r_iconst X (v := 1) dL_temperatureAfter_13 (by decide) ?_
      cases E
      exact r_ret (r_iret X hr dL_temperatureAfter_14 (by decide) (by decide))
    rw [if_neg c10] at E
    cases E
theorem t_l_temperatureAfter {l : Launch} (hst : l.stackTraces = false) {G : GG} {b0 : Nat} {b1 : Int32} {b2 : Nat} {g : AH} {r : Int32} {g1 : AH} (E : l_temperatureAfter b0 b1 b2 g = some (r, g1)) : CtW l G yL_temperatureAfter cL_temperatureAfter 4 (some .int) hh_L_temperatureAfter ⟨9, 1, 6, 241⟩ [.ref b0, .int b1, .ref b2] g (some (.int r)) g1 :=
  ctW_of (L0 := [(0, .ref b0), (1, .int b1), (2, .ref b2)]) y_L_temperatureAfter rfl (Nat.le_of_ble_eq_true rfl) fun M hl0 X hr ht => t_l_temperatureAfter_b hst X hl0 hr ht E
set_option maxHeartbeats 4000000 in
theorem t_l_shiversUntilDawn_b {l : Launch} (hst : l.stackTraces = false) {G : GG} {M : MC} (X : CX M G cL_shiversUntilDawn 4 RL ⟨9, 1, 6, 242⟩) (hl0 : M.2.1 = l) (hr : (mM M).sig.returnType = (some .int)) (ht : (mC M).exceptionTable.toList = tableOf hh_L_shiversUntilDawn) {b0 : Nat} {b1 : Int32} {b2 : Nat} {g : AH} {r : Int32} {g1 : AH} (E : l_shiversUntilDawn b0 b1 b2 g = some (r, g1)) : WW M G 4 (RX M G (.inl (some (.int r))) g1 1 6) 0 0 g 0 [(0, .ref b0), (1, .int b1), (2, .ref b2)] [] := by
  unfold l_shiversUntilDawn at E
  refine r_aload_n X 2 dL_shiversUntilDawn_0 rfl rfl ?_
  refine r_iconst X (v := 0) dL_shiversUntilDawn_1 (by decide) ?_
  refine r_aload_n X 0 dL_shiversUntilDawn_2 rfl rfl ?_
  refine r_iload_n X 1 dL_shiversUntilDawn_3 rfl rfl ?_
  obtain ⟨u4, e5, E⟩ := gb_some E
  obtain ⟨r1, g2, e3, E⟩ := cb_some E
  rcases r1 with v6 | w7
  · rw [Sum.elim_inl] at E
    refine r_callVX X hl0 (ci := 8) dL_shiversUntilDawn_4 y_X8_shiversUntilDawn m_L_73 rfl rfl e5 (t_x8_shiversUntilDawn (l := l) hst (G := G) e3) rfl rfl (Nat.le_of_ble_eq_true rfl) (by decide) ?_
    refine r_i2l X dL_shiversUntilDawn_7 ?_
    obtain ⟨g8, e9, E⟩ := gb_some E
    refine r_last X dL_shiversUntilDawn_8 e9 ?_
    refine r_goto X 15 dL_shiversUntilDawn_9 (by decide) ?_
    refine r_iconst X (v := 0) dL_shiversUntilDawn_15 (by decide) ?_
    cases E
    exact r_ret (r_iret X hr dL_shiversUntilDawn_16 (by decide) (by decide))
  · rw [Sum.elim_inr] at E
    by_cases c10 : w7 = "java/lang/IndexOutOfBoundsException"
    · rw [if_pos c10] at E
      subst c10
      refine r_catch X hl0 ht (ci := 8) dL_shiversUntilDawn_4 y_X8_shiversUntilDawn m_L_73 rfl rfl e5 (t_x8_shiversUntilDawn (l := l) hst (G := G) e3) rfl rfl (Nat.le_of_ble_eq_true rfl) (by decide) [] (0, 9, 12, 23) [] rfl (by decide) (by intro z hz; cases hz) (by decide) (by decide) k_L_23 (by decide) (fun q11 => ?_)
      refine r_astore_n X 3 (L1 := [(3, .ref q11), (0, .ref b0), (1, .int b1), (2, .ref b2)]) dL_shiversUntilDawn_12 rfl (by decide) rfl ?_
      refine r_iconst X (v := 1) dL_shiversUntilDawn_13 (by decide) ?_
      cases E
      exact r_ret (r_iret X hr dL_shiversUntilDawn_14 (by decide) (by decide))
    rw [if_neg c10] at E
    cases E
theorem t_l_shiversUntilDawn {l : Launch} (hst : l.stackTraces = false) {G : GG} {b0 : Nat} {b1 : Int32} {b2 : Nat} {g : AH} {r : Int32} {g1 : AH} (E : l_shiversUntilDawn b0 b1 b2 g = some (r, g1)) : CtW l G yL_shiversUntilDawn cL_shiversUntilDawn 4 (some .int) hh_L_shiversUntilDawn ⟨9, 1, 6, 242⟩ [.ref b0, .int b1, .ref b2] g (some (.int r)) g1 :=
  ctW_of (L0 := [(0, .ref b0), (1, .int b1), (2, .ref b2)]) y_L_shiversUntilDawn rfl (Nat.le_of_ble_eq_true rfl) fun M hl0 X hr ht => t_l_shiversUntilDawn_b hst X hl0 hr ht E
set_option maxHeartbeats 4000000 in
theorem t_l_paymentAtDawn_b {l : Launch} (hst : l.stackTraces = false) {G : GG} {M : MC} (X : CX M G cL_paymentAtDawn 4 RL ⟨9, 1, 6, 242⟩) (hl0 : M.2.1 = l) (hr : (mM M).sig.returnType = (some .int)) (ht : (mC M).exceptionTable.toList = tableOf hh_L_paymentAtDawn) {b0 : Nat} {b1 : Int32} {b2 : Nat} {g : AH} {r : Int32} {g1 : AH} (E : l_paymentAtDawn b0 b1 b2 g = some (r, g1)) : WW M G 4 (RX M G (.inl (some (.int r))) g1 1 6) 0 0 g 0 [(0, .ref b0), (1, .int b1), (2, .ref b2)] [] := by
  unfold l_paymentAtDawn at E
  refine r_aload_n X 2 dL_paymentAtDawn_0 rfl rfl ?_
  refine r_iconst X (v := 0) dL_paymentAtDawn_1 (by decide) ?_
  refine r_aload_n X 0 dL_paymentAtDawn_2 rfl rfl ?_
  refine r_iload_n X 1 dL_paymentAtDawn_3 rfl rfl ?_
  obtain ⟨u4, e5, E⟩ := gb_some E
  obtain ⟨r1, g2, e3, E⟩ := cb_some E
  rcases r1 with v6 | w7
  · rw [Sum.elim_inl] at E
    refine r_callVX X hl0 (ci := 8) dL_paymentAtDawn_4 y_X8_paymentAtDawn m_L_76 rfl rfl e5 (t_x8_paymentAtDawn (l := l) hst (G := G) e3) rfl rfl (Nat.le_of_ble_eq_true rfl) (by decide) ?_
    refine r_i2l X dL_paymentAtDawn_7 ?_
    obtain ⟨g8, e9, E⟩ := gb_some E
    refine r_last X dL_paymentAtDawn_8 e9 ?_
    refine r_goto X 15 dL_paymentAtDawn_9 (by decide) ?_
    refine r_iconst X (v := 0) dL_paymentAtDawn_15 (by decide) ?_
    cases E
    exact r_ret (r_iret X hr dL_paymentAtDawn_16 (by decide) (by decide))
  · rw [Sum.elim_inr] at E
    by_cases c10 : w7 = "java/lang/IndexOutOfBoundsException"
    · rw [if_pos c10] at E
      subst c10
      refine r_catch X hl0 ht (ci := 8) dL_paymentAtDawn_4 y_X8_paymentAtDawn m_L_76 rfl rfl e5 (t_x8_paymentAtDawn (l := l) hst (G := G) e3) rfl rfl (Nat.le_of_ble_eq_true rfl) (by decide) [] (0, 9, 12, 23) [] rfl (by decide) (by intro z hz; cases hz) (by decide) (by decide) k_L_23 (by decide) (fun q11 => ?_)
      refine r_astore_n X 3 (L1 := [(3, .ref q11), (0, .ref b0), (1, .int b1), (2, .ref b2)]) dL_paymentAtDawn_12 rfl (by decide) rfl ?_
      refine r_iconst X (v := 1) dL_paymentAtDawn_13 (by decide) ?_
      cases E
      exact r_ret (r_iret X hr dL_paymentAtDawn_14 (by decide) (by decide))
    rw [if_neg c10] at E
    cases E
theorem t_l_paymentAtDawn {l : Launch} (hst : l.stackTraces = false) {G : GG} {b0 : Nat} {b1 : Int32} {b2 : Nat} {g : AH} {r : Int32} {g1 : AH} (E : l_paymentAtDawn b0 b1 b2 g = some (r, g1)) : CtW l G yL_paymentAtDawn cL_paymentAtDawn 4 (some .int) hh_L_paymentAtDawn ⟨9, 1, 6, 242⟩ [.ref b0, .int b1, .ref b2] g (some (.int r)) g1 :=
  ctW_of (L0 := [(0, .ref b0), (1, .int b1), (2, .ref b2)]) y_L_paymentAtDawn rfl (Nat.le_of_ble_eq_true rfl) fun M hl0 X hr ht => t_l_paymentAtDawn_b hst X hl0 hr ht E
set_option maxHeartbeats 4000000 in
theorem t_l_debtAfter_b {l : Launch} (hst : l.stackTraces = false) {G : GG} {M : MC} (X : CX M G cL_debtAfter 5 RL ⟨9, 2, 12, 243⟩) (hl0 : M.2.1 = l) (hr : (mM M).sig.returnType = (some .int)) (ht : (mC M).exceptionTable.toList = tableOf hh_L_debtAfter) {b0 : Nat} {b1 : Int32} {b2 : Int32} {b3 : Nat} {g : AH} {r : Int32} {g1 : AH} (E : l_debtAfter b0 b1 b2 b3 g = some (r, g1)) : WW M G 5 (RX M G (.inl (some (.int r))) g1 2 12) 0 0 g 0 [(0, .ref b0), (1, .int b1), (2, .int b2), (3, .ref b3)] [] := by
  unfold l_debtAfter at E
  refine r_aload_n X 3 dL_debtAfter_0 rfl rfl ?_
  refine r_iconst X (v := 0) dL_debtAfter_1 (by decide) ?_
  refine r_aload_n X 0 dL_debtAfter_2 rfl rfl ?_
  refine r_iload_n X 1 dL_debtAfter_3 rfl rfl ?_
  refine r_iload_n X 2 dL_debtAfter_4 rfl rfl ?_
  obtain ⟨u4, e5, E⟩ := gb_some E
  obtain ⟨r1, g2, e3, E⟩ := cb_some E
  rcases r1 with v6 | w7
  · rw [Sum.elim_inl] at E
    refine r_callVX X hl0 (ci := 8) dL_debtAfter_5 y_X8_debtAfter m_L_79 rfl rfl e5 (t_x8_debtAfter (l := l) hst (G := G) e3) rfl rfl (Nat.le_of_ble_eq_true rfl) (by decide) ?_
    refine r_i2l X dL_debtAfter_8 ?_
    obtain ⟨g8, e9, E⟩ := gb_some E
    refine r_last X dL_debtAfter_9 e9 ?_
    refine r_goto X 21 dL_debtAfter_10 (by decide) ?_
    refine r_iconst X (v := 0) dL_debtAfter_21 (by decide) ?_
    cases E
    exact r_ret (r_iret X hr dL_debtAfter_22 (by decide) (by decide))
  · rw [Sum.elim_inr] at E
    by_cases c10 : w7 = "java/lang/IndexOutOfBoundsException"
    · rw [if_pos c10] at E
      subst c10
      refine r_catch X hl0 ht (ci := 8) dL_debtAfter_5 y_X8_debtAfter m_L_79 rfl rfl e5 (t_x8_debtAfter (l := l) hst (G := G) e3) rfl rfl (Nat.le_of_ble_eq_true rfl) (by decide) [] (0, 10, 13, 23) [(0, 10, 17, 18)] rfl (by decide) (by intro z hz; cases hz) (by decide) (by decide) k_L_23 (by decide) (fun q11 => ?_)
      refine r_astore X (L1 := [(4, .ref q11), (0, .ref b0), (1, .int b1), (2, .int b2), (3, .ref b3)]) dL_debtAfter_13 (by decide) rfl ?_
      refine r_iconst X (v := 1) dL_debtAfter_15 (by decide) ?_
      cases E
      exact r_ret (r_iret X hr dL_debtAfter_16 (by decide) (by decide))
    rw [if_neg c10] at E
    by_cases c12 : w7 = "java/lang/IllegalArgumentException"
    · rw [if_pos c12] at E
      subst c12
      refine r_catch X hl0 ht (ci := 8) dL_debtAfter_5 y_X8_debtAfter m_L_79 rfl rfl e5 (t_x8_debtAfter (l := l) hst (G := G) e3) rfl rfl (Nat.le_of_ble_eq_true rfl) (by decide) [(0, 10, 13, 23)] (0, 10, 17, 18) [] rfl (by decide) (by
        intro z hz
        rcases List.mem_singleton.mp hz with rfl
        · exact ⟨by decide, "java/lang/IndexOutOfBoundsException", by decide, by decide, k_L_23⟩
        ) (by decide) (by decide) k_L_18 (by decide) (fun q13 => ?_)
      refine r_astore X (L1 := [(4, .ref q13), (0, .ref b0), (1, .int b1), (2, .int b2), (3, .ref b3)]) dL_debtAfter_17 (by decide) rfl ?_
      refine r_iconst X (v := 2) dL_debtAfter_19 (by decide) ?_
      cases E
      exact r_ret (r_iret X hr dL_debtAfter_20 (by decide) (by decide))
    rw [if_neg c12] at E
    cases E
theorem t_l_debtAfter {l : Launch} (hst : l.stackTraces = false) {G : GG} {b0 : Nat} {b1 : Int32} {b2 : Int32} {b3 : Nat} {g : AH} {r : Int32} {g1 : AH} (E : l_debtAfter b0 b1 b2 b3 g = some (r, g1)) : CtW l G yL_debtAfter cL_debtAfter 5 (some .int) hh_L_debtAfter ⟨9, 2, 12, 243⟩ [.ref b0, .int b1, .int b2, .ref b3] g (some (.int r)) g1 :=
  ctW_of (L0 := [(0, .ref b0), (1, .int b1), (2, .int b2), (3, .ref b3)]) y_L_debtAfter rfl (Nat.le_of_ble_eq_true rfl) fun M hl0 X hr ht => t_l_debtAfter_b hst X hl0 hr ht E
set_option maxHeartbeats 4000000 in
theorem t_l_dawnsUntilDebt_b {l : Launch} (hst : l.stackTraces = false) {G : GG} {M : MC} (X : CX M G cL_dawnsUntilDebt 4 RL ⟨9, 1, 6, 242⟩) (hl0 : M.2.1 = l) (hr : (mM M).sig.returnType = (some .int)) (ht : (mC M).exceptionTable.toList = tableOf hh_L_dawnsUntilDebt) {b0 : Nat} {b1 : Int32} {b2 : Nat} {g : AH} {r : Int32} {g1 : AH} (E : l_dawnsUntilDebt b0 b1 b2 g = some (r, g1)) : WW M G 4 (RX M G (.inl (some (.int r))) g1 1 6) 0 0 g 0 [(0, .ref b0), (1, .int b1), (2, .ref b2)] [] := by
  unfold l_dawnsUntilDebt at E
  refine r_aload_n X 2 dL_dawnsUntilDebt_0 rfl rfl ?_
  refine r_iconst X (v := 0) dL_dawnsUntilDebt_1 (by decide) ?_
  refine r_aload_n X 0 dL_dawnsUntilDebt_2 rfl rfl ?_
  refine r_iload_n X 1 dL_dawnsUntilDebt_3 rfl rfl ?_
  obtain ⟨u4, e5, E⟩ := gb_some E
  obtain ⟨r1, g2, e3, E⟩ := cb_some E
  rcases r1 with v6 | w7
  · rw [Sum.elim_inl] at E
    refine r_callVX X hl0 (ci := 8) dL_dawnsUntilDebt_4 y_X8_dawnsUntilDebt m_L_82 rfl rfl e5 (t_x8_dawnsUntilDebt (l := l) hst (G := G) e3) rfl rfl (Nat.le_of_ble_eq_true rfl) (by decide) ?_
    refine r_i2l X dL_dawnsUntilDebt_7 ?_
    obtain ⟨g8, e9, E⟩ := gb_some E
    refine r_last X dL_dawnsUntilDebt_8 e9 ?_
    refine r_goto X 15 dL_dawnsUntilDebt_9 (by decide) ?_
    refine r_iconst X (v := 0) dL_dawnsUntilDebt_15 (by decide) ?_
    cases E
    exact r_ret (r_iret X hr dL_dawnsUntilDebt_16 (by decide) (by decide))
  · rw [Sum.elim_inr] at E
    by_cases c10 : w7 = "java/lang/IndexOutOfBoundsException"
    · rw [if_pos c10] at E
      subst c10
      refine r_catch X hl0 ht (ci := 8) dL_dawnsUntilDebt_4 y_X8_dawnsUntilDebt m_L_82 rfl rfl e5 (t_x8_dawnsUntilDebt (l := l) hst (G := G) e3) rfl rfl (Nat.le_of_ble_eq_true rfl) (by decide) [] (0, 9, 12, 23) [] rfl (by decide) (by intro z hz; cases hz) (by decide) (by decide) k_L_23 (by decide) (fun q11 => ?_)
      refine r_astore_n X 3 (L1 := [(3, .ref q11), (0, .ref b0), (1, .int b1), (2, .ref b2)]) dL_dawnsUntilDebt_12 rfl (by decide) rfl ?_
      refine r_iconst X (v := 1) dL_dawnsUntilDebt_13 (by decide) ?_
      cases E
      exact r_ret (r_iret X hr dL_dawnsUntilDebt_14 (by decide) (by decide))
    rw [if_neg c10] at E
    cases E
theorem t_l_dawnsUntilDebt {l : Launch} (hst : l.stackTraces = false) {G : GG} {b0 : Nat} {b1 : Int32} {b2 : Nat} {g : AH} {r : Int32} {g1 : AH} (E : l_dawnsUntilDebt b0 b1 b2 g = some (r, g1)) : CtW l G yL_dawnsUntilDebt cL_dawnsUntilDebt 4 (some .int) hh_L_dawnsUntilDebt ⟨9, 1, 6, 242⟩ [.ref b0, .int b1, .ref b2] g (some (.int r)) g1 :=
  ctW_of (L0 := [(0, .ref b0), (1, .int b1), (2, .ref b2)]) y_L_dawnsUntilDebt rfl (Nat.le_of_ble_eq_true rfl) fun M hl0 X hr ht => t_l_dawnsUntilDebt_b hst X hl0 hr ht E
set_option maxHeartbeats 4000000 in
theorem t_l_takeBlanket_b {l : Launch} (hst : l.stackTraces = false) {G : GG} {M : MC} (X : CX M G cL_takeBlanket 5 RL ⟨10, 3, 18, 265⟩) (hl0 : M.2.1 = l) (hr : (mM M).sig.returnType = (some .int)) (ht : (mC M).exceptionTable.toList = tableOf hh_L_takeBlanket) {b0 : Nat} {b1 : Int32} {b2 : Int32} {b3 : Nat} {g : AH} {r : Int32} {g1 : AH} (E : l_takeBlanket b0 b1 b2 b3 g = some (r, g1)) : WW M G 5 (RX M G (.inl (some (.int r))) g1 3 18) 0 0 g 0 [(0, .ref b0), (1, .int b1), (2, .int b2), (3, .ref b3)] [] := by
  unfold l_takeBlanket at E
  refine r_aload_n X 3 dL_takeBlanket_0 rfl rfl ?_
  refine r_iconst X (v := 0) dL_takeBlanket_1 (by decide) ?_
  refine r_aload_n X 0 dL_takeBlanket_2 rfl rfl ?_
  refine r_iload_n X 1 dL_takeBlanket_3 rfl rfl ?_
  refine r_iload_n X 2 dL_takeBlanket_4 rfl rfl ?_
  obtain ⟨u4, e5, E⟩ := gb_some E
  obtain ⟨r1, g2, e3, E⟩ := cb_some E
  rcases r1 with v6 | w7
  · rw [Sum.elim_inl] at E
    refine r_callVX X hl0 (ci := 8) dL_takeBlanket_5 y_X8_takeBlanket m_L_85 rfl rfl e5 (t_x8_takeBlanket (l := l) hst (G := G) e3) rfl rfl (Nat.le_of_ble_eq_true rfl) (by decide) ?_
    refine r_i2l X dL_takeBlanket_8 ?_
    obtain ⟨g8, e9, E⟩ := gb_some E
    refine r_last X dL_takeBlanket_9 e9 ?_
    refine r_goto X 21 dL_takeBlanket_10 (by decide) ?_
    refine r_iconst X (v := 0) dL_takeBlanket_21 (by decide) ?_
    cases E
    exact r_ret (r_iret X hr dL_takeBlanket_22 (by decide) (by decide))
  · rw [Sum.elim_inr] at E
    by_cases c10 : w7 = "java/lang/IndexOutOfBoundsException"
    · rw [if_pos c10] at E
      subst c10
      refine r_catch X hl0 ht (ci := 8) dL_takeBlanket_5 y_X8_takeBlanket m_L_85 rfl rfl e5 (t_x8_takeBlanket (l := l) hst (G := G) e3) rfl rfl (Nat.le_of_ble_eq_true rfl) (by decide) [] (0, 10, 13, 23) [(0, 10, 17, 13)] rfl (by decide) (by intro z hz; cases hz) (by decide) (by decide) k_L_23 (by decide) (fun q11 => ?_)
      refine r_astore X (L1 := [(4, .ref q11), (0, .ref b0), (1, .int b1), (2, .int b2), (3, .ref b3)]) dL_takeBlanket_13 (by decide) rfl ?_
      refine r_iconst X (v := 1) dL_takeBlanket_15 (by decide) ?_
      cases E
      exact r_ret (r_iret X hr dL_takeBlanket_16 (by decide) (by decide))
    rw [if_neg c10] at E
    by_cases c12 : w7 = "java/lang/IllegalStateException"
    · rw [if_pos c12] at E
      subst c12
      refine r_catch X hl0 ht (ci := 8) dL_takeBlanket_5 y_X8_takeBlanket m_L_85 rfl rfl e5 (t_x8_takeBlanket (l := l) hst (G := G) e3) rfl rfl (Nat.le_of_ble_eq_true rfl) (by decide) [(0, 10, 13, 23)] (0, 10, 17, 13) [] rfl (by decide) (by
        intro z hz
        rcases List.mem_singleton.mp hz with rfl
        · exact ⟨by decide, "java/lang/IndexOutOfBoundsException", by decide, by decide, k_L_23⟩
        ) (by decide) (by decide) k_L_13 (by decide) (fun q13 => ?_)
      refine r_astore X (L1 := [(4, .ref q13), (0, .ref b0), (1, .int b1), (2, .int b2), (3, .ref b3)]) dL_takeBlanket_17 (by decide) rfl ?_
      refine r_iconst X (v := 2) dL_takeBlanket_19 (by decide) ?_
      cases E
      exact r_ret (r_iret X hr dL_takeBlanket_20 (by decide) (by decide))
    rw [if_neg c12] at E
    cases E
theorem t_l_takeBlanket {l : Launch} (hst : l.stackTraces = false) {G : GG} {b0 : Nat} {b1 : Int32} {b2 : Int32} {b3 : Nat} {g : AH} {r : Int32} {g1 : AH} (E : l_takeBlanket b0 b1 b2 b3 g = some (r, g1)) : CtW l G yL_takeBlanket cL_takeBlanket 5 (some .int) hh_L_takeBlanket ⟨10, 3, 18, 265⟩ [.ref b0, .int b1, .int b2, .ref b3] g (some (.int r)) g1 :=
  ctW_of (L0 := [(0, .ref b0), (1, .int b1), (2, .int b2), (3, .ref b3)]) y_L_takeBlanket rfl (Nat.le_of_ble_eq_true rfl) fun M hl0 X hr ht => t_l_takeBlanket_b hst X hl0 hr ht E
set_option maxHeartbeats 4000000 in
theorem t_l_returnBlanket_b {l : Launch} (hst : l.stackTraces = false) {G : GG} {M : MC} (X : CX M G cL_returnBlanket 4 RL ⟨10, 3, 18, 264⟩) (hl0 : M.2.1 = l) (hr : (mM M).sig.returnType = (some .int)) (ht : (mC M).exceptionTable.toList = tableOf hh_L_returnBlanket) {b0 : Nat} {b1 : Int32} {b2 : Nat} {g : AH} {r : Int32} {g1 : AH} (E : l_returnBlanket b0 b1 b2 g = some (r, g1)) : WW M G 4 (RX M G (.inl (some (.int r))) g1 3 18) 0 0 g 0 [(0, .ref b0), (1, .int b1), (2, .ref b2)] [] := by
  unfold l_returnBlanket at E
  refine r_aload_n X 2 dL_returnBlanket_0 rfl rfl ?_
  refine r_iconst X (v := 0) dL_returnBlanket_1 (by decide) ?_
  refine r_aload_n X 0 dL_returnBlanket_2 rfl rfl ?_
  refine r_iload_n X 1 dL_returnBlanket_3 rfl rfl ?_
  obtain ⟨u4, e5, E⟩ := gb_some E
  obtain ⟨r1, g2, e3, E⟩ := cb_some E
  rcases r1 with v6 | w7
  · rw [Sum.elim_inl] at E
    refine r_callVX X hl0 (ci := 8) dL_returnBlanket_4 y_X8_returnBlanket m_L_88 rfl rfl e5 (t_x8_returnBlanket (l := l) hst (G := G) e3) rfl rfl (Nat.le_of_ble_eq_true rfl) (by decide) ?_
    refine r_i2l X dL_returnBlanket_7 ?_
    obtain ⟨g8, e9, E⟩ := gb_some E
    refine r_last X dL_returnBlanket_8 e9 ?_
    refine r_goto X 18 dL_returnBlanket_9 (by decide) ?_
    refine r_iconst X (v := 0) dL_returnBlanket_18 (by decide) ?_
    cases E
    exact r_ret (r_iret X hr dL_returnBlanket_19 (by decide) (by decide))
  · rw [Sum.elim_inr] at E
    by_cases c10 : w7 = "java/lang/IndexOutOfBoundsException"
    · rw [if_pos c10] at E
      subst c10
      refine r_catch X hl0 ht (ci := 8) dL_returnBlanket_4 y_X8_returnBlanket m_L_88 rfl rfl e5 (t_x8_returnBlanket (l := l) hst (G := G) e3) rfl rfl (Nat.le_of_ble_eq_true rfl) (by decide) [] (0, 9, 12, 23) [(0, 9, 15, 13)] rfl (by decide) (by intro z hz; cases hz) (by decide) (by decide) k_L_23 (by decide) (fun q11 => ?_)
      refine r_astore_n X 3 (L1 := [(3, .ref q11), (0, .ref b0), (1, .int b1), (2, .ref b2)]) dL_returnBlanket_12 rfl (by decide) rfl ?_
      refine r_iconst X (v := 1) dL_returnBlanket_13 (by decide) ?_
      cases E
      exact r_ret (r_iret X hr dL_returnBlanket_14 (by decide) (by decide))
    rw [if_neg c10] at E
    by_cases c12 : w7 = "java/lang/IllegalStateException"
    · rw [if_pos c12] at E
      subst c12
      refine r_catch X hl0 ht (ci := 8) dL_returnBlanket_4 y_X8_returnBlanket m_L_88 rfl rfl e5 (t_x8_returnBlanket (l := l) hst (G := G) e3) rfl rfl (Nat.le_of_ble_eq_true rfl) (by decide) [(0, 9, 12, 23)] (0, 9, 15, 13) [] rfl (by decide) (by
        intro z hz
        rcases List.mem_singleton.mp hz with rfl
        · exact ⟨by decide, "java/lang/IndexOutOfBoundsException", by decide, by decide, k_L_23⟩
        ) (by decide) (by decide) k_L_13 (by decide) (fun q13 => ?_)
      refine r_astore_n X 3 (L1 := [(3, .ref q13), (0, .ref b0), (1, .int b1), (2, .ref b2)]) dL_returnBlanket_15 rfl (by decide) rfl ?_
      refine r_iconst X (v := 2) dL_returnBlanket_16 (by decide) ?_
      cases E
      exact r_ret (r_iret X hr dL_returnBlanket_17 (by decide) (by decide))
    rw [if_neg c12] at E
    cases E
theorem t_l_returnBlanket {l : Launch} (hst : l.stackTraces = false) {G : GG} {b0 : Nat} {b1 : Int32} {b2 : Nat} {g : AH} {r : Int32} {g1 : AH} (E : l_returnBlanket b0 b1 b2 g = some (r, g1)) : CtW l G yL_returnBlanket cL_returnBlanket 4 (some .int) hh_L_returnBlanket ⟨10, 3, 18, 264⟩ [.ref b0, .int b1, .ref b2] g (some (.int r)) g1 :=
  ctW_of (L0 := [(0, .ref b0), (1, .int b1), (2, .ref b2)]) y_L_returnBlanket rfl (Nat.le_of_ble_eq_true rfl) fun M hl0 X hr ht => t_l_returnBlanket_b hst X hl0 hr ht E
set_option maxHeartbeats 4000000 in
theorem t_l_swapBlankets_b {l : Launch} (hst : l.stackTraces = false) {G : GG} {M : MC} (X : CX M G cL_swapBlankets 5 RL ⟨10, 3, 18, 265⟩) (hl0 : M.2.1 = l) (hr : (mM M).sig.returnType = (some .int)) (ht : (mC M).exceptionTable.toList = tableOf hh_L_swapBlankets) {b0 : Nat} {b1 : Int32} {b2 : Int32} {b3 : Nat} {g : AH} {r : Int32} {g1 : AH} (E : l_swapBlankets b0 b1 b2 b3 g = some (r, g1)) : WW M G 5 (RX M G (.inl (some (.int r))) g1 3 18) 0 0 g 0 [(0, .ref b0), (1, .int b1), (2, .int b2), (3, .ref b3)] [] := by
  unfold l_swapBlankets at E
  refine r_aload_n X 3 dL_swapBlankets_0 rfl rfl ?_
  refine r_iconst X (v := 0) dL_swapBlankets_1 (by decide) ?_
  refine r_aload_n X 0 dL_swapBlankets_2 rfl rfl ?_
  refine r_iload_n X 1 dL_swapBlankets_3 rfl rfl ?_
  refine r_iload_n X 2 dL_swapBlankets_4 rfl rfl ?_
  obtain ⟨u4, e5, E⟩ := gb_some E
  obtain ⟨r1, g2, e3, E⟩ := cb_some E
  rcases r1 with v6 | w7
  · rw [Sum.elim_inl] at E
    refine r_callVX X hl0 (ci := 8) dL_swapBlankets_5 y_X8_swapBlankets m_L_91 rfl rfl e5 (t_x8_swapBlankets (l := l) hst (G := G) e3) rfl rfl (Nat.le_of_ble_eq_true rfl) (by decide) ?_
    refine r_i2l X dL_swapBlankets_8 ?_
    obtain ⟨g8, e9, E⟩ := gb_some E
    refine r_last X dL_swapBlankets_9 e9 ?_
    refine r_goto X 21 dL_swapBlankets_10 (by decide) ?_
    refine r_iconst X (v := 0) dL_swapBlankets_21 (by decide) ?_
    cases E
    exact r_ret (r_iret X hr dL_swapBlankets_22 (by decide) (by decide))
  · rw [Sum.elim_inr] at E
    by_cases c10 : w7 = "java/lang/IndexOutOfBoundsException"
    · rw [if_pos c10] at E
      subst c10
      refine r_catch X hl0 ht (ci := 8) dL_swapBlankets_5 y_X8_swapBlankets m_L_91 rfl rfl e5 (t_x8_swapBlankets (l := l) hst (G := G) e3) rfl rfl (Nat.le_of_ble_eq_true rfl) (by decide) [] (0, 10, 13, 23) [(0, 10, 17, 13)] rfl (by decide) (by intro z hz; cases hz) (by decide) (by decide) k_L_23 (by decide) (fun q11 => ?_)
      refine r_astore X (L1 := [(4, .ref q11), (0, .ref b0), (1, .int b1), (2, .int b2), (3, .ref b3)]) dL_swapBlankets_13 (by decide) rfl ?_
      refine r_iconst X (v := 1) dL_swapBlankets_15 (by decide) ?_
      cases E
      exact r_ret (r_iret X hr dL_swapBlankets_16 (by decide) (by decide))
    rw [if_neg c10] at E
    by_cases c12 : w7 = "java/lang/IllegalStateException"
    · rw [if_pos c12] at E
      subst c12
      refine r_catch X hl0 ht (ci := 8) dL_swapBlankets_5 y_X8_swapBlankets m_L_91 rfl rfl e5 (t_x8_swapBlankets (l := l) hst (G := G) e3) rfl rfl (Nat.le_of_ble_eq_true rfl) (by decide) [(0, 10, 13, 23)] (0, 10, 17, 13) [] rfl (by decide) (by
        intro z hz
        rcases List.mem_singleton.mp hz with rfl
        · exact ⟨by decide, "java/lang/IndexOutOfBoundsException", by decide, by decide, k_L_23⟩
        ) (by decide) (by decide) k_L_13 (by decide) (fun q13 => ?_)
      refine r_astore X (L1 := [(4, .ref q13), (0, .ref b0), (1, .int b1), (2, .int b2), (3, .ref b3)]) dL_swapBlankets_17 (by decide) rfl ?_
      refine r_iconst X (v := 2) dL_swapBlankets_19 (by decide) ?_
      cases E
      exact r_ret (r_iret X hr dL_swapBlankets_20 (by decide) (by decide))
    rw [if_neg c12] at E
    cases E
theorem t_l_swapBlankets {l : Launch} (hst : l.stackTraces = false) {G : GG} {b0 : Nat} {b1 : Int32} {b2 : Int32} {b3 : Nat} {g : AH} {r : Int32} {g1 : AH} (E : l_swapBlankets b0 b1 b2 b3 g = some (r, g1)) : CtW l G yL_swapBlankets cL_swapBlankets 5 (some .int) hh_L_swapBlankets ⟨10, 3, 18, 265⟩ [.ref b0, .int b1, .int b2, .ref b3] g (some (.int r)) g1 :=
  ctW_of (L0 := [(0, .ref b0), (1, .int b1), (2, .int b2), (3, .ref b3)]) y_L_swapBlankets rfl (Nat.le_of_ble_eq_true rfl) fun M hl0 X hr ht => t_l_swapBlankets_b hst X hl0 hr ht E
set_option maxHeartbeats 4000000 in
theorem t_l_lieDown_b {l : Launch} (hst : l.stackTraces = false) {G : GG} {M : MC} (X : CX M G cL_lieDown 5 RL ⟨10, 3, 18, 265⟩) (hl0 : M.2.1 = l) (hr : (mM M).sig.returnType = (some .int)) (ht : (mC M).exceptionTable.toList = tableOf hh_L_lieDown) {b0 : Nat} {b1 : Int32} {b2 : Int32} {b3 : Nat} {g : AH} {r : Int32} {g1 : AH} (E : l_lieDown b0 b1 b2 b3 g = some (r, g1)) : WW M G 5 (RX M G (.inl (some (.int r))) g1 3 18) 0 0 g 0 [(0, .ref b0), (1, .int b1), (2, .int b2), (3, .ref b3)] [] := by
  unfold l_lieDown at E
  refine r_aload_n X 3 dL_lieDown_0 rfl rfl ?_
  refine r_iconst X (v := 0) dL_lieDown_1 (by decide) ?_
  refine r_aload_n X 0 dL_lieDown_2 rfl rfl ?_
  refine r_iload_n X 1 dL_lieDown_3 rfl rfl ?_
  refine r_iload_n X 2 dL_lieDown_4 rfl rfl ?_
  obtain ⟨u4, e5, E⟩ := gb_some E
  obtain ⟨r1, g2, e3, E⟩ := cb_some E
  rcases r1 with v6 | w7
  · rw [Sum.elim_inl] at E
    refine r_callVX X hl0 (ci := 8) dL_lieDown_5 y_X8_lieDown m_L_94 rfl rfl e5 (t_x8_lieDown (l := l) hst (G := G) e3) rfl rfl (Nat.le_of_ble_eq_true rfl) (by decide) ?_
    refine r_i2l X dL_lieDown_8 ?_
    obtain ⟨g8, e9, E⟩ := gb_some E
    refine r_last X dL_lieDown_9 e9 ?_
    refine r_goto X 21 dL_lieDown_10 (by decide) ?_
    refine r_iconst X (v := 0) dL_lieDown_21 (by decide) ?_
    cases E
    exact r_ret (r_iret X hr dL_lieDown_22 (by decide) (by decide))
  · rw [Sum.elim_inr] at E
    by_cases c10 : w7 = "java/lang/IndexOutOfBoundsException"
    · rw [if_pos c10] at E
      subst c10
      refine r_catch X hl0 ht (ci := 8) dL_lieDown_5 y_X8_lieDown m_L_94 rfl rfl e5 (t_x8_lieDown (l := l) hst (G := G) e3) rfl rfl (Nat.le_of_ble_eq_true rfl) (by decide) [] (0, 10, 13, 23) [(0, 10, 17, 13)] rfl (by decide) (by intro z hz; cases hz) (by decide) (by decide) k_L_23 (by decide) (fun q11 => ?_)
      refine r_astore X (L1 := [(4, .ref q11), (0, .ref b0), (1, .int b1), (2, .int b2), (3, .ref b3)]) dL_lieDown_13 (by decide) rfl ?_
      refine r_iconst X (v := 1) dL_lieDown_15 (by decide) ?_
      cases E
      exact r_ret (r_iret X hr dL_lieDown_16 (by decide) (by decide))
    rw [if_neg c10] at E
    by_cases c12 : w7 = "java/lang/IllegalStateException"
    · rw [if_pos c12] at E
      subst c12
      refine r_catch X hl0 ht (ci := 8) dL_lieDown_5 y_X8_lieDown m_L_94 rfl rfl e5 (t_x8_lieDown (l := l) hst (G := G) e3) rfl rfl (Nat.le_of_ble_eq_true rfl) (by decide) [(0, 10, 13, 23)] (0, 10, 17, 13) [] rfl (by decide) (by
        intro z hz
        rcases List.mem_singleton.mp hz with rfl
        · exact ⟨by decide, "java/lang/IndexOutOfBoundsException", by decide, by decide, k_L_23⟩
        ) (by decide) (by decide) k_L_13 (by decide) (fun q13 => ?_)
      refine r_astore X (L1 := [(4, .ref q13), (0, .ref b0), (1, .int b1), (2, .int b2), (3, .ref b3)]) dL_lieDown_17 (by decide) rfl ?_
      refine r_iconst X (v := 2) dL_lieDown_19 (by decide) ?_
      cases E
      exact r_ret (r_iret X hr dL_lieDown_20 (by decide) (by decide))
    rw [if_neg c12] at E
    cases E
theorem t_l_lieDown {l : Launch} (hst : l.stackTraces = false) {G : GG} {b0 : Nat} {b1 : Int32} {b2 : Int32} {b3 : Nat} {g : AH} {r : Int32} {g1 : AH} (E : l_lieDown b0 b1 b2 b3 g = some (r, g1)) : CtW l G yL_lieDown cL_lieDown 5 (some .int) hh_L_lieDown ⟨10, 3, 18, 265⟩ [.ref b0, .int b1, .int b2, .ref b3] g (some (.int r)) g1 :=
  ctW_of (L0 := [(0, .ref b0), (1, .int b1), (2, .int b2), (3, .ref b3)]) y_L_lieDown rfl (Nat.le_of_ble_eq_true rfl) fun M hl0 X hr ht => t_l_lieDown_b hst X hl0 hr ht E
set_option maxHeartbeats 4000000 in
theorem t_l_getUp_b {l : Launch} (hst : l.stackTraces = false) {G : GG} {M : MC} (X : CX M G cL_getUp 4 RL ⟨10, 3, 18, 264⟩) (hl0 : M.2.1 = l) (hr : (mM M).sig.returnType = (some .int)) (ht : (mC M).exceptionTable.toList = tableOf hh_L_getUp) {b0 : Nat} {b1 : Int32} {b2 : Nat} {g : AH} {r : Int32} {g1 : AH} (E : l_getUp b0 b1 b2 g = some (r, g1)) : WW M G 4 (RX M G (.inl (some (.int r))) g1 3 18) 0 0 g 0 [(0, .ref b0), (1, .int b1), (2, .ref b2)] [] := by
  unfold l_getUp at E
  refine r_aload_n X 2 dL_getUp_0 rfl rfl ?_
  refine r_iconst X (v := 0) dL_getUp_1 (by decide) ?_
  refine r_aload_n X 0 dL_getUp_2 rfl rfl ?_
  refine r_iload_n X 1 dL_getUp_3 rfl rfl ?_
  obtain ⟨u4, e5, E⟩ := gb_some E
  obtain ⟨r1, g2, e3, E⟩ := cb_some E
  rcases r1 with v6 | w7
  · rw [Sum.elim_inl] at E
    refine r_callVX X hl0 (ci := 8) dL_getUp_4 y_X8_getUp m_L_97 rfl rfl e5 (t_x8_getUp (l := l) hst (G := G) e3) rfl rfl (Nat.le_of_ble_eq_true rfl) (by decide) ?_
    refine r_i2l X dL_getUp_7 ?_
    obtain ⟨g8, e9, E⟩ := gb_some E
    refine r_last X dL_getUp_8 e9 ?_
    refine r_goto X 18 dL_getUp_9 (by decide) ?_
    refine r_iconst X (v := 0) dL_getUp_18 (by decide) ?_
    cases E
    exact r_ret (r_iret X hr dL_getUp_19 (by decide) (by decide))
  · rw [Sum.elim_inr] at E
    by_cases c10 : w7 = "java/lang/IndexOutOfBoundsException"
    · rw [if_pos c10] at E
      subst c10
      refine r_catch X hl0 ht (ci := 8) dL_getUp_4 y_X8_getUp m_L_97 rfl rfl e5 (t_x8_getUp (l := l) hst (G := G) e3) rfl rfl (Nat.le_of_ble_eq_true rfl) (by decide) [] (0, 9, 12, 23) [(0, 9, 15, 13)] rfl (by decide) (by intro z hz; cases hz) (by decide) (by decide) k_L_23 (by decide) (fun q11 => ?_)
      refine r_astore_n X 3 (L1 := [(3, .ref q11), (0, .ref b0), (1, .int b1), (2, .ref b2)]) dL_getUp_12 rfl (by decide) rfl ?_
      refine r_iconst X (v := 1) dL_getUp_13 (by decide) ?_
      cases E
      exact r_ret (r_iret X hr dL_getUp_14 (by decide) (by decide))
    rw [if_neg c10] at E
    by_cases c12 : w7 = "java/lang/IllegalStateException"
    · rw [if_pos c12] at E
      subst c12
      refine r_catch X hl0 ht (ci := 8) dL_getUp_4 y_X8_getUp m_L_97 rfl rfl e5 (t_x8_getUp (l := l) hst (G := G) e3) rfl rfl (Nat.le_of_ble_eq_true rfl) (by decide) [(0, 9, 12, 23)] (0, 9, 15, 13) [] rfl (by decide) (by
        intro z hz
        rcases List.mem_singleton.mp hz with rfl
        · exact ⟨by decide, "java/lang/IndexOutOfBoundsException", by decide, by decide, k_L_23⟩
        ) (by decide) (by decide) k_L_13 (by decide) (fun q13 => ?_)
      refine r_astore_n X 3 (L1 := [(3, .ref q13), (0, .ref b0), (1, .int b1), (2, .ref b2)]) dL_getUp_15 rfl (by decide) rfl ?_
      refine r_iconst X (v := 2) dL_getUp_16 (by decide) ?_
      cases E
      exact r_ret (r_iret X hr dL_getUp_17 (by decide) (by decide))
    rw [if_neg c12] at E
    cases E
theorem t_l_getUp {l : Launch} (hst : l.stackTraces = false) {G : GG} {b0 : Nat} {b1 : Int32} {b2 : Nat} {g : AH} {r : Int32} {g1 : AH} (E : l_getUp b0 b1 b2 g = some (r, g1)) : CtW l G yL_getUp cL_getUp 4 (some .int) hh_L_getUp ⟨10, 3, 18, 264⟩ [.ref b0, .int b1, .ref b2] g (some (.int r)) g1 :=
  ctW_of (L0 := [(0, .ref b0), (1, .int b1), (2, .ref b2)]) y_L_getUp rfl (Nat.le_of_ble_eq_true rfl) fun M hl0 X hr ht => t_l_getUp_b hst X hl0 hr ht E
set_option maxHeartbeats 4000000 in
theorem t_l_setRate_b {l : Launch} (hst : l.stackTraces = false) {G : GG} {M : MC} (X : CX M G cL_setRate 4 RL ⟨10, 3, 18, 264⟩) (hl0 : M.2.1 = l) (hr : (mM M).sig.returnType = (some .int)) (ht : (mC M).exceptionTable.toList = tableOf hh_L_setRate) {b0 : Nat} {b1 : Int32} {b2 : Nat} {g : AH} {r : Int32} {g1 : AH} (E : l_setRate b0 b1 b2 g = some (r, g1)) : WW M G 4 (RX M G (.inl (some (.int r))) g1 3 18) 0 0 g 0 [(0, .ref b0), (1, .int b1), (2, .ref b2)] [] := by
  unfold l_setRate at E
  refine r_aload_n X 2 dL_setRate_0 rfl rfl ?_
  refine r_iconst X (v := 0) dL_setRate_1 (by decide) ?_
  refine r_aload_n X 0 dL_setRate_2 rfl rfl ?_
  refine r_iload_n X 1 dL_setRate_3 rfl rfl ?_
  obtain ⟨u4, e5, E⟩ := gb_some E
  obtain ⟨r1, g2, e3, E⟩ := cb_some E
  rcases r1 with v6 | w7
  · rw [Sum.elim_inl] at E
    refine r_callVX X hl0 (ci := 8) dL_setRate_4 y_X8_setRate m_L_100 rfl rfl e5 (t_x8_setRate (l := l) hst (G := G) e3) rfl rfl (Nat.le_of_ble_eq_true rfl) (by decide) ?_
    refine r_i2l X dL_setRate_7 ?_
    obtain ⟨g8, e9, E⟩ := gb_some E
    refine r_last X dL_setRate_8 e9 ?_
    refine r_goto X 15 dL_setRate_9 (by decide) ?_
    refine r_iconst X (v := 0) dL_setRate_15 (by decide) ?_
    cases E
    exact r_ret (r_iret X hr dL_setRate_16 (by decide) (by decide))
  · rw [Sum.elim_inr] at E
    by_cases c10 : w7 = "java/lang/IllegalArgumentException"
    · rw [if_pos c10] at E
      subst c10
      refine r_catch X hl0 ht (ci := 8) dL_setRate_4 y_X8_setRate m_L_100 rfl rfl e5 (t_x8_setRate (l := l) hst (G := G) e3) rfl rfl (Nat.le_of_ble_eq_true rfl) (by decide) [] (0, 9, 12, 18) [] rfl (by decide) (by intro z hz; cases hz) (by decide) (by decide) k_L_18 (by decide) (fun q11 => ?_)
      refine r_astore_n X 3 (L1 := [(3, .ref q11), (0, .ref b0), (1, .int b1), (2, .ref b2)]) dL_setRate_12 rfl (by decide) rfl ?_
      refine r_iconst X (v := 1) dL_setRate_13 (by decide) ?_
      cases E
      exact r_ret (r_iret X hr dL_setRate_14 (by decide) (by decide))
    rw [if_neg c10] at E
    cases E
theorem t_l_setRate {l : Launch} (hst : l.stackTraces = false) {G : GG} {b0 : Nat} {b1 : Int32} {b2 : Nat} {g : AH} {r : Int32} {g1 : AH} (E : l_setRate b0 b1 b2 g = some (r, g1)) : CtW l G yL_setRate cL_setRate 4 (some .int) hh_L_setRate ⟨10, 3, 18, 264⟩ [.ref b0, .int b1, .ref b2] g (some (.int r)) g1 :=
  ctW_of (L0 := [(0, .ref b0), (1, .int b1), (2, .ref b2)]) y_L_setRate rfl (Nat.le_of_ble_eq_true rfl) fun M hl0 X hr ht => t_l_setRate_b hst X hl0 hr ht E
set_option maxHeartbeats 4000000 in
theorem t_l_fetchLogs_b {l : Launch} (hst : l.stackTraces = false) {G : GG} {M : MC} (X : CX M G cL_fetchLogs 4 RL ⟨10, 3, 18, 264⟩) (hl0 : M.2.1 = l) (hr : (mM M).sig.returnType = (some .int)) (ht : (mC M).exceptionTable.toList = tableOf hh_L_fetchLogs) {b0 : Nat} {b1 : Int32} {b2 : Nat} {g : AH} {r : Int32} {g1 : AH} (E : l_fetchLogs b0 b1 b2 g = some (r, g1)) : WW M G 4 (RX M G (.inl (some (.int r))) g1 3 18) 0 0 g 0 [(0, .ref b0), (1, .int b1), (2, .ref b2)] [] := by
  unfold l_fetchLogs at E
  refine r_aload_n X 2 dL_fetchLogs_0 rfl rfl ?_
  refine r_iconst X (v := 0) dL_fetchLogs_1 (by decide) ?_
  refine r_aload_n X 0 dL_fetchLogs_2 rfl rfl ?_
  refine r_iload_n X 1 dL_fetchLogs_3 rfl rfl ?_
  obtain ⟨u4, e5, E⟩ := gb_some E
  obtain ⟨r1, g2, e3, E⟩ := cb_some E
  rcases r1 with v6 | w7
  · rw [Sum.elim_inl] at E
    refine r_callVX X hl0 (ci := 8) dL_fetchLogs_4 y_X8_fetchLogs m_L_103 rfl rfl e5 (t_x8_fetchLogs (l := l) hst (G := G) e3) rfl rfl (Nat.le_of_ble_eq_true rfl) (by decide) ?_
    refine r_i2l X dL_fetchLogs_7 ?_
    obtain ⟨g8, e9, E⟩ := gb_some E
    refine r_last X dL_fetchLogs_8 e9 ?_
    refine r_goto X 18 dL_fetchLogs_9 (by decide) ?_
    refine r_iconst X (v := 0) dL_fetchLogs_18 (by decide) ?_
    cases E
    exact r_ret (r_iret X hr dL_fetchLogs_19 (by decide) (by decide))
  · rw [Sum.elim_inr] at E
    by_cases c10 : w7 = "java/lang/IllegalArgumentException"
    · rw [if_pos c10] at E
      subst c10
      refine r_catch X hl0 ht (ci := 8) dL_fetchLogs_4 y_X8_fetchLogs m_L_103 rfl rfl e5 (t_x8_fetchLogs (l := l) hst (G := G) e3) rfl rfl (Nat.le_of_ble_eq_true rfl) (by decide) [] (0, 9, 12, 18) [(0, 9, 15, 13)] rfl (by decide) (by intro z hz; cases hz) (by decide) (by decide) k_L_18 (by decide) (fun q11 => ?_)
      refine r_astore_n X 3 (L1 := [(3, .ref q11), (0, .ref b0), (1, .int b1), (2, .ref b2)]) dL_fetchLogs_12 rfl (by decide) rfl ?_
      refine r_iconst X (v := 1) dL_fetchLogs_13 (by decide) ?_
      cases E
      exact r_ret (r_iret X hr dL_fetchLogs_14 (by decide) (by decide))
    rw [if_neg c10] at E
    by_cases c12 : w7 = "java/lang/IllegalStateException"
    · rw [if_pos c12] at E
      subst c12
      refine r_catch X hl0 ht (ci := 8) dL_fetchLogs_4 y_X8_fetchLogs m_L_103 rfl rfl e5 (t_x8_fetchLogs (l := l) hst (G := G) e3) rfl rfl (Nat.le_of_ble_eq_true rfl) (by decide) [(0, 9, 12, 18)] (0, 9, 15, 13) [] rfl (by decide) (by
        intro z hz
        rcases List.mem_singleton.mp hz with rfl
        · exact ⟨by decide, "java/lang/IllegalArgumentException", by decide, by decide, k_L_18⟩
        ) (by decide) (by decide) k_L_13 (by decide) (fun q13 => ?_)
      refine r_astore_n X 3 (L1 := [(3, .ref q13), (0, .ref b0), (1, .int b1), (2, .ref b2)]) dL_fetchLogs_15 rfl (by decide) rfl ?_
      refine r_iconst X (v := 2) dL_fetchLogs_16 (by decide) ?_
      cases E
      exact r_ret (r_iret X hr dL_fetchLogs_17 (by decide) (by decide))
    rw [if_neg c12] at E
    cases E
theorem t_l_fetchLogs {l : Launch} (hst : l.stackTraces = false) {G : GG} {b0 : Nat} {b1 : Int32} {b2 : Nat} {g : AH} {r : Int32} {g1 : AH} (E : l_fetchLogs b0 b1 b2 g = some (r, g1)) : CtW l G yL_fetchLogs cL_fetchLogs 4 (some .int) hh_L_fetchLogs ⟨10, 3, 18, 264⟩ [.ref b0, .int b1, .ref b2] g (some (.int r)) g1 :=
  ctW_of (L0 := [(0, .ref b0), (1, .int b1), (2, .ref b2)]) y_L_fetchLogs rfl (Nat.le_of_ble_eq_true rfl) fun M hl0 X hr ht => t_l_fetchLogs_b hst X hl0 hr ht E
set_option maxHeartbeats 4000000 in
theorem t_l_payDebt_b {l : Launch} (hst : l.stackTraces = false) {G : GG} {M : MC} (X : CX M G cL_payDebt 5 RL ⟨10, 3, 18, 265⟩) (hl0 : M.2.1 = l) (hr : (mM M).sig.returnType = (some .int)) (ht : (mC M).exceptionTable.toList = tableOf hh_L_payDebt) {b0 : Nat} {b1 : Int32} {b2 : Int32} {b3 : Nat} {g : AH} {r : Int32} {g1 : AH} (E : l_payDebt b0 b1 b2 b3 g = some (r, g1)) : WW M G 5 (RX M G (.inl (some (.int r))) g1 3 18) 0 0 g 0 [(0, .ref b0), (1, .int b1), (2, .int b2), (3, .ref b3)] [] := by
  unfold l_payDebt at E
  refine r_aload_n X 3 dL_payDebt_0 rfl rfl ?_
  refine r_iconst X (v := 0) dL_payDebt_1 (by decide) ?_
  refine r_aload_n X 0 dL_payDebt_2 rfl rfl ?_
  refine r_iload_n X 1 dL_payDebt_3 rfl rfl ?_
  refine r_iload_n X 2 dL_payDebt_4 rfl rfl ?_
  obtain ⟨u4, e5, E⟩ := gb_some E
  obtain ⟨r1, g2, e3, E⟩ := cb_some E
  rcases r1 with v6 | w7
  · rw [Sum.elim_inl] at E
    refine r_callVX X hl0 (ci := 8) dL_payDebt_5 y_X8_payDebt m_L_106 rfl rfl e5 (t_x8_payDebt (l := l) hst (G := G) e3) rfl rfl (Nat.le_of_ble_eq_true rfl) (by decide) ?_
    refine r_i2l X dL_payDebt_8 ?_
    obtain ⟨g8, e9, E⟩ := gb_some E
    refine r_last X dL_payDebt_9 e9 ?_
    refine r_goto X 25 dL_payDebt_10 (by decide) ?_
    refine r_iconst X (v := 0) dL_payDebt_25 (by decide) ?_
    cases E
    exact r_ret (r_iret X hr dL_payDebt_26 (by decide) (by decide))
  · rw [Sum.elim_inr] at E
    by_cases c10 : w7 = "java/lang/IndexOutOfBoundsException"
    · rw [if_pos c10] at E
      subst c10
      refine r_catch X hl0 ht (ci := 8) dL_payDebt_5 y_X8_payDebt m_L_106 rfl rfl e5 (t_x8_payDebt (l := l) hst (G := G) e3) rfl rfl (Nat.le_of_ble_eq_true rfl) (by decide) [] (0, 10, 13, 23) [(0, 10, 17, 18), (0, 10, 21, 13)] rfl (by decide) (by intro z hz; cases hz) (by decide) (by decide) k_L_23 (by decide) (fun q11 => ?_)
      refine r_astore X (L1 := [(4, .ref q11), (0, .ref b0), (1, .int b1), (2, .int b2), (3, .ref b3)]) dL_payDebt_13 (by decide) rfl ?_
      refine r_iconst X (v := 1) dL_payDebt_15 (by decide) ?_
      cases E
      exact r_ret (r_iret X hr dL_payDebt_16 (by decide) (by decide))
    rw [if_neg c10] at E
    by_cases c12 : w7 = "java/lang/IllegalArgumentException"
    · rw [if_pos c12] at E
      subst c12
      refine r_catch X hl0 ht (ci := 8) dL_payDebt_5 y_X8_payDebt m_L_106 rfl rfl e5 (t_x8_payDebt (l := l) hst (G := G) e3) rfl rfl (Nat.le_of_ble_eq_true rfl) (by decide) [(0, 10, 13, 23)] (0, 10, 17, 18) [(0, 10, 21, 13)] rfl (by decide) (by
        intro z hz
        rcases List.mem_singleton.mp hz with rfl
        · exact ⟨by decide, "java/lang/IndexOutOfBoundsException", by decide, by decide, k_L_23⟩
        ) (by decide) (by decide) k_L_18 (by decide) (fun q13 => ?_)
      refine r_astore X (L1 := [(4, .ref q13), (0, .ref b0), (1, .int b1), (2, .int b2), (3, .ref b3)]) dL_payDebt_17 (by decide) rfl ?_
      refine r_iconst X (v := 2) dL_payDebt_19 (by decide) ?_
      cases E
      exact r_ret (r_iret X hr dL_payDebt_20 (by decide) (by decide))
    rw [if_neg c12] at E
    by_cases c14 : w7 = "java/lang/IllegalStateException"
    · rw [if_pos c14] at E
      subst c14
      refine r_catch X hl0 ht (ci := 8) dL_payDebt_5 y_X8_payDebt m_L_106 rfl rfl e5 (t_x8_payDebt (l := l) hst (G := G) e3) rfl rfl (Nat.le_of_ble_eq_true rfl) (by decide) [(0, 10, 13, 23), (0, 10, 17, 18)] (0, 10, 21, 13) [] rfl (by decide) (by
        intro z hz
        rcases (by simpa using hz : z = _ ∨ z = _) with rfl | rfl
        · exact ⟨by decide, "java/lang/IndexOutOfBoundsException", by decide, by decide, k_L_23⟩
        · exact ⟨by decide, "java/lang/IllegalArgumentException", by decide, by decide, k_L_18⟩
        ) (by decide) (by decide) k_L_13 (by decide) (fun q15 => ?_)
      refine r_astore X (L1 := [(4, .ref q15), (0, .ref b0), (1, .int b1), (2, .int b2), (3, .ref b3)]) dL_payDebt_21 (by decide) rfl ?_
      refine r_iconst X (v := 3) dL_payDebt_23 (by decide) ?_
      cases E
      exact r_ret (r_iret X hr dL_payDebt_24 (by decide) (by decide))
    rw [if_neg c14] at E
    cases E
theorem t_l_payDebt {l : Launch} (hst : l.stackTraces = false) {G : GG} {b0 : Nat} {b1 : Int32} {b2 : Int32} {b3 : Nat} {g : AH} {r : Int32} {g1 : AH} (E : l_payDebt b0 b1 b2 b3 g = some (r, g1)) : CtW l G yL_payDebt cL_payDebt 5 (some .int) hh_L_payDebt ⟨10, 3, 18, 265⟩ [.ref b0, .int b1, .int b2, .ref b3] g (some (.int r)) g1 :=
  ctW_of (L0 := [(0, .ref b0), (1, .int b1), (2, .int b2), (3, .ref b3)]) y_L_payDebt rfl (Nat.le_of_ble_eq_true rfl) fun M hl0 X hr ht => t_l_payDebt_b hst X hl0 hr ht E
set_option maxHeartbeats 4000000 in
theorem t_l_passHours_b {l : Launch} (hst : l.stackTraces = false) {G : GG} {M : MC} (X : CX M G cL_passHours 4 RL ⟨10, 3, 18, 264⟩) (hl0 : M.2.1 = l) (hr : (mM M).sig.returnType = (some .int)) (ht : (mC M).exceptionTable.toList = tableOf hh_L_passHours) {b0 : Nat} {b1 : Int32} {b2 : Nat} {g : AH} {r : Int32} {g1 : AH} (E : l_passHours b0 b1 b2 g = some (r, g1)) : WW M G 4 (RX M G (.inl (some (.int r))) g1 3 18) 0 0 g 0 [(0, .ref b0), (1, .int b1), (2, .ref b2)] [] := by
  unfold l_passHours at E
  refine r_aload_n X 2 dL_passHours_0 rfl rfl ?_
  refine r_iconst X (v := 0) dL_passHours_1 (by decide) ?_
  refine r_aload_n X 0 dL_passHours_2 rfl rfl ?_
  refine r_iload_n X 1 dL_passHours_3 rfl rfl ?_
  obtain ⟨u4, e5, E⟩ := gb_some E
  obtain ⟨r1, g2, e3, E⟩ := cb_some E
  rcases r1 with v6 | w7
  · rw [Sum.elim_inl] at E
    refine r_callVX X hl0 (ci := 8) dL_passHours_4 y_X8_passHours m_L_109 rfl rfl e5 (t_x8_passHours (l := l) hst (G := G) e3) rfl rfl (Nat.le_of_ble_eq_true rfl) (by decide) ?_
    refine r_i2l X dL_passHours_7 ?_
    obtain ⟨g8, e9, E⟩ := gb_some E
    refine r_last X dL_passHours_8 e9 ?_
    refine r_goto X 18 dL_passHours_9 (by decide) ?_
    refine r_iconst X (v := 0) dL_passHours_18 (by decide) ?_
    cases E
    exact r_ret (r_iret X hr dL_passHours_19 (by decide) (by decide))
  · rw [Sum.elim_inr] at E
    by_cases c10 : w7 = "java/lang/IllegalArgumentException"
    · rw [if_pos c10] at E
      subst c10
      refine r_catch X hl0 ht (ci := 8) dL_passHours_4 y_X8_passHours m_L_109 rfl rfl e5 (t_x8_passHours (l := l) hst (G := G) e3) rfl rfl (Nat.le_of_ble_eq_true rfl) (by decide) [] (0, 9, 12, 18) [(0, 9, 15, 13)] rfl (by decide) (by intro z hz; cases hz) (by decide) (by decide) k_L_18 (by decide) (fun q11 => ?_)
      refine r_astore_n X 3 (L1 := [(3, .ref q11), (0, .ref b0), (1, .int b1), (2, .ref b2)]) dL_passHours_12 rfl (by decide) rfl ?_
      refine r_iconst X (v := 1) dL_passHours_13 (by decide) ?_
      cases E
      exact r_ret (r_iret X hr dL_passHours_14 (by decide) (by decide))
    rw [if_neg c10] at E
    by_cases c12 : w7 = "java/lang/IllegalStateException"
    · rw [if_pos c12] at E
      subst c12
      refine r_catch X hl0 ht (ci := 8) dL_passHours_4 y_X8_passHours m_L_109 rfl rfl e5 (t_x8_passHours (l := l) hst (G := G) e3) rfl rfl (Nat.le_of_ble_eq_true rfl) (by decide) [(0, 9, 12, 18)] (0, 9, 15, 13) [] rfl (by decide) (by
        intro z hz
        rcases List.mem_singleton.mp hz with rfl
        · exact ⟨by decide, "java/lang/IllegalArgumentException", by decide, by decide, k_L_18⟩
        ) (by decide) (by decide) k_L_13 (by decide) (fun q13 => ?_)
      refine r_astore_n X 3 (L1 := [(3, .ref q13), (0, .ref b0), (1, .int b1), (2, .ref b2)]) dL_passHours_15 rfl (by decide) rfl ?_
      refine r_iconst X (v := 2) dL_passHours_16 (by decide) ?_
      cases E
      exact r_ret (r_iret X hr dL_passHours_17 (by decide) (by decide))
    rw [if_neg c12] at E
    cases E
theorem t_l_passHours {l : Launch} (hst : l.stackTraces = false) {G : GG} {b0 : Nat} {b1 : Int32} {b2 : Nat} {g : AH} {r : Int32} {g1 : AH} (E : l_passHours b0 b1 b2 g = some (r, g1)) : CtW l G yL_passHours cL_passHours 4 (some .int) hh_L_passHours ⟨10, 3, 18, 264⟩ [.ref b0, .int b1, .ref b2] g (some (.int r)) g1 :=
  ctW_of (L0 := [(0, .ref b0), (1, .int b1), (2, .ref b2)]) y_L_passHours rfl (Nat.le_of_ble_eq_true rfl) fun M hl0 X hr ht => t_l_passHours_b hst X hl0 hr ht E
set_option maxHeartbeats 4000000 in
theorem t_l_undo_b {l : Launch} (hst : l.stackTraces = false) {G : GG} {M : MC} (X : CX M G cL_undo 3 RL ⟨8, 1, 6, 234⟩) (hl0 : M.2.1 = l) (hr : (mM M).sig.returnType = (some .int)) (ht : (mC M).exceptionTable.toList = tableOf hh_L_undo) {b0 : Nat} {b1 : Nat} {g : AH} {r : Int32} {g1 : AH} (E : l_undo b0 b1 g = some (r, g1)) : WW M G 3 (RX M G (.inl (some (.int r))) g1 1 6) 0 0 g 0 [(0, .ref b0), (1, .ref b1)] [] := by
  unfold l_undo at E
  refine r_aload_n X 1 dL_undo_0 rfl rfl ?_
  refine r_iconst X (v := 0) dL_undo_1 (by decide) ?_
  refine r_aload_n X 0 dL_undo_2 rfl rfl ?_
  obtain ⟨u4, e5, E⟩ := gb_some E
  obtain ⟨r1, g2, e3, E⟩ := cb_some E
  rcases r1 with v6 | w7
  · rw [Sum.elim_inl] at E
    refine r_callVX X hl0 (ci := 8) dL_undo_3 y_X8_undo m_L_112 rfl rfl e5 (t_x8_undo (l := l) hst (G := G) e3) rfl rfl (Nat.le_of_ble_eq_true rfl) (by decide) ?_
    refine r_i2l X dL_undo_6 ?_
    obtain ⟨g8, e9, E⟩ := gb_some E
    refine r_last X dL_undo_7 e9 ?_
    refine r_goto X 14 dL_undo_8 (by decide) ?_
    refine r_iconst X (v := 0) dL_undo_14 (by decide) ?_
    cases E
    exact r_ret (r_iret X hr dL_undo_15 (by decide) (by decide))
  · rw [Sum.elim_inr] at E
    by_cases c10 : w7 = "java/lang/IllegalStateException"
    · rw [if_pos c10] at E
      subst c10
      refine r_catch X hl0 ht (ci := 8) dL_undo_3 y_X8_undo m_L_112 rfl rfl e5 (t_x8_undo (l := l) hst (G := G) e3) rfl rfl (Nat.le_of_ble_eq_true rfl) (by decide) [] (0, 8, 11, 13) [] rfl (by decide) (by intro z hz; cases hz) (by decide) (by decide) k_L_13 (by decide) (fun q11 => ?_)
      refine r_astore_n X 2 (L1 := [(2, .ref q11), (0, .ref b0), (1, .ref b1)]) dL_undo_11 rfl (by decide) rfl ?_
      refine r_iconst X (v := 1) dL_undo_12 (by decide) ?_
      cases E
      exact r_ret (r_iret X hr dL_undo_13 (by decide) (by decide))
    rw [if_neg c10] at E
    cases E
theorem t_l_undo {l : Launch} (hst : l.stackTraces = false) {G : GG} {b0 : Nat} {b1 : Nat} {g : AH} {r : Int32} {g1 : AH} (E : l_undo b0 b1 g = some (r, g1)) : CtW l G yL_undo cL_undo 3 (some .int) hh_L_undo ⟨8, 1, 6, 234⟩ [.ref b0, .ref b1] g (some (.int r)) g1 :=
  ctW_of (L0 := [(0, .ref b0), (1, .ref b1)]) y_L_undo rfl (Nat.le_of_ble_eq_true rfl) fun M hl0 X hr ht => t_l_undo_b hst X hl0 hr ht E
set_option maxHeartbeats 4000000 in
theorem t_l_saveSnapshot_b {l : Launch} (hst : l.stackTraces = false) {G : GG} {M : MC} (X : CX M G cL_saveSnapshot 3 RL ⟨9, 1, 6, 241⟩) (hl0 : M.2.1 = l) (hr : (mM M).sig.returnType = (some .int)) (ht : (mC M).exceptionTable.toList = tableOf hh_L_saveSnapshot) {b0 : Nat} {b1 : Int32} {g : AH} {r : Int32} {g1 : AH} (E : l_saveSnapshot b0 b1 g = some (r, g1)) : WW M G 3 (RX M G (.inl (some (.int r))) g1 1 6) 0 0 g 0 [(0, .ref b0), (1, .int b1)] [] := by
  unfold l_saveSnapshot at E
  refine r_aload_n X 0 dL_saveSnapshot_0 rfl rfl ?_
  refine r_iload_n X 1 dL_saveSnapshot_1 rfl rfl ?_
  obtain ⟨u4, e5, E⟩ := gb_some E
  obtain ⟨r1, g2, e3, E⟩ := cb_some E
  rcases r1 with v6 | w7
  · rw [Sum.elim_inl] at E
    refine r_callVX X hl0 (ci := 8) dL_saveSnapshot_2 y_X8_saveSnapshot m_L_116 rfl rfl e5 (t_x8_saveSnapshot (l := l) hst (G := G) e3) rfl rfl (Nat.le_of_ble_eq_true rfl) (by decide) ?_
    refine r_goto X 11 dL_saveSnapshot_5 (by decide) ?_
    refine r_iconst X (v := 0) dL_saveSnapshot_11 (by decide) ?_
    cases E
    exact r_ret (r_iret X hr dL_saveSnapshot_12 (by decide) (by decide))
  · rw [Sum.elim_inr] at E
    by_cases c8 : w7 = "java/lang/IllegalArgumentException"
    · rw [if_pos c8] at E
      subst c8
      refine r_catch X hl0 ht (ci := 8) dL_saveSnapshot_2 y_X8_saveSnapshot m_L_116 rfl rfl e5 (t_x8_saveSnapshot (l := l) hst (G := G) e3) rfl rfl (Nat.le_of_ble_eq_true rfl) (by decide) [] (0, 5, 8, 18) [] rfl (by decide) (by intro z hz; cases hz) (by decide) (by decide) k_L_18 (by decide) (fun q9 => ?_)
      refine r_astore_n X 2 (L1 := [(2, .ref q9), (0, .ref b0), (1, .int b1)]) dL_saveSnapshot_8 rfl (by decide) rfl ?_
      refine r_iconst X (v := 1) dL_saveSnapshot_9 (by decide) ?_
      cases E
      exact r_ret (r_iret X hr dL_saveSnapshot_10 (by decide) (by decide))
    rw [if_neg c8] at E
    cases E
theorem t_l_saveSnapshot {l : Launch} (hst : l.stackTraces = false) {G : GG} {b0 : Nat} {b1 : Int32} {g : AH} {r : Int32} {g1 : AH} (E : l_saveSnapshot b0 b1 g = some (r, g1)) : CtW l G yL_saveSnapshot cL_saveSnapshot 3 (some .int) hh_L_saveSnapshot ⟨9, 1, 6, 241⟩ [.ref b0, .int b1] g (some (.int r)) g1 :=
  ctW_of (L0 := [(0, .ref b0), (1, .int b1)]) y_L_saveSnapshot rfl (Nat.le_of_ble_eq_true rfl) fun M hl0 X hr ht => t_l_saveSnapshot_b hst X hl0 hr ht E
set_option maxHeartbeats 4000000 in
theorem t_l_restoreSnapshot_b {l : Launch} (hst : l.stackTraces = false) {G : GG} {M : MC} (X : CX M G cL_restoreSnapshot 3 RL ⟨9, 2, 12, 241⟩) (hl0 : M.2.1 = l) (hr : (mM M).sig.returnType = (some .int)) (ht : (mC M).exceptionTable.toList = tableOf hh_L_restoreSnapshot) {b0 : Nat} {b1 : Int32} {g : AH} {r : Int32} {g1 : AH} (E : l_restoreSnapshot b0 b1 g = some (r, g1)) : WW M G 3 (RX M G (.inl (some (.int r))) g1 2 12) 0 0 g 0 [(0, .ref b0), (1, .int b1)] [] := by
  unfold l_restoreSnapshot at E
  refine r_aload_n X 0 dL_restoreSnapshot_0 rfl rfl ?_
  refine r_iload_n X 1 dL_restoreSnapshot_1 rfl rfl ?_
  obtain ⟨u4, e5, E⟩ := gb_some E
  obtain ⟨r1, g2, e3, E⟩ := cb_some E
  rcases r1 with v6 | w7
  · rw [Sum.elim_inl] at E
    refine r_callVX X hl0 (ci := 8) dL_restoreSnapshot_2 y_X8_restoreSnapshot m_L_120 rfl rfl e5 (t_x8_restoreSnapshot (l := l) hst (G := G) e3) rfl rfl (Nat.le_of_ble_eq_true rfl) (by decide) ?_
    refine r_goto X 14 dL_restoreSnapshot_5 (by decide) ?_
    refine r_iconst X (v := 0) dL_restoreSnapshot_14 (by decide) ?_
    cases E
    exact r_ret (r_iret X hr dL_restoreSnapshot_15 (by decide) (by decide))
  · rw [Sum.elim_inr] at E
    by_cases c8 : w7 = "java/lang/IllegalArgumentException"
    · rw [if_pos c8] at E
      subst c8
      refine r_catch X hl0 ht (ci := 8) dL_restoreSnapshot_2 y_X8_restoreSnapshot m_L_120 rfl rfl e5 (t_x8_restoreSnapshot (l := l) hst (G := G) e3) rfl rfl (Nat.le_of_ble_eq_true rfl) (by decide) [] (0, 5, 8, 18) [(0, 5, 11, 13)] rfl (by decide) (by intro z hz; cases hz) (by decide) (by decide) k_L_18 (by decide) (fun q9 => ?_)
      refine r_astore_n X 2 (L1 := [(2, .ref q9), (0, .ref b0), (1, .int b1)]) dL_restoreSnapshot_8 rfl (by decide) rfl ?_
      refine r_iconst X (v := 1) dL_restoreSnapshot_9 (by decide) ?_
      cases E
      exact r_ret (r_iret X hr dL_restoreSnapshot_10 (by decide) (by decide))
    rw [if_neg c8] at E
    by_cases c10 : w7 = "java/lang/IllegalStateException"
    · rw [if_pos c10] at E
      subst c10
      refine r_catch X hl0 ht (ci := 8) dL_restoreSnapshot_2 y_X8_restoreSnapshot m_L_120 rfl rfl e5 (t_x8_restoreSnapshot (l := l) hst (G := G) e3) rfl rfl (Nat.le_of_ble_eq_true rfl) (by decide) [(0, 5, 8, 18)] (0, 5, 11, 13) [] rfl (by decide) (by
        intro z hz
        rcases List.mem_singleton.mp hz with rfl
        · exact ⟨by decide, "java/lang/IllegalArgumentException", by decide, by decide, k_L_18⟩
        ) (by decide) (by decide) k_L_13 (by decide) (fun q11 => ?_)
      refine r_astore_n X 2 (L1 := [(2, .ref q11), (0, .ref b0), (1, .int b1)]) dL_restoreSnapshot_11 rfl (by decide) rfl ?_
      refine r_iconst X (v := 2) dL_restoreSnapshot_12 (by decide) ?_
      cases E
      exact r_ret (r_iret X hr dL_restoreSnapshot_13 (by decide) (by decide))
    rw [if_neg c10] at E
    cases E
theorem t_l_restoreSnapshot {l : Launch} (hst : l.stackTraces = false) {G : GG} {b0 : Nat} {b1 : Int32} {g : AH} {r : Int32} {g1 : AH} (E : l_restoreSnapshot b0 b1 g = some (r, g1)) : CtW l G yL_restoreSnapshot cL_restoreSnapshot 3 (some .int) hh_L_restoreSnapshot ⟨9, 2, 12, 241⟩ [.ref b0, .int b1] g (some (.int r)) g1 :=
  ctW_of (L0 := [(0, .ref b0), (1, .int b1)]) y_L_restoreSnapshot rfl (Nat.le_of_ble_eq_true rfl) fun M hl0 X hr ht => t_l_restoreSnapshot_b hst X hl0 hr ht E
