/-! the law's callers, by program -/
def l_truncateText (b0 : Nat) (b1 : Int32) (g : AH) : Option (Int32 × AH) :=
  gb (isO 8 g b0) fun _ => cb (x8_truncateText b0 b1 g) fun r1 g2 => Sum.elim (fun v6 =>
  some (v6, g2)) (fun w7 => if w7 = "java/lang/IllegalArgumentException" then some ((-102), g2) else none) r1
def l_appendText (b0 : Nat) (b1 : Int32) (g : AH) : Option (Int32 × AH) :=
  gb (isO 8 g b0) fun _ => cb (x8_appendText b0 b1 g) fun r1 g2 => Sum.elim (fun v6 =>
  some (v6, g2)) (fun w7 => if w7 = "java/lang/IllegalStateException" then some ((-103), g2) else none) r1
def l_back (b0 : Nat) (g : AH) : Option (Int32 × AH) :=
  gb (isO 8 g b0) fun _ => cb (x8_undo b0  g) fun r1 g2 => Sum.elim (fun v6 =>
  some (v6, g2)) (fun w7 => if w7 = "java/lang/IllegalStateException" then some ((-103), g2) else none) r1
def l_hoursOf (b0 : Nat) (b1 : Int32) (b2 : Int32) (g : AH) : Option (Int32 × AH) :=
  gb (isO 8 g b0) fun _ => cb (x8_hoursOf b0 b1 b2 g) fun r1 g2 => Sum.elim (fun v6 =>
  some (v6, g2)) (fun w7 => if w7 = "java/lang/IndexOutOfBoundsException" then some ((-101), g2) else if w7 = "java/lang/IllegalArgumentException" then some ((-102), g2) else none) r1
def l_bunkOf (b0 : Nat) (b1 : Int32) (g : AH) : Option (Int32 × AH) :=
  gb (isO 8 g b0) fun _ => cb (x8_bunkOf b0 b1 g) fun r1 g2 => Sum.elim (fun v6 =>
  some (v6, g2)) (fun w7 => if w7 = "java/lang/IndexOutOfBoundsException" then some ((-101), g2) else none) r1
def l_blanketOf (b0 : Nat) (b1 : Int32) (g : AH) : Option (Int32 × AH) :=
  gb (isO 8 g b0) fun _ => cb (x8_blanketOf b0 b1 g) fun r1 g2 => Sum.elim (fun v6 =>
  some (v6, g2)) (fun w7 => if w7 = "java/lang/IndexOutOfBoundsException" then some ((-101), g2) else none) r1
def l_warmth (b0 : Nat) (b1 : Int32) (g : AH) : Option (Int32 × AH) :=
  gb (isO 8 g b0) fun _ => cb (x8_warmth b0 b1 g) fun r1 g2 => Sum.elim (fun v6 =>
  some (v6, g2)) (fun w7 => if w7 = "java/lang/IndexOutOfBoundsException" then some ((-101), g2) else none) r1
def l_activity (b0 : Nat) (b1 : Int32) (g : AH) : Option (Int32 × AH) :=
  gb (isO 8 g b0) fun _ => cb (x8_activity b0 b1 g) fun r1 g2 => Sum.elim (fun v6 =>
  some (v6, g2)) (fun w7 => if w7 = "java/lang/IndexOutOfBoundsException" then some ((-101), g2) else none) r1
def l_coinsOf (b0 : Nat) (b1 : Int32) (g : AH) : Option (Int32 × AH) :=
  gb (isO 8 g b0) fun _ => cb (x8_coinsOf b0 b1 g) fun r1 g2 => Sum.elim (fun v6 =>
  some (v6, g2)) (fun w7 => if w7 = "java/lang/IndexOutOfBoundsException" then some ((-101), g2) else none) r1
def l_debtOf (b0 : Nat) (b1 : Int32) (g : AH) : Option (Int32 × AH) :=
  gb (isO 8 g b0) fun _ => cb (x8_debtOf b0 b1 g) fun r1 g2 => Sum.elim (fun v6 =>
  some (v6, g2)) (fun w7 => if w7 = "java/lang/IndexOutOfBoundsException" then some ((-101), g2) else none) r1
def l_hikerIn (b0 : Nat) (b1 : Int32) (g : AH) : Option (Int32 × AH) :=
  gb (isO 8 g b0) fun _ => cb (x8_hikerIn b0 b1 g) fun r1 g2 => Sum.elim (fun v6 =>
  some (v6, g2)) (fun w7 => if w7 = "java/lang/IndexOutOfBoundsException" then some ((-101), g2) else none) r1
def l_noiseIn (b0 : Nat) (b1 : Int32) (g : AH) : Option (Int32 × AH) :=
  gb (isO 8 g b0) fun _ => cb (x8_noiseIn b0 b1 g) fun r1 g2 => Sum.elim (fun v6 =>
  some (v6, g2)) (fun w7 => if w7 = "java/lang/IndexOutOfBoundsException" then some ((-101), g2) else none) r1
def l_userOf (b0 : Nat) (b1 : Int32) (g : AH) : Option (Int32 × AH) :=
  gb (isO 8 g b0) fun _ => cb (x8_userOf b0 b1 g) fun r1 g2 => Sum.elim (fun v6 =>
  some (v6, g2)) (fun w7 => if w7 = "java/lang/IndexOutOfBoundsException" then some ((-101), g2) else none) r1
def l_ranked (b0 : Nat) (b1 : Int32) (g : AH) : Option (Int32 × AH) :=
  gb (isO 8 g b0) fun _ => cb (x8_hikerAtRank b0 b1 g) fun r1 g2 => Sum.elim (fun v6 =>
  some (v6, g2)) (fun w7 => if w7 = "java/util/NoSuchElementException" then some ((-104), g2) else none) r1
def l_takeBlanket (b0 : Nat) (b1 : Int32) (b2 : Int32) (g : AH) : Option (Int32 × AH) :=
  gb (isO 8 g b0) fun _ => cb (x8_takeBlanket b0 b1 b2 g) fun r1 g2 => Sum.elim (fun v6 =>
  some (v6, g2)) (fun w7 => if w7 = "java/lang/IndexOutOfBoundsException" then some ((-101), g2) else if w7 = "java/lang/IllegalStateException" then some ((-103), g2) else none) r1
def l_returnBlanket (b0 : Nat) (b1 : Int32) (g : AH) : Option (Int32 × AH) :=
  gb (isO 8 g b0) fun _ => cb (x8_returnBlanket b0 b1 g) fun r1 g2 => Sum.elim (fun v6 =>
  some (v6, g2)) (fun w7 => if w7 = "java/lang/IndexOutOfBoundsException" then some ((-101), g2) else if w7 = "java/lang/IllegalStateException" then some ((-103), g2) else none) r1
def l_swapBlankets (b0 : Nat) (b1 : Int32) (b2 : Int32) (g : AH) : Option (Int32 × AH) :=
  gb (isO 8 g b0) fun _ => cb (x8_swapBlankets b0 b1 b2 g) fun r1 g2 => Sum.elim (fun v6 =>
  some (v6, g2)) (fun w7 => if w7 = "java/lang/IndexOutOfBoundsException" then some ((-101), g2) else if w7 = "java/lang/IllegalStateException" then some ((-103), g2) else none) r1
def l_lieDown (b0 : Nat) (b1 : Int32) (b2 : Int32) (g : AH) : Option (Int32 × AH) :=
  gb (isO 8 g b0) fun _ => cb (x8_lieDown b0 b1 b2 g) fun r1 g2 => Sum.elim (fun v6 =>
  some (v6, g2)) (fun w7 => if w7 = "java/lang/IndexOutOfBoundsException" then some ((-101), g2) else if w7 = "java/lang/IllegalStateException" then some ((-103), g2) else none) r1
def l_getUp (b0 : Nat) (b1 : Int32) (g : AH) : Option (Int32 × AH) :=
  gb (isO 8 g b0) fun _ => cb (x8_getUp b0 b1 g) fun r1 g2 => Sum.elim (fun v6 =>
  some (v6, g2)) (fun w7 => if w7 = "java/lang/IndexOutOfBoundsException" then some ((-101), g2) else if w7 = "java/lang/IllegalStateException" then some ((-103), g2) else none) r1
def l_setRate (b0 : Nat) (b1 : Int32) (g : AH) : Option (Int32 × AH) :=
  gb (isO 8 g b0) fun _ => cb (x8_setRate b0 b1 g) fun r1 g2 => Sum.elim (fun v6 =>
  some (v6, g2)) (fun w7 => if w7 = "java/lang/IllegalArgumentException" then some ((-102), g2) else none) r1
def l_fetchLogs (b0 : Nat) (b1 : Int32) (g : AH) : Option (Int32 × AH) :=
  gb (isO 8 g b0) fun _ => cb (x8_fetchLogs b0 b1 g) fun r1 g2 => Sum.elim (fun v6 =>
  some (v6, g2)) (fun w7 => if w7 = "java/lang/IllegalArgumentException" then some ((-102), g2) else if w7 = "java/lang/IllegalStateException" then some ((-103), g2) else none) r1
def l_payDebt (b0 : Nat) (b1 : Int32) (b2 : Int32) (g : AH) : Option (Int32 × AH) :=
  gb (isO 8 g b0) fun _ => cb (x8_payDebt b0 b1 b2 g) fun r1 g2 => Sum.elim (fun v6 =>
  some (v6, g2)) (fun w7 => if w7 = "java/lang/IndexOutOfBoundsException" then some ((-101), g2) else if w7 = "java/lang/IllegalArgumentException" then some ((-102), g2) else if w7 = "java/lang/IllegalStateException" then some ((-103), g2) else none) r1
def l_passHours (b0 : Nat) (b1 : Int32) (g : AH) : Option (Int32 × AH) :=
  gb (isO 8 g b0) fun _ => cb (x8_passHours b0 b1 g) fun r1 g2 => Sum.elim (fun v6 =>
  some (v6, g2)) (fun w7 => if w7 = "java/lang/IllegalArgumentException" then some ((-102), g2) else if w7 = "java/lang/IllegalStateException" then some ((-103), g2) else none) r1
set_option maxHeartbeats 4000000 in
theorem t_l_truncateText_b {l : Launch} (hst : l.stackTraces = false) {G : GG} {M : MC} (X : CX M G cL_truncateText 3 RL ⟨8, 1, 6, 221⟩) (hl0 : M.2.1 = l) (hr : (mM M).sig.returnType = (some .int)) (ht : (mC M).exceptionTable.toList = tableOf hh_L_truncateText) {b0 : Nat} {b1 : Int32} {g : AH} {r : Int32} {g1 : AH} (E : l_truncateText b0 b1 g = some (r, g1)) : WW M G 3 (RX M G (.inl (some (.int r))) g1 1 6) 0 0 g 0 [(0, .ref b0), (1, .int b1)] [] := by
  unfold l_truncateText at E
  refine r_aload_n X 0 dL_truncateText_0 rfl rfl ?_
  refine r_iload_n X 1 dL_truncateText_1 rfl rfl ?_
  obtain ⟨u4, e5, E⟩ := gb_some E
  obtain ⟨r1, g2, e3, E⟩ := cb_some E
  rcases r1 with v6 | w7
  · rw [Sum.elim_inl] at E
    refine r_callVX X hl0 (ci := 8) dL_truncateText_2 y_X8_truncateText m_L_61 rfl rfl e5 (t_x8_truncateText (l := l) hst (G := G) e3) rfl rfl (Nat.le_of_ble_eq_true rfl) (by decide) ?_
    cases E
    exact r_ret (r_iret X hr dL_truncateText_5 (by decide) (by decide))
  · rw [Sum.elim_inr] at E
    by_cases c8 : w7 = "java/lang/IllegalArgumentException"
    · rw [if_pos c8] at E
      subst c8
      refine r_catch X hl0 ht (ci := 8) dL_truncateText_2 y_X8_truncateText m_L_61 rfl rfl e5 (t_x8_truncateText (l := l) hst (G := G) e3) rfl rfl (Nat.le_of_ble_eq_true rfl) (by decide) [] (0, 5, 6, 64) [] rfl (by decide) (by intro z hz; cases hz) (by decide) (by decide) k_L_64 (by decide) (fun q9 => ?_)
      refine r_astore_n X 2 (L1 := [(2, .ref q9), (0, .ref b0), (1, .int b1)]) dL_truncateText_6 rfl (by decide) rfl ?_
      refine r_bipush X (v := (-102)) dL_truncateText_7 (by decide) ?_
      cases E
      exact r_ret (r_iret X hr dL_truncateText_9 (by decide) (by decide))
    rw [if_neg c8] at E
    cases E
theorem t_l_truncateText {l : Launch} (hst : l.stackTraces = false) {G : GG} {b0 : Nat} {b1 : Int32} {g : AH} {r : Int32} {g1 : AH} (E : l_truncateText b0 b1 g = some (r, g1)) : CtW l G yL_truncateText cL_truncateText 3 (some .int) hh_L_truncateText ⟨8, 1, 6, 221⟩ [.ref b0, .int b1] g (some (.int r)) g1 :=
  ctW_of (L0 := [(0, .ref b0), (1, .int b1)]) y_L_truncateText rfl (Nat.le_of_ble_eq_true rfl) fun M hl0 X hr ht => t_l_truncateText_b hst X hl0 hr ht E
set_option maxHeartbeats 4000000 in
theorem t_l_appendText_b {l : Launch} (hst : l.stackTraces = false) {G : GG} {M : MC} (X : CX M G cL_appendText 3 RL ⟨8, 1, 6, 221⟩) (hl0 : M.2.1 = l) (hr : (mM M).sig.returnType = (some .int)) (ht : (mC M).exceptionTable.toList = tableOf hh_L_appendText) {b0 : Nat} {b1 : Int32} {g : AH} {r : Int32} {g1 : AH} (E : l_appendText b0 b1 g = some (r, g1)) : WW M G 3 (RX M G (.inl (some (.int r))) g1 1 6) 0 0 g 0 [(0, .ref b0), (1, .int b1)] [] := by
  unfold l_appendText at E
  refine r_aload_n X 0 dL_appendText_0 rfl rfl ?_
  refine r_iload_n X 1 dL_appendText_1 rfl rfl ?_
  obtain ⟨u4, e5, E⟩ := gb_some E
  obtain ⟨r1, g2, e3, E⟩ := cb_some E
  rcases r1 with v6 | w7
  · rw [Sum.elim_inl] at E
    refine r_callVX X hl0 (ci := 8) dL_appendText_2 y_X8_appendText m_L_55 rfl rfl e5 (t_x8_appendText (l := l) hst (G := G) e3) rfl rfl (Nat.le_of_ble_eq_true rfl) (by decide) ?_
    cases E
    exact r_ret (r_iret X hr dL_appendText_5 (by decide) (by decide))
  · rw [Sum.elim_inr] at E
    by_cases c8 : w7 = "java/lang/IllegalStateException"
    · rw [if_pos c8] at E
      subst c8
      refine r_catch X hl0 ht (ci := 8) dL_appendText_2 y_X8_appendText m_L_55 rfl rfl e5 (t_x8_appendText (l := l) hst (G := G) e3) rfl rfl (Nat.le_of_ble_eq_true rfl) (by decide) [] (0, 5, 6, 59) [] rfl (by decide) (by intro z hz; cases hz) (by decide) (by decide) k_L_59 (by decide) (fun q9 => ?_)
      refine r_astore_n X 2 (L1 := [(2, .ref q9), (0, .ref b0), (1, .int b1)]) dL_appendText_6 rfl (by decide) rfl ?_
      refine r_bipush X (v := (-103)) dL_appendText_7 (by decide) ?_
      cases E
      exact r_ret (r_iret X hr dL_appendText_9 (by decide) (by decide))
    rw [if_neg c8] at E
    cases E
theorem t_l_appendText {l : Launch} (hst : l.stackTraces = false) {G : GG} {b0 : Nat} {b1 : Int32} {g : AH} {r : Int32} {g1 : AH} (E : l_appendText b0 b1 g = some (r, g1)) : CtW l G yL_appendText cL_appendText 3 (some .int) hh_L_appendText ⟨8, 1, 6, 221⟩ [.ref b0, .int b1] g (some (.int r)) g1 :=
  ctW_of (L0 := [(0, .ref b0), (1, .int b1)]) y_L_appendText rfl (Nat.le_of_ble_eq_true rfl) fun M hl0 X hr ht => t_l_appendText_b hst X hl0 hr ht E
set_option maxHeartbeats 4000000 in
theorem t_l_back_b {l : Launch} (hst : l.stackTraces = false) {G : GG} {M : MC} (X : CX M G cL_back 2 RL ⟨8, 1, 6, 234⟩) (hl0 : M.2.1 = l) (hr : (mM M).sig.returnType = (some .int)) (ht : (mC M).exceptionTable.toList = tableOf hh_L_back) {b0 : Nat} {g : AH} {r : Int32} {g1 : AH} (E : l_back b0 g = some (r, g1)) : WW M G 2 (RX M G (.inl (some (.int r))) g1 1 6) 0 0 g 0 [(0, .ref b0)] [] := by
  unfold l_back at E
  refine r_aload_n X 0 dL_back_0 rfl rfl ?_
  obtain ⟨u4, e5, E⟩ := gb_some E
  obtain ⟨r1, g2, e3, E⟩ := cb_some E
  rcases r1 with v6 | w7
  · rw [Sum.elim_inl] at E
    refine r_callVX X hl0 (ci := 8) dL_back_1 y_X8_undo m_L_145 rfl rfl e5 (t_x8_undo (l := l) hst (G := G) e3) rfl rfl (Nat.le_of_ble_eq_true rfl) (by decide) ?_
    cases E
    exact r_ret (r_iret X hr dL_back_4 (by decide) (by decide))
  · rw [Sum.elim_inr] at E
    by_cases c8 : w7 = "java/lang/IllegalStateException"
    · rw [if_pos c8] at E
      subst c8
      refine r_catch X hl0 ht (ci := 8) dL_back_1 y_X8_undo m_L_145 rfl rfl e5 (t_x8_undo (l := l) hst (G := G) e3) rfl rfl (Nat.le_of_ble_eq_true rfl) (by decide) [] (0, 4, 5, 59) [] rfl (by decide) (by intro z hz; cases hz) (by decide) (by decide) k_L_59 (by decide) (fun q9 => ?_)
      refine r_astore_n X 1 (L1 := [(1, .ref q9), (0, .ref b0)]) dL_back_5 rfl (by decide) rfl ?_
      refine r_bipush X (v := (-103)) dL_back_6 (by decide) ?_
      cases E
      exact r_ret (r_iret X hr dL_back_8 (by decide) (by decide))
    rw [if_neg c8] at E
    cases E
theorem t_l_back {l : Launch} (hst : l.stackTraces = false) {G : GG} {b0 : Nat} {g : AH} {r : Int32} {g1 : AH} (E : l_back b0 g = some (r, g1)) : CtW l G yL_back cL_back 2 (some .int) hh_L_back ⟨8, 1, 6, 234⟩ [.ref b0] g (some (.int r)) g1 :=
  ctW_of (L0 := [(0, .ref b0)]) y_L_back rfl (Nat.le_of_ble_eq_true rfl) fun M hl0 X hr ht => t_l_back_b hst X hl0 hr ht E
set_option maxHeartbeats 4000000 in
theorem t_l_hoursOf_b {l : Launch} (hst : l.stackTraces = false) {G : GG} {M : MC} (X : CX M G cL_hoursOf 4 RL ⟨9, 2, 12, 243⟩) (hl0 : M.2.1 = l) (hr : (mM M).sig.returnType = (some .int)) (ht : (mC M).exceptionTable.toList = tableOf hh_L_hoursOf) {b0 : Nat} {b1 : Int32} {b2 : Int32} {g : AH} {r : Int32} {g1 : AH} (E : l_hoursOf b0 b1 b2 g = some (r, g1)) : WW M G 4 (RX M G (.inl (some (.int r))) g1 2 12) 0 0 g 0 [(0, .ref b0), (1, .int b1), (2, .int b2)] [] := by
  unfold l_hoursOf at E
  refine r_aload_n X 0 dL_hoursOf_0 rfl rfl ?_
  refine r_iload_n X 1 dL_hoursOf_1 rfl rfl ?_
  refine r_iload_n X 2 dL_hoursOf_2 rfl rfl ?_
  obtain ⟨u4, e5, E⟩ := gb_some E
  obtain ⟨r1, g2, e3, E⟩ := cb_some E
  rcases r1 with v6 | w7
  · rw [Sum.elim_inl] at E
    refine r_callVX X hl0 (ci := 8) dL_hoursOf_3 y_X8_hoursOf m_L_89 rfl rfl e5 (t_x8_hoursOf (l := l) hst (G := G) e3) rfl rfl (Nat.le_of_ble_eq_true rfl) (by decide) ?_
    cases E
    exact r_ret (r_iret X hr dL_hoursOf_6 (by decide) (by decide))
  · rw [Sum.elim_inr] at E
    by_cases c8 : w7 = "java/lang/IndexOutOfBoundsException"
    · rw [if_pos c8] at E
      subst c8
      refine r_catch X hl0 ht (ci := 8) dL_hoursOf_3 y_X8_hoursOf m_L_89 rfl rfl e5 (t_x8_hoursOf (l := l) hst (G := G) e3) rfl rfl (Nat.le_of_ble_eq_true rfl) (by decide) [] (0, 6, 7, 69) [(0, 6, 11, 64)] rfl (by decide) (by intro z hz; cases hz) (by decide) (by decide) k_L_69 (by decide) (fun q9 => ?_)
      refine r_astore_n X 3 (L1 := [(3, .ref q9), (0, .ref b0), (1, .int b1), (2, .int b2)]) dL_hoursOf_7 rfl (by decide) rfl ?_
      refine r_bipush X (v := (-101)) dL_hoursOf_8 (by decide) ?_
      cases E
      exact r_ret (r_iret X hr dL_hoursOf_10 (by decide) (by decide))
    rw [if_neg c8] at E
    by_cases c10 : w7 = "java/lang/IllegalArgumentException"
    · rw [if_pos c10] at E
      subst c10
      refine r_catch X hl0 ht (ci := 8) dL_hoursOf_3 y_X8_hoursOf m_L_89 rfl rfl e5 (t_x8_hoursOf (l := l) hst (G := G) e3) rfl rfl (Nat.le_of_ble_eq_true rfl) (by decide) [(0, 6, 7, 69)] (0, 6, 11, 64) [] rfl (by decide) (by
        intro z hz
        rcases List.mem_singleton.mp hz with rfl
        · exact ⟨by decide, "java/lang/IndexOutOfBoundsException", by decide, by decide, k_L_69⟩
        ) (by decide) (by decide) k_L_64 (by decide) (fun q11 => ?_)
      refine r_astore_n X 3 (L1 := [(3, .ref q11), (0, .ref b0), (1, .int b1), (2, .int b2)]) dL_hoursOf_11 rfl (by decide) rfl ?_
      refine r_bipush X (v := (-102)) dL_hoursOf_12 (by decide) ?_
      cases E
      exact r_ret (r_iret X hr dL_hoursOf_14 (by decide) (by decide))
    rw [if_neg c10] at E
    cases E
theorem t_l_hoursOf {l : Launch} (hst : l.stackTraces = false) {G : GG} {b0 : Nat} {b1 : Int32} {b2 : Int32} {g : AH} {r : Int32} {g1 : AH} (E : l_hoursOf b0 b1 b2 g = some (r, g1)) : CtW l G yL_hoursOf cL_hoursOf 4 (some .int) hh_L_hoursOf ⟨9, 2, 12, 243⟩ [.ref b0, .int b1, .int b2] g (some (.int r)) g1 :=
  ctW_of (L0 := [(0, .ref b0), (1, .int b1), (2, .int b2)]) y_L_hoursOf rfl (Nat.le_of_ble_eq_true rfl) fun M hl0 X hr ht => t_l_hoursOf_b hst X hl0 hr ht E
set_option maxHeartbeats 4000000 in
theorem t_l_bunkOf_b {l : Launch} (hst : l.stackTraces = false) {G : GG} {M : MC} (X : CX M G cL_bunkOf 3 RL ⟨9, 1, 6, 242⟩) (hl0 : M.2.1 = l) (hr : (mM M).sig.returnType = (some .int)) (ht : (mC M).exceptionTable.toList = tableOf hh_L_bunkOf) {b0 : Nat} {b1 : Int32} {g : AH} {r : Int32} {g1 : AH} (E : l_bunkOf b0 b1 g = some (r, g1)) : WW M G 3 (RX M G (.inl (some (.int r))) g1 1 6) 0 0 g 0 [(0, .ref b0), (1, .int b1)] [] := by
  unfold l_bunkOf at E
  refine r_aload_n X 0 dL_bunkOf_0 rfl rfl ?_
  refine r_iload_n X 1 dL_bunkOf_1 rfl rfl ?_
  obtain ⟨u4, e5, E⟩ := gb_some E
  obtain ⟨r1, g2, e3, E⟩ := cb_some E
  rcases r1 with v6 | w7
  · rw [Sum.elim_inl] at E
    refine r_callVX X hl0 (ci := 8) dL_bunkOf_2 y_X8_bunkOf m_L_77 rfl rfl e5 (t_x8_bunkOf (l := l) hst (G := G) e3) rfl rfl (Nat.le_of_ble_eq_true rfl) (by decide) ?_
    cases E
    exact r_ret (r_iret X hr dL_bunkOf_5 (by decide) (by decide))
  · rw [Sum.elim_inr] at E
    by_cases c8 : w7 = "java/lang/IndexOutOfBoundsException"
    · rw [if_pos c8] at E
      subst c8
      refine r_catch X hl0 ht (ci := 8) dL_bunkOf_2 y_X8_bunkOf m_L_77 rfl rfl e5 (t_x8_bunkOf (l := l) hst (G := G) e3) rfl rfl (Nat.le_of_ble_eq_true rfl) (by decide) [] (0, 5, 6, 69) [] rfl (by decide) (by intro z hz; cases hz) (by decide) (by decide) k_L_69 (by decide) (fun q9 => ?_)
      refine r_astore_n X 2 (L1 := [(2, .ref q9), (0, .ref b0), (1, .int b1)]) dL_bunkOf_6 rfl (by decide) rfl ?_
      refine r_bipush X (v := (-101)) dL_bunkOf_7 (by decide) ?_
      cases E
      exact r_ret (r_iret X hr dL_bunkOf_9 (by decide) (by decide))
    rw [if_neg c8] at E
    cases E
theorem t_l_bunkOf {l : Launch} (hst : l.stackTraces = false) {G : GG} {b0 : Nat} {b1 : Int32} {g : AH} {r : Int32} {g1 : AH} (E : l_bunkOf b0 b1 g = some (r, g1)) : CtW l G yL_bunkOf cL_bunkOf 3 (some .int) hh_L_bunkOf ⟨9, 1, 6, 242⟩ [.ref b0, .int b1] g (some (.int r)) g1 :=
  ctW_of (L0 := [(0, .ref b0), (1, .int b1)]) y_L_bunkOf rfl (Nat.le_of_ble_eq_true rfl) fun M hl0 X hr ht => t_l_bunkOf_b hst X hl0 hr ht E
set_option maxHeartbeats 4000000 in
theorem t_l_blanketOf_b {l : Launch} (hst : l.stackTraces = false) {G : GG} {M : MC} (X : CX M G cL_blanketOf 3 RL ⟨9, 1, 6, 242⟩) (hl0 : M.2.1 = l) (hr : (mM M).sig.returnType = (some .int)) (ht : (mC M).exceptionTable.toList = tableOf hh_L_blanketOf) {b0 : Nat} {b1 : Int32} {g : AH} {r : Int32} {g1 : AH} (E : l_blanketOf b0 b1 g = some (r, g1)) : WW M G 3 (RX M G (.inl (some (.int r))) g1 1 6) 0 0 g 0 [(0, .ref b0), (1, .int b1)] [] := by
  unfold l_blanketOf at E
  refine r_aload_n X 0 dL_blanketOf_0 rfl rfl ?_
  refine r_iload_n X 1 dL_blanketOf_1 rfl rfl ?_
  obtain ⟨u4, e5, E⟩ := gb_some E
  obtain ⟨r1, g2, e3, E⟩ := cb_some E
  rcases r1 with v6 | w7
  · rw [Sum.elim_inl] at E
    refine r_callVX X hl0 (ci := 8) dL_blanketOf_2 y_X8_blanketOf m_L_80 rfl rfl e5 (t_x8_blanketOf (l := l) hst (G := G) e3) rfl rfl (Nat.le_of_ble_eq_true rfl) (by decide) ?_
    cases E
    exact r_ret (r_iret X hr dL_blanketOf_5 (by decide) (by decide))
  · rw [Sum.elim_inr] at E
    by_cases c8 : w7 = "java/lang/IndexOutOfBoundsException"
    · rw [if_pos c8] at E
      subst c8
      refine r_catch X hl0 ht (ci := 8) dL_blanketOf_2 y_X8_blanketOf m_L_80 rfl rfl e5 (t_x8_blanketOf (l := l) hst (G := G) e3) rfl rfl (Nat.le_of_ble_eq_true rfl) (by decide) [] (0, 5, 6, 69) [] rfl (by decide) (by intro z hz; cases hz) (by decide) (by decide) k_L_69 (by decide) (fun q9 => ?_)
      refine r_astore_n X 2 (L1 := [(2, .ref q9), (0, .ref b0), (1, .int b1)]) dL_blanketOf_6 rfl (by decide) rfl ?_
      refine r_bipush X (v := (-101)) dL_blanketOf_7 (by decide) ?_
      cases E
      exact r_ret (r_iret X hr dL_blanketOf_9 (by decide) (by decide))
    rw [if_neg c8] at E
    cases E
theorem t_l_blanketOf {l : Launch} (hst : l.stackTraces = false) {G : GG} {b0 : Nat} {b1 : Int32} {g : AH} {r : Int32} {g1 : AH} (E : l_blanketOf b0 b1 g = some (r, g1)) : CtW l G yL_blanketOf cL_blanketOf 3 (some .int) hh_L_blanketOf ⟨9, 1, 6, 242⟩ [.ref b0, .int b1] g (some (.int r)) g1 :=
  ctW_of (L0 := [(0, .ref b0), (1, .int b1)]) y_L_blanketOf rfl (Nat.le_of_ble_eq_true rfl) fun M hl0 X hr ht => t_l_blanketOf_b hst X hl0 hr ht E
set_option maxHeartbeats 4000000 in
theorem t_l_warmth_b {l : Launch} (hst : l.stackTraces = false) {G : GG} {M : MC} (X : CX M G cL_warmth 3 RL ⟨9, 1, 6, 242⟩) (hl0 : M.2.1 = l) (hr : (mM M).sig.returnType = (some .int)) (ht : (mC M).exceptionTable.toList = tableOf hh_L_warmth) {b0 : Nat} {b1 : Int32} {g : AH} {r : Int32} {g1 : AH} (E : l_warmth b0 b1 g = some (r, g1)) : WW M G 3 (RX M G (.inl (some (.int r))) g1 1 6) 0 0 g 0 [(0, .ref b0), (1, .int b1)] [] := by
  unfold l_warmth at E
  refine r_aload_n X 0 dL_warmth_0 rfl rfl ?_
  refine r_iload_n X 1 dL_warmth_1 rfl rfl ?_
  obtain ⟨u4, e5, E⟩ := gb_some E
  obtain ⟨r1, g2, e3, E⟩ := cb_some E
  rcases r1 with v6 | w7
  · rw [Sum.elim_inl] at E
    refine r_callVX X hl0 (ci := 8) dL_warmth_2 y_X8_warmth m_L_83 rfl rfl e5 (t_x8_warmth (l := l) hst (G := G) e3) rfl rfl (Nat.le_of_ble_eq_true rfl) (by decide) ?_
    cases E
    exact r_ret (r_iret X hr dL_warmth_5 (by decide) (by decide))
  · rw [Sum.elim_inr] at E
    by_cases c8 : w7 = "java/lang/IndexOutOfBoundsException"
    · rw [if_pos c8] at E
      subst c8
      refine r_catch X hl0 ht (ci := 8) dL_warmth_2 y_X8_warmth m_L_83 rfl rfl e5 (t_x8_warmth (l := l) hst (G := G) e3) rfl rfl (Nat.le_of_ble_eq_true rfl) (by decide) [] (0, 5, 6, 69) [] rfl (by decide) (by intro z hz; cases hz) (by decide) (by decide) k_L_69 (by decide) (fun q9 => ?_)
      refine r_astore_n X 2 (L1 := [(2, .ref q9), (0, .ref b0), (1, .int b1)]) dL_warmth_6 rfl (by decide) rfl ?_
      refine r_bipush X (v := (-101)) dL_warmth_7 (by decide) ?_
      cases E
      exact r_ret (r_iret X hr dL_warmth_9 (by decide) (by decide))
    rw [if_neg c8] at E
    cases E
theorem t_l_warmth {l : Launch} (hst : l.stackTraces = false) {G : GG} {b0 : Nat} {b1 : Int32} {g : AH} {r : Int32} {g1 : AH} (E : l_warmth b0 b1 g = some (r, g1)) : CtW l G yL_warmth cL_warmth 3 (some .int) hh_L_warmth ⟨9, 1, 6, 242⟩ [.ref b0, .int b1] g (some (.int r)) g1 :=
  ctW_of (L0 := [(0, .ref b0), (1, .int b1)]) y_L_warmth rfl (Nat.le_of_ble_eq_true rfl) fun M hl0 X hr ht => t_l_warmth_b hst X hl0 hr ht E
set_option maxHeartbeats 4000000 in
theorem t_l_activity_b {l : Launch} (hst : l.stackTraces = false) {G : GG} {M : MC} (X : CX M G cL_activity 3 RL ⟨9, 1, 6, 242⟩) (hl0 : M.2.1 = l) (hr : (mM M).sig.returnType = (some .int)) (ht : (mC M).exceptionTable.toList = tableOf hh_L_activity) {b0 : Nat} {b1 : Int32} {g : AH} {r : Int32} {g1 : AH} (E : l_activity b0 b1 g = some (r, g1)) : WW M G 3 (RX M G (.inl (some (.int r))) g1 1 6) 0 0 g 0 [(0, .ref b0), (1, .int b1)] [] := by
  unfold l_activity at E
  refine r_aload_n X 0 dL_activity_0 rfl rfl ?_
  refine r_iload_n X 1 dL_activity_1 rfl rfl ?_
  obtain ⟨u4, e5, E⟩ := gb_some E
  obtain ⟨r1, g2, e3, E⟩ := cb_some E
  rcases r1 with v6 | w7
  · rw [Sum.elim_inl] at E
    refine r_callVX X hl0 (ci := 8) dL_activity_2 y_X8_activity m_L_86 rfl rfl e5 (t_x8_activity (l := l) hst (G := G) e3) rfl rfl (Nat.le_of_ble_eq_true rfl) (by decide) ?_
    cases E
    exact r_ret (r_iret X hr dL_activity_5 (by decide) (by decide))
  · rw [Sum.elim_inr] at E
    by_cases c8 : w7 = "java/lang/IndexOutOfBoundsException"
    · rw [if_pos c8] at E
      subst c8
      refine r_catch X hl0 ht (ci := 8) dL_activity_2 y_X8_activity m_L_86 rfl rfl e5 (t_x8_activity (l := l) hst (G := G) e3) rfl rfl (Nat.le_of_ble_eq_true rfl) (by decide) [] (0, 5, 6, 69) [] rfl (by decide) (by intro z hz; cases hz) (by decide) (by decide) k_L_69 (by decide) (fun q9 => ?_)
      refine r_astore_n X 2 (L1 := [(2, .ref q9), (0, .ref b0), (1, .int b1)]) dL_activity_6 rfl (by decide) rfl ?_
      refine r_bipush X (v := (-101)) dL_activity_7 (by decide) ?_
      cases E
      exact r_ret (r_iret X hr dL_activity_9 (by decide) (by decide))
    rw [if_neg c8] at E
    cases E
theorem t_l_activity {l : Launch} (hst : l.stackTraces = false) {G : GG} {b0 : Nat} {b1 : Int32} {g : AH} {r : Int32} {g1 : AH} (E : l_activity b0 b1 g = some (r, g1)) : CtW l G yL_activity cL_activity 3 (some .int) hh_L_activity ⟨9, 1, 6, 242⟩ [.ref b0, .int b1] g (some (.int r)) g1 :=
  ctW_of (L0 := [(0, .ref b0), (1, .int b1)]) y_L_activity rfl (Nat.le_of_ble_eq_true rfl) fun M hl0 X hr ht => t_l_activity_b hst X hl0 hr ht E
set_option maxHeartbeats 4000000 in
theorem t_l_coinsOf_b {l : Launch} (hst : l.stackTraces = false) {G : GG} {M : MC} (X : CX M G cL_coinsOf 3 RL ⟨9, 1, 6, 242⟩) (hl0 : M.2.1 = l) (hr : (mM M).sig.returnType = (some .int)) (ht : (mC M).exceptionTable.toList = tableOf hh_L_coinsOf) {b0 : Nat} {b1 : Int32} {g : AH} {r : Int32} {g1 : AH} (E : l_coinsOf b0 b1 g = some (r, g1)) : WW M G 3 (RX M G (.inl (some (.int r))) g1 1 6) 0 0 g 0 [(0, .ref b0), (1, .int b1)] [] := by
  unfold l_coinsOf at E
  refine r_aload_n X 0 dL_coinsOf_0 rfl rfl ?_
  refine r_iload_n X 1 dL_coinsOf_1 rfl rfl ?_
  obtain ⟨u4, e5, E⟩ := gb_some E
  obtain ⟨r1, g2, e3, E⟩ := cb_some E
  rcases r1 with v6 | w7
  · rw [Sum.elim_inl] at E
    refine r_callVX X hl0 (ci := 8) dL_coinsOf_2 y_X8_coinsOf m_L_92 rfl rfl e5 (t_x8_coinsOf (l := l) hst (G := G) e3) rfl rfl (Nat.le_of_ble_eq_true rfl) (by decide) ?_
    cases E
    exact r_ret (r_iret X hr dL_coinsOf_5 (by decide) (by decide))
  · rw [Sum.elim_inr] at E
    by_cases c8 : w7 = "java/lang/IndexOutOfBoundsException"
    · rw [if_pos c8] at E
      subst c8
      refine r_catch X hl0 ht (ci := 8) dL_coinsOf_2 y_X8_coinsOf m_L_92 rfl rfl e5 (t_x8_coinsOf (l := l) hst (G := G) e3) rfl rfl (Nat.le_of_ble_eq_true rfl) (by decide) [] (0, 5, 6, 69) [] rfl (by decide) (by intro z hz; cases hz) (by decide) (by decide) k_L_69 (by decide) (fun q9 => ?_)
      refine r_astore_n X 2 (L1 := [(2, .ref q9), (0, .ref b0), (1, .int b1)]) dL_coinsOf_6 rfl (by decide) rfl ?_
      refine r_bipush X (v := (-101)) dL_coinsOf_7 (by decide) ?_
      cases E
      exact r_ret (r_iret X hr dL_coinsOf_9 (by decide) (by decide))
    rw [if_neg c8] at E
    cases E
theorem t_l_coinsOf {l : Launch} (hst : l.stackTraces = false) {G : GG} {b0 : Nat} {b1 : Int32} {g : AH} {r : Int32} {g1 : AH} (E : l_coinsOf b0 b1 g = some (r, g1)) : CtW l G yL_coinsOf cL_coinsOf 3 (some .int) hh_L_coinsOf ⟨9, 1, 6, 242⟩ [.ref b0, .int b1] g (some (.int r)) g1 :=
  ctW_of (L0 := [(0, .ref b0), (1, .int b1)]) y_L_coinsOf rfl (Nat.le_of_ble_eq_true rfl) fun M hl0 X hr ht => t_l_coinsOf_b hst X hl0 hr ht E
set_option maxHeartbeats 4000000 in
theorem t_l_debtOf_b {l : Launch} (hst : l.stackTraces = false) {G : GG} {M : MC} (X : CX M G cL_debtOf 3 RL ⟨9, 1, 6, 242⟩) (hl0 : M.2.1 = l) (hr : (mM M).sig.returnType = (some .int)) (ht : (mC M).exceptionTable.toList = tableOf hh_L_debtOf) {b0 : Nat} {b1 : Int32} {g : AH} {r : Int32} {g1 : AH} (E : l_debtOf b0 b1 g = some (r, g1)) : WW M G 3 (RX M G (.inl (some (.int r))) g1 1 6) 0 0 g 0 [(0, .ref b0), (1, .int b1)] [] := by
  unfold l_debtOf at E
  refine r_aload_n X 0 dL_debtOf_0 rfl rfl ?_
  refine r_iload_n X 1 dL_debtOf_1 rfl rfl ?_
  obtain ⟨u4, e5, E⟩ := gb_some E
  obtain ⟨r1, g2, e3, E⟩ := cb_some E
  rcases r1 with v6 | w7
  · rw [Sum.elim_inl] at E
    refine r_callVX X hl0 (ci := 8) dL_debtOf_2 y_X8_debtOf m_L_95 rfl rfl e5 (t_x8_debtOf (l := l) hst (G := G) e3) rfl rfl (Nat.le_of_ble_eq_true rfl) (by decide) ?_
    cases E
    exact r_ret (r_iret X hr dL_debtOf_5 (by decide) (by decide))
  · rw [Sum.elim_inr] at E
    by_cases c8 : w7 = "java/lang/IndexOutOfBoundsException"
    · rw [if_pos c8] at E
      subst c8
      refine r_catch X hl0 ht (ci := 8) dL_debtOf_2 y_X8_debtOf m_L_95 rfl rfl e5 (t_x8_debtOf (l := l) hst (G := G) e3) rfl rfl (Nat.le_of_ble_eq_true rfl) (by decide) [] (0, 5, 6, 69) [] rfl (by decide) (by intro z hz; cases hz) (by decide) (by decide) k_L_69 (by decide) (fun q9 => ?_)
      refine r_astore_n X 2 (L1 := [(2, .ref q9), (0, .ref b0), (1, .int b1)]) dL_debtOf_6 rfl (by decide) rfl ?_
      refine r_bipush X (v := (-101)) dL_debtOf_7 (by decide) ?_
      cases E
      exact r_ret (r_iret X hr dL_debtOf_9 (by decide) (by decide))
    rw [if_neg c8] at E
    cases E
theorem t_l_debtOf {l : Launch} (hst : l.stackTraces = false) {G : GG} {b0 : Nat} {b1 : Int32} {g : AH} {r : Int32} {g1 : AH} (E : l_debtOf b0 b1 g = some (r, g1)) : CtW l G yL_debtOf cL_debtOf 3 (some .int) hh_L_debtOf ⟨9, 1, 6, 242⟩ [.ref b0, .int b1] g (some (.int r)) g1 :=
  ctW_of (L0 := [(0, .ref b0), (1, .int b1)]) y_L_debtOf rfl (Nat.le_of_ble_eq_true rfl) fun M hl0 X hr ht => t_l_debtOf_b hst X hl0 hr ht E
set_option maxHeartbeats 4000000 in
theorem t_l_hikerIn_b {l : Launch} (hst : l.stackTraces = false) {G : GG} {M : MC} (X : CX M G cL_hikerIn 3 RL ⟨9, 1, 6, 242⟩) (hl0 : M.2.1 = l) (hr : (mM M).sig.returnType = (some .int)) (ht : (mC M).exceptionTable.toList = tableOf hh_L_hikerIn) {b0 : Nat} {b1 : Int32} {g : AH} {r : Int32} {g1 : AH} (E : l_hikerIn b0 b1 g = some (r, g1)) : WW M G 3 (RX M G (.inl (some (.int r))) g1 1 6) 0 0 g 0 [(0, .ref b0), (1, .int b1)] [] := by
  unfold l_hikerIn at E
  refine r_aload_n X 0 dL_hikerIn_0 rfl rfl ?_
  refine r_iload_n X 1 dL_hikerIn_1 rfl rfl ?_
  obtain ⟨u4, e5, E⟩ := gb_some E
  obtain ⟨r1, g2, e3, E⟩ := cb_some E
  rcases r1 with v6 | w7
  · rw [Sum.elim_inl] at E
    refine r_callVX X hl0 (ci := 8) dL_hikerIn_2 y_X8_hikerIn m_L_66 rfl rfl e5 (t_x8_hikerIn (l := l) hst (G := G) e3) rfl rfl (Nat.le_of_ble_eq_true rfl) (by decide) ?_
    cases E
    exact r_ret (r_iret X hr dL_hikerIn_5 (by decide) (by decide))
  · rw [Sum.elim_inr] at E
    by_cases c8 : w7 = "java/lang/IndexOutOfBoundsException"
    · rw [if_pos c8] at E
      subst c8
      refine r_catch X hl0 ht (ci := 8) dL_hikerIn_2 y_X8_hikerIn m_L_66 rfl rfl e5 (t_x8_hikerIn (l := l) hst (G := G) e3) rfl rfl (Nat.le_of_ble_eq_true rfl) (by decide) [] (0, 5, 6, 69) [] rfl (by decide) (by intro z hz; cases hz) (by decide) (by decide) k_L_69 (by decide) (fun q9 => ?_)
      refine r_astore_n X 2 (L1 := [(2, .ref q9), (0, .ref b0), (1, .int b1)]) dL_hikerIn_6 rfl (by decide) rfl ?_
      refine r_bipush X (v := (-101)) dL_hikerIn_7 (by decide) ?_
      cases E
      exact r_ret (r_iret X hr dL_hikerIn_9 (by decide) (by decide))
    rw [if_neg c8] at E
    cases E
theorem t_l_hikerIn {l : Launch} (hst : l.stackTraces = false) {G : GG} {b0 : Nat} {b1 : Int32} {g : AH} {r : Int32} {g1 : AH} (E : l_hikerIn b0 b1 g = some (r, g1)) : CtW l G yL_hikerIn cL_hikerIn 3 (some .int) hh_L_hikerIn ⟨9, 1, 6, 242⟩ [.ref b0, .int b1] g (some (.int r)) g1 :=
  ctW_of (L0 := [(0, .ref b0), (1, .int b1)]) y_L_hikerIn rfl (Nat.le_of_ble_eq_true rfl) fun M hl0 X hr ht => t_l_hikerIn_b hst X hl0 hr ht E
set_option maxHeartbeats 4000000 in
theorem t_l_noiseIn_b {l : Launch} (hst : l.stackTraces = false) {G : GG} {M : MC} (X : CX M G cL_noiseIn 3 RL ⟨9, 1, 6, 242⟩) (hl0 : M.2.1 = l) (hr : (mM M).sig.returnType = (some .int)) (ht : (mC M).exceptionTable.toList = tableOf hh_L_noiseIn) {b0 : Nat} {b1 : Int32} {g : AH} {r : Int32} {g1 : AH} (E : l_noiseIn b0 b1 g = some (r, g1)) : WW M G 3 (RX M G (.inl (some (.int r))) g1 1 6) 0 0 g 0 [(0, .ref b0), (1, .int b1)] [] := by
  unfold l_noiseIn at E
  refine r_aload_n X 0 dL_noiseIn_0 rfl rfl ?_
  refine r_iload_n X 1 dL_noiseIn_1 rfl rfl ?_
  obtain ⟨u4, e5, E⟩ := gb_some E
  obtain ⟨r1, g2, e3, E⟩ := cb_some E
  rcases r1 with v6 | w7
  · rw [Sum.elim_inl] at E
    refine r_callVX X hl0 (ci := 8) dL_noiseIn_2 y_X8_noiseIn m_L_71 rfl rfl e5 (t_x8_noiseIn (l := l) hst (G := G) e3) rfl rfl (Nat.le_of_ble_eq_true rfl) (by decide) ?_
    cases E
    exact r_ret (r_iret X hr dL_noiseIn_5 (by decide) (by decide))
  · rw [Sum.elim_inr] at E
    by_cases c8 : w7 = "java/lang/IndexOutOfBoundsException"
    · rw [if_pos c8] at E
      subst c8
      refine r_catch X hl0 ht (ci := 8) dL_noiseIn_2 y_X8_noiseIn m_L_71 rfl rfl e5 (t_x8_noiseIn (l := l) hst (G := G) e3) rfl rfl (Nat.le_of_ble_eq_true rfl) (by decide) [] (0, 5, 6, 69) [] rfl (by decide) (by intro z hz; cases hz) (by decide) (by decide) k_L_69 (by decide) (fun q9 => ?_)
      refine r_astore_n X 2 (L1 := [(2, .ref q9), (0, .ref b0), (1, .int b1)]) dL_noiseIn_6 rfl (by decide) rfl ?_
      refine r_bipush X (v := (-101)) dL_noiseIn_7 (by decide) ?_
      cases E
      exact r_ret (r_iret X hr dL_noiseIn_9 (by decide) (by decide))
    rw [if_neg c8] at E
    cases E
theorem t_l_noiseIn {l : Launch} (hst : l.stackTraces = false) {G : GG} {b0 : Nat} {b1 : Int32} {g : AH} {r : Int32} {g1 : AH} (E : l_noiseIn b0 b1 g = some (r, g1)) : CtW l G yL_noiseIn cL_noiseIn 3 (some .int) hh_L_noiseIn ⟨9, 1, 6, 242⟩ [.ref b0, .int b1] g (some (.int r)) g1 :=
  ctW_of (L0 := [(0, .ref b0), (1, .int b1)]) y_L_noiseIn rfl (Nat.le_of_ble_eq_true rfl) fun M hl0 X hr ht => t_l_noiseIn_b hst X hl0 hr ht E
set_option maxHeartbeats 4000000 in
theorem t_l_userOf_b {l : Launch} (hst : l.stackTraces = false) {G : GG} {M : MC} (X : CX M G cL_userOf 3 RL ⟨8, 1, 6, 221⟩) (hl0 : M.2.1 = l) (hr : (mM M).sig.returnType = (some .int)) (ht : (mC M).exceptionTable.toList = tableOf hh_L_userOf) {b0 : Nat} {b1 : Int32} {g : AH} {r : Int32} {g1 : AH} (E : l_userOf b0 b1 g = some (r, g1)) : WW M G 3 (RX M G (.inl (some (.int r))) g1 1 6) 0 0 g 0 [(0, .ref b0), (1, .int b1)] [] := by
  unfold l_userOf at E
  refine r_aload_n X 0 dL_userOf_0 rfl rfl ?_
  refine r_iload_n X 1 dL_userOf_1 rfl rfl ?_
  obtain ⟨u4, e5, E⟩ := gb_some E
  obtain ⟨r1, g2, e3, E⟩ := cb_some E
  rcases r1 with v6 | w7
  · rw [Sum.elim_inl] at E
    refine r_callVX X hl0 (ci := 8) dL_userOf_2 y_X8_userOf m_L_74 rfl rfl e5 (t_x8_userOf (l := l) hst (G := G) e3) rfl rfl (Nat.le_of_ble_eq_true rfl) (by decide) ?_
    cases E
    exact r_ret (r_iret X hr dL_userOf_5 (by decide) (by decide))
  · rw [Sum.elim_inr] at E
    by_cases c8 : w7 = "java/lang/IndexOutOfBoundsException"
    · rw [if_pos c8] at E
      subst c8
      refine r_catch X hl0 ht (ci := 8) dL_userOf_2 y_X8_userOf m_L_74 rfl rfl e5 (t_x8_userOf (l := l) hst (G := G) e3) rfl rfl (Nat.le_of_ble_eq_true rfl) (by decide) [] (0, 5, 6, 69) [] rfl (by decide) (by intro z hz; cases hz) (by decide) (by decide) k_L_69 (by decide) (fun q9 => ?_)
      refine r_astore_n X 2 (L1 := [(2, .ref q9), (0, .ref b0), (1, .int b1)]) dL_userOf_6 rfl (by decide) rfl ?_
      refine r_bipush X (v := (-101)) dL_userOf_7 (by decide) ?_
      cases E
      exact r_ret (r_iret X hr dL_userOf_9 (by decide) (by decide))
    rw [if_neg c8] at E
    cases E
theorem t_l_userOf {l : Launch} (hst : l.stackTraces = false) {G : GG} {b0 : Nat} {b1 : Int32} {g : AH} {r : Int32} {g1 : AH} (E : l_userOf b0 b1 g = some (r, g1)) : CtW l G yL_userOf cL_userOf 3 (some .int) hh_L_userOf ⟨8, 1, 6, 221⟩ [.ref b0, .int b1] g (some (.int r)) g1 :=
  ctW_of (L0 := [(0, .ref b0), (1, .int b1)]) y_L_userOf rfl (Nat.le_of_ble_eq_true rfl) fun M hl0 X hr ht => t_l_userOf_b hst X hl0 hr ht E
set_option maxHeartbeats 4000000 in
theorem t_l_ranked_b {l : Launch} (hst : l.stackTraces = false) {G : GG} {M : MC} (X : CX M G cL_ranked 3 RL ⟨8, 1, 6, 222⟩) (hl0 : M.2.1 = l) (hr : (mM M).sig.returnType = (some .int)) (ht : (mC M).exceptionTable.toList = tableOf hh_L_ranked) {b0 : Nat} {b1 : Int32} {g : AH} {r : Int32} {g1 : AH} (E : l_ranked b0 b1 g = some (r, g1)) : WW M G 3 (RX M G (.inl (some (.int r))) g1 1 6) 0 0 g 0 [(0, .ref b0), (1, .int b1)] [] := by
  unfold l_ranked at E
  refine r_aload_n X 0 dL_ranked_0 rfl rfl ?_
  refine r_iload_n X 1 dL_ranked_1 rfl rfl ?_
  obtain ⟨u4, e5, E⟩ := gb_some E
  obtain ⟨r1, g2, e3, E⟩ := cb_some E
  rcases r1 with v6 | w7
  · rw [Sum.elim_inl] at E
    refine r_callVX X hl0 (ci := 8) dL_ranked_2 y_X8_hikerAtRank m_L_140 rfl rfl e5 (t_x8_hikerAtRank (l := l) hst (G := G) e3) rfl rfl (Nat.le_of_ble_eq_true rfl) (by decide) ?_
    cases E
    exact r_ret (r_iret X hr dL_ranked_5 (by decide) (by decide))
  · rw [Sum.elim_inr] at E
    by_cases c8 : w7 = "java/util/NoSuchElementException"
    · rw [if_pos c8] at E
      subst c8
      refine r_catch X hl0 ht (ci := 8) dL_ranked_2 y_X8_hikerAtRank m_L_140 rfl rfl e5 (t_x8_hikerAtRank (l := l) hst (G := G) e3) rfl rfl (Nat.le_of_ble_eq_true rfl) (by decide) [] (0, 5, 6, 143) [] rfl (by decide) (by intro z hz; cases hz) (by decide) (by decide) k_L_143 (by decide) (fun q9 => ?_)
      refine r_astore_n X 2 (L1 := [(2, .ref q9), (0, .ref b0), (1, .int b1)]) dL_ranked_6 rfl (by decide) rfl ?_
      refine r_bipush X (v := (-104)) dL_ranked_7 (by decide) ?_
      cases E
      exact r_ret (r_iret X hr dL_ranked_9 (by decide) (by decide))
    rw [if_neg c8] at E
    cases E
theorem t_l_ranked {l : Launch} (hst : l.stackTraces = false) {G : GG} {b0 : Nat} {b1 : Int32} {g : AH} {r : Int32} {g1 : AH} (E : l_ranked b0 b1 g = some (r, g1)) : CtW l G yL_ranked cL_ranked 3 (some .int) hh_L_ranked ⟨8, 1, 6, 222⟩ [.ref b0, .int b1] g (some (.int r)) g1 :=
  ctW_of (L0 := [(0, .ref b0), (1, .int b1)]) y_L_ranked rfl (Nat.le_of_ble_eq_true rfl) fun M hl0 X hr ht => t_l_ranked_b hst X hl0 hr ht E
set_option maxHeartbeats 4000000 in
theorem t_l_takeBlanket_b {l : Launch} (hst : l.stackTraces = false) {G : GG} {M : MC} (X : CX M G cL_takeBlanket 4 RL ⟨10, 3, 18, 265⟩) (hl0 : M.2.1 = l) (hr : (mM M).sig.returnType = (some .int)) (ht : (mC M).exceptionTable.toList = tableOf hh_L_takeBlanket) {b0 : Nat} {b1 : Int32} {b2 : Int32} {g : AH} {r : Int32} {g1 : AH} (E : l_takeBlanket b0 b1 b2 g = some (r, g1)) : WW M G 4 (RX M G (.inl (some (.int r))) g1 3 18) 0 0 g 0 [(0, .ref b0), (1, .int b1), (2, .int b2)] [] := by
  unfold l_takeBlanket at E
  refine r_aload_n X 0 dL_takeBlanket_0 rfl rfl ?_
  refine r_iload_n X 1 dL_takeBlanket_1 rfl rfl ?_
  refine r_iload_n X 2 dL_takeBlanket_2 rfl rfl ?_
  obtain ⟨u4, e5, E⟩ := gb_some E
  obtain ⟨r1, g2, e3, E⟩ := cb_some E
  rcases r1 with v6 | w7
  · rw [Sum.elim_inl] at E
    refine r_callVX X hl0 (ci := 8) dL_takeBlanket_3 y_X8_takeBlanket m_L_98 rfl rfl e5 (t_x8_takeBlanket (l := l) hst (G := G) e3) rfl rfl (Nat.le_of_ble_eq_true rfl) (by decide) ?_
    cases E
    exact r_ret (r_iret X hr dL_takeBlanket_6 (by decide) (by decide))
  · rw [Sum.elim_inr] at E
    by_cases c8 : w7 = "java/lang/IndexOutOfBoundsException"
    · rw [if_pos c8] at E
      subst c8
      refine r_catch X hl0 ht (ci := 8) dL_takeBlanket_3 y_X8_takeBlanket m_L_98 rfl rfl e5 (t_x8_takeBlanket (l := l) hst (G := G) e3) rfl rfl (Nat.le_of_ble_eq_true rfl) (by decide) [] (0, 6, 7, 69) [(0, 6, 11, 59)] rfl (by decide) (by intro z hz; cases hz) (by decide) (by decide) k_L_69 (by decide) (fun q9 => ?_)
      refine r_astore_n X 3 (L1 := [(3, .ref q9), (0, .ref b0), (1, .int b1), (2, .int b2)]) dL_takeBlanket_7 rfl (by decide) rfl ?_
      refine r_bipush X (v := (-101)) dL_takeBlanket_8 (by decide) ?_
      cases E
      exact r_ret (r_iret X hr dL_takeBlanket_10 (by decide) (by decide))
    rw [if_neg c8] at E
    by_cases c10 : w7 = "java/lang/IllegalStateException"
    · rw [if_pos c10] at E
      subst c10
      refine r_catch X hl0 ht (ci := 8) dL_takeBlanket_3 y_X8_takeBlanket m_L_98 rfl rfl e5 (t_x8_takeBlanket (l := l) hst (G := G) e3) rfl rfl (Nat.le_of_ble_eq_true rfl) (by decide) [(0, 6, 7, 69)] (0, 6, 11, 59) [] rfl (by decide) (by
        intro z hz
        rcases List.mem_singleton.mp hz with rfl
        · exact ⟨by decide, "java/lang/IndexOutOfBoundsException", by decide, by decide, k_L_69⟩
        ) (by decide) (by decide) k_L_59 (by decide) (fun q11 => ?_)
      refine r_astore_n X 3 (L1 := [(3, .ref q11), (0, .ref b0), (1, .int b1), (2, .int b2)]) dL_takeBlanket_11 rfl (by decide) rfl ?_
      refine r_bipush X (v := (-103)) dL_takeBlanket_12 (by decide) ?_
      cases E
      exact r_ret (r_iret X hr dL_takeBlanket_14 (by decide) (by decide))
    rw [if_neg c10] at E
    cases E
theorem t_l_takeBlanket {l : Launch} (hst : l.stackTraces = false) {G : GG} {b0 : Nat} {b1 : Int32} {b2 : Int32} {g : AH} {r : Int32} {g1 : AH} (E : l_takeBlanket b0 b1 b2 g = some (r, g1)) : CtW l G yL_takeBlanket cL_takeBlanket 4 (some .int) hh_L_takeBlanket ⟨10, 3, 18, 265⟩ [.ref b0, .int b1, .int b2] g (some (.int r)) g1 :=
  ctW_of (L0 := [(0, .ref b0), (1, .int b1), (2, .int b2)]) y_L_takeBlanket rfl (Nat.le_of_ble_eq_true rfl) fun M hl0 X hr ht => t_l_takeBlanket_b hst X hl0 hr ht E
set_option maxHeartbeats 4000000 in
theorem t_l_returnBlanket_b {l : Launch} (hst : l.stackTraces = false) {G : GG} {M : MC} (X : CX M G cL_returnBlanket 3 RL ⟨10, 3, 18, 264⟩) (hl0 : M.2.1 = l) (hr : (mM M).sig.returnType = (some .int)) (ht : (mC M).exceptionTable.toList = tableOf hh_L_returnBlanket) {b0 : Nat} {b1 : Int32} {g : AH} {r : Int32} {g1 : AH} (E : l_returnBlanket b0 b1 g = some (r, g1)) : WW M G 3 (RX M G (.inl (some (.int r))) g1 3 18) 0 0 g 0 [(0, .ref b0), (1, .int b1)] [] := by
  unfold l_returnBlanket at E
  refine r_aload_n X 0 dL_returnBlanket_0 rfl rfl ?_
  refine r_iload_n X 1 dL_returnBlanket_1 rfl rfl ?_
  obtain ⟨u4, e5, E⟩ := gb_some E
  obtain ⟨r1, g2, e3, E⟩ := cb_some E
  rcases r1 with v6 | w7
  · rw [Sum.elim_inl] at E
    refine r_callVX X hl0 (ci := 8) dL_returnBlanket_2 y_X8_returnBlanket m_L_101 rfl rfl e5 (t_x8_returnBlanket (l := l) hst (G := G) e3) rfl rfl (Nat.le_of_ble_eq_true rfl) (by decide) ?_
    cases E
    exact r_ret (r_iret X hr dL_returnBlanket_5 (by decide) (by decide))
  · rw [Sum.elim_inr] at E
    by_cases c8 : w7 = "java/lang/IndexOutOfBoundsException"
    · rw [if_pos c8] at E
      subst c8
      refine r_catch X hl0 ht (ci := 8) dL_returnBlanket_2 y_X8_returnBlanket m_L_101 rfl rfl e5 (t_x8_returnBlanket (l := l) hst (G := G) e3) rfl rfl (Nat.le_of_ble_eq_true rfl) (by decide) [] (0, 5, 6, 69) [(0, 5, 10, 59)] rfl (by decide) (by intro z hz; cases hz) (by decide) (by decide) k_L_69 (by decide) (fun q9 => ?_)
      refine r_astore_n X 2 (L1 := [(2, .ref q9), (0, .ref b0), (1, .int b1)]) dL_returnBlanket_6 rfl (by decide) rfl ?_
      refine r_bipush X (v := (-101)) dL_returnBlanket_7 (by decide) ?_
      cases E
      exact r_ret (r_iret X hr dL_returnBlanket_9 (by decide) (by decide))
    rw [if_neg c8] at E
    by_cases c10 : w7 = "java/lang/IllegalStateException"
    · rw [if_pos c10] at E
      subst c10
      refine r_catch X hl0 ht (ci := 8) dL_returnBlanket_2 y_X8_returnBlanket m_L_101 rfl rfl e5 (t_x8_returnBlanket (l := l) hst (G := G) e3) rfl rfl (Nat.le_of_ble_eq_true rfl) (by decide) [(0, 5, 6, 69)] (0, 5, 10, 59) [] rfl (by decide) (by
        intro z hz
        rcases List.mem_singleton.mp hz with rfl
        · exact ⟨by decide, "java/lang/IndexOutOfBoundsException", by decide, by decide, k_L_69⟩
        ) (by decide) (by decide) k_L_59 (by decide) (fun q11 => ?_)
      refine r_astore_n X 2 (L1 := [(2, .ref q11), (0, .ref b0), (1, .int b1)]) dL_returnBlanket_10 rfl (by decide) rfl ?_
      refine r_bipush X (v := (-103)) dL_returnBlanket_11 (by decide) ?_
      cases E
      exact r_ret (r_iret X hr dL_returnBlanket_13 (by decide) (by decide))
    rw [if_neg c10] at E
    cases E
theorem t_l_returnBlanket {l : Launch} (hst : l.stackTraces = false) {G : GG} {b0 : Nat} {b1 : Int32} {g : AH} {r : Int32} {g1 : AH} (E : l_returnBlanket b0 b1 g = some (r, g1)) : CtW l G yL_returnBlanket cL_returnBlanket 3 (some .int) hh_L_returnBlanket ⟨10, 3, 18, 264⟩ [.ref b0, .int b1] g (some (.int r)) g1 :=
  ctW_of (L0 := [(0, .ref b0), (1, .int b1)]) y_L_returnBlanket rfl (Nat.le_of_ble_eq_true rfl) fun M hl0 X hr ht => t_l_returnBlanket_b hst X hl0 hr ht E
set_option maxHeartbeats 4000000 in
theorem t_l_swapBlankets_b {l : Launch} (hst : l.stackTraces = false) {G : GG} {M : MC} (X : CX M G cL_swapBlankets 4 RL ⟨10, 3, 18, 265⟩) (hl0 : M.2.1 = l) (hr : (mM M).sig.returnType = (some .int)) (ht : (mC M).exceptionTable.toList = tableOf hh_L_swapBlankets) {b0 : Nat} {b1 : Int32} {b2 : Int32} {g : AH} {r : Int32} {g1 : AH} (E : l_swapBlankets b0 b1 b2 g = some (r, g1)) : WW M G 4 (RX M G (.inl (some (.int r))) g1 3 18) 0 0 g 0 [(0, .ref b0), (1, .int b1), (2, .int b2)] [] := by
  unfold l_swapBlankets at E
  refine r_aload_n X 0 dL_swapBlankets_0 rfl rfl ?_
  refine r_iload_n X 1 dL_swapBlankets_1 rfl rfl ?_
  refine r_iload_n X 2 dL_swapBlankets_2 rfl rfl ?_
  obtain ⟨u4, e5, E⟩ := gb_some E
  obtain ⟨r1, g2, e3, E⟩ := cb_some E
  rcases r1 with v6 | w7
  · rw [Sum.elim_inl] at E
    refine r_callVX X hl0 (ci := 8) dL_swapBlankets_3 y_X8_swapBlankets m_L_104 rfl rfl e5 (t_x8_swapBlankets (l := l) hst (G := G) e3) rfl rfl (Nat.le_of_ble_eq_true rfl) (by decide) ?_
    cases E
    exact r_ret (r_iret X hr dL_swapBlankets_6 (by decide) (by decide))
  · rw [Sum.elim_inr] at E
    by_cases c8 : w7 = "java/lang/IndexOutOfBoundsException"
    · rw [if_pos c8] at E
      subst c8
      refine r_catch X hl0 ht (ci := 8) dL_swapBlankets_3 y_X8_swapBlankets m_L_104 rfl rfl e5 (t_x8_swapBlankets (l := l) hst (G := G) e3) rfl rfl (Nat.le_of_ble_eq_true rfl) (by decide) [] (0, 6, 7, 69) [(0, 6, 11, 59)] rfl (by decide) (by intro z hz; cases hz) (by decide) (by decide) k_L_69 (by decide) (fun q9 => ?_)
      refine r_astore_n X 3 (L1 := [(3, .ref q9), (0, .ref b0), (1, .int b1), (2, .int b2)]) dL_swapBlankets_7 rfl (by decide) rfl ?_
      refine r_bipush X (v := (-101)) dL_swapBlankets_8 (by decide) ?_
      cases E
      exact r_ret (r_iret X hr dL_swapBlankets_10 (by decide) (by decide))
    rw [if_neg c8] at E
    by_cases c10 : w7 = "java/lang/IllegalStateException"
    · rw [if_pos c10] at E
      subst c10
      refine r_catch X hl0 ht (ci := 8) dL_swapBlankets_3 y_X8_swapBlankets m_L_104 rfl rfl e5 (t_x8_swapBlankets (l := l) hst (G := G) e3) rfl rfl (Nat.le_of_ble_eq_true rfl) (by decide) [(0, 6, 7, 69)] (0, 6, 11, 59) [] rfl (by decide) (by
        intro z hz
        rcases List.mem_singleton.mp hz with rfl
        · exact ⟨by decide, "java/lang/IndexOutOfBoundsException", by decide, by decide, k_L_69⟩
        ) (by decide) (by decide) k_L_59 (by decide) (fun q11 => ?_)
      refine r_astore_n X 3 (L1 := [(3, .ref q11), (0, .ref b0), (1, .int b1), (2, .int b2)]) dL_swapBlankets_11 rfl (by decide) rfl ?_
      refine r_bipush X (v := (-103)) dL_swapBlankets_12 (by decide) ?_
      cases E
      exact r_ret (r_iret X hr dL_swapBlankets_14 (by decide) (by decide))
    rw [if_neg c10] at E
    cases E
theorem t_l_swapBlankets {l : Launch} (hst : l.stackTraces = false) {G : GG} {b0 : Nat} {b1 : Int32} {b2 : Int32} {g : AH} {r : Int32} {g1 : AH} (E : l_swapBlankets b0 b1 b2 g = some (r, g1)) : CtW l G yL_swapBlankets cL_swapBlankets 4 (some .int) hh_L_swapBlankets ⟨10, 3, 18, 265⟩ [.ref b0, .int b1, .int b2] g (some (.int r)) g1 :=
  ctW_of (L0 := [(0, .ref b0), (1, .int b1), (2, .int b2)]) y_L_swapBlankets rfl (Nat.le_of_ble_eq_true rfl) fun M hl0 X hr ht => t_l_swapBlankets_b hst X hl0 hr ht E
set_option maxHeartbeats 4000000 in
theorem t_l_lieDown_b {l : Launch} (hst : l.stackTraces = false) {G : GG} {M : MC} (X : CX M G cL_lieDown 4 RL ⟨10, 3, 18, 265⟩) (hl0 : M.2.1 = l) (hr : (mM M).sig.returnType = (some .int)) (ht : (mC M).exceptionTable.toList = tableOf hh_L_lieDown) {b0 : Nat} {b1 : Int32} {b2 : Int32} {g : AH} {r : Int32} {g1 : AH} (E : l_lieDown b0 b1 b2 g = some (r, g1)) : WW M G 4 (RX M G (.inl (some (.int r))) g1 3 18) 0 0 g 0 [(0, .ref b0), (1, .int b1), (2, .int b2)] [] := by
  unfold l_lieDown at E
  refine r_aload_n X 0 dL_lieDown_0 rfl rfl ?_
  refine r_iload_n X 1 dL_lieDown_1 rfl rfl ?_
  refine r_iload_n X 2 dL_lieDown_2 rfl rfl ?_
  obtain ⟨u4, e5, E⟩ := gb_some E
  obtain ⟨r1, g2, e3, E⟩ := cb_some E
  rcases r1 with v6 | w7
  · rw [Sum.elim_inl] at E
    refine r_callVX X hl0 (ci := 8) dL_lieDown_3 y_X8_lieDown m_L_107 rfl rfl e5 (t_x8_lieDown (l := l) hst (G := G) e3) rfl rfl (Nat.le_of_ble_eq_true rfl) (by decide) ?_
    cases E
    exact r_ret (r_iret X hr dL_lieDown_6 (by decide) (by decide))
  · rw [Sum.elim_inr] at E
    by_cases c8 : w7 = "java/lang/IndexOutOfBoundsException"
    · rw [if_pos c8] at E
      subst c8
      refine r_catch X hl0 ht (ci := 8) dL_lieDown_3 y_X8_lieDown m_L_107 rfl rfl e5 (t_x8_lieDown (l := l) hst (G := G) e3) rfl rfl (Nat.le_of_ble_eq_true rfl) (by decide) [] (0, 6, 7, 69) [(0, 6, 11, 59)] rfl (by decide) (by intro z hz; cases hz) (by decide) (by decide) k_L_69 (by decide) (fun q9 => ?_)
      refine r_astore_n X 3 (L1 := [(3, .ref q9), (0, .ref b0), (1, .int b1), (2, .int b2)]) dL_lieDown_7 rfl (by decide) rfl ?_
      refine r_bipush X (v := (-101)) dL_lieDown_8 (by decide) ?_
      cases E
      exact r_ret (r_iret X hr dL_lieDown_10 (by decide) (by decide))
    rw [if_neg c8] at E
    by_cases c10 : w7 = "java/lang/IllegalStateException"
    · rw [if_pos c10] at E
      subst c10
      refine r_catch X hl0 ht (ci := 8) dL_lieDown_3 y_X8_lieDown m_L_107 rfl rfl e5 (t_x8_lieDown (l := l) hst (G := G) e3) rfl rfl (Nat.le_of_ble_eq_true rfl) (by decide) [(0, 6, 7, 69)] (0, 6, 11, 59) [] rfl (by decide) (by
        intro z hz
        rcases List.mem_singleton.mp hz with rfl
        · exact ⟨by decide, "java/lang/IndexOutOfBoundsException", by decide, by decide, k_L_69⟩
        ) (by decide) (by decide) k_L_59 (by decide) (fun q11 => ?_)
      refine r_astore_n X 3 (L1 := [(3, .ref q11), (0, .ref b0), (1, .int b1), (2, .int b2)]) dL_lieDown_11 rfl (by decide) rfl ?_
      refine r_bipush X (v := (-103)) dL_lieDown_12 (by decide) ?_
      cases E
      exact r_ret (r_iret X hr dL_lieDown_14 (by decide) (by decide))
    rw [if_neg c10] at E
    cases E
theorem t_l_lieDown {l : Launch} (hst : l.stackTraces = false) {G : GG} {b0 : Nat} {b1 : Int32} {b2 : Int32} {g : AH} {r : Int32} {g1 : AH} (E : l_lieDown b0 b1 b2 g = some (r, g1)) : CtW l G yL_lieDown cL_lieDown 4 (some .int) hh_L_lieDown ⟨10, 3, 18, 265⟩ [.ref b0, .int b1, .int b2] g (some (.int r)) g1 :=
  ctW_of (L0 := [(0, .ref b0), (1, .int b1), (2, .int b2)]) y_L_lieDown rfl (Nat.le_of_ble_eq_true rfl) fun M hl0 X hr ht => t_l_lieDown_b hst X hl0 hr ht E
set_option maxHeartbeats 4000000 in
theorem t_l_getUp_b {l : Launch} (hst : l.stackTraces = false) {G : GG} {M : MC} (X : CX M G cL_getUp 3 RL ⟨10, 3, 18, 264⟩) (hl0 : M.2.1 = l) (hr : (mM M).sig.returnType = (some .int)) (ht : (mC M).exceptionTable.toList = tableOf hh_L_getUp) {b0 : Nat} {b1 : Int32} {g : AH} {r : Int32} {g1 : AH} (E : l_getUp b0 b1 g = some (r, g1)) : WW M G 3 (RX M G (.inl (some (.int r))) g1 3 18) 0 0 g 0 [(0, .ref b0), (1, .int b1)] [] := by
  unfold l_getUp at E
  refine r_aload_n X 0 dL_getUp_0 rfl rfl ?_
  refine r_iload_n X 1 dL_getUp_1 rfl rfl ?_
  obtain ⟨u4, e5, E⟩ := gb_some E
  obtain ⟨r1, g2, e3, E⟩ := cb_some E
  rcases r1 with v6 | w7
  · rw [Sum.elim_inl] at E
    refine r_callVX X hl0 (ci := 8) dL_getUp_2 y_X8_getUp m_L_110 rfl rfl e5 (t_x8_getUp (l := l) hst (G := G) e3) rfl rfl (Nat.le_of_ble_eq_true rfl) (by decide) ?_
    cases E
    exact r_ret (r_iret X hr dL_getUp_5 (by decide) (by decide))
  · rw [Sum.elim_inr] at E
    by_cases c8 : w7 = "java/lang/IndexOutOfBoundsException"
    · rw [if_pos c8] at E
      subst c8
      refine r_catch X hl0 ht (ci := 8) dL_getUp_2 y_X8_getUp m_L_110 rfl rfl e5 (t_x8_getUp (l := l) hst (G := G) e3) rfl rfl (Nat.le_of_ble_eq_true rfl) (by decide) [] (0, 5, 6, 69) [(0, 5, 10, 59)] rfl (by decide) (by intro z hz; cases hz) (by decide) (by decide) k_L_69 (by decide) (fun q9 => ?_)
      refine r_astore_n X 2 (L1 := [(2, .ref q9), (0, .ref b0), (1, .int b1)]) dL_getUp_6 rfl (by decide) rfl ?_
      refine r_bipush X (v := (-101)) dL_getUp_7 (by decide) ?_
      cases E
      exact r_ret (r_iret X hr dL_getUp_9 (by decide) (by decide))
    rw [if_neg c8] at E
    by_cases c10 : w7 = "java/lang/IllegalStateException"
    · rw [if_pos c10] at E
      subst c10
      refine r_catch X hl0 ht (ci := 8) dL_getUp_2 y_X8_getUp m_L_110 rfl rfl e5 (t_x8_getUp (l := l) hst (G := G) e3) rfl rfl (Nat.le_of_ble_eq_true rfl) (by decide) [(0, 5, 6, 69)] (0, 5, 10, 59) [] rfl (by decide) (by
        intro z hz
        rcases List.mem_singleton.mp hz with rfl
        · exact ⟨by decide, "java/lang/IndexOutOfBoundsException", by decide, by decide, k_L_69⟩
        ) (by decide) (by decide) k_L_59 (by decide) (fun q11 => ?_)
      refine r_astore_n X 2 (L1 := [(2, .ref q11), (0, .ref b0), (1, .int b1)]) dL_getUp_10 rfl (by decide) rfl ?_
      refine r_bipush X (v := (-103)) dL_getUp_11 (by decide) ?_
      cases E
      exact r_ret (r_iret X hr dL_getUp_13 (by decide) (by decide))
    rw [if_neg c10] at E
    cases E
theorem t_l_getUp {l : Launch} (hst : l.stackTraces = false) {G : GG} {b0 : Nat} {b1 : Int32} {g : AH} {r : Int32} {g1 : AH} (E : l_getUp b0 b1 g = some (r, g1)) : CtW l G yL_getUp cL_getUp 3 (some .int) hh_L_getUp ⟨10, 3, 18, 264⟩ [.ref b0, .int b1] g (some (.int r)) g1 :=
  ctW_of (L0 := [(0, .ref b0), (1, .int b1)]) y_L_getUp rfl (Nat.le_of_ble_eq_true rfl) fun M hl0 X hr ht => t_l_getUp_b hst X hl0 hr ht E
set_option maxHeartbeats 4000000 in
theorem t_l_setRate_b {l : Launch} (hst : l.stackTraces = false) {G : GG} {M : MC} (X : CX M G cL_setRate 3 RL ⟨10, 3, 18, 264⟩) (hl0 : M.2.1 = l) (hr : (mM M).sig.returnType = (some .int)) (ht : (mC M).exceptionTable.toList = tableOf hh_L_setRate) {b0 : Nat} {b1 : Int32} {g : AH} {r : Int32} {g1 : AH} (E : l_setRate b0 b1 g = some (r, g1)) : WW M G 3 (RX M G (.inl (some (.int r))) g1 3 18) 0 0 g 0 [(0, .ref b0), (1, .int b1)] [] := by
  unfold l_setRate at E
  refine r_aload_n X 0 dL_setRate_0 rfl rfl ?_
  refine r_iload_n X 1 dL_setRate_1 rfl rfl ?_
  obtain ⟨u4, e5, E⟩ := gb_some E
  obtain ⟨r1, g2, e3, E⟩ := cb_some E
  rcases r1 with v6 | w7
  · rw [Sum.elim_inl] at E
    refine r_callVX X hl0 (ci := 8) dL_setRate_2 y_X8_setRate m_L_113 rfl rfl e5 (t_x8_setRate (l := l) hst (G := G) e3) rfl rfl (Nat.le_of_ble_eq_true rfl) (by decide) ?_
    cases E
    exact r_ret (r_iret X hr dL_setRate_5 (by decide) (by decide))
  · rw [Sum.elim_inr] at E
    by_cases c8 : w7 = "java/lang/IllegalArgumentException"
    · rw [if_pos c8] at E
      subst c8
      refine r_catch X hl0 ht (ci := 8) dL_setRate_2 y_X8_setRate m_L_113 rfl rfl e5 (t_x8_setRate (l := l) hst (G := G) e3) rfl rfl (Nat.le_of_ble_eq_true rfl) (by decide) [] (0, 5, 6, 64) [] rfl (by decide) (by intro z hz; cases hz) (by decide) (by decide) k_L_64 (by decide) (fun q9 => ?_)
      refine r_astore_n X 2 (L1 := [(2, .ref q9), (0, .ref b0), (1, .int b1)]) dL_setRate_6 rfl (by decide) rfl ?_
      refine r_bipush X (v := (-102)) dL_setRate_7 (by decide) ?_
      cases E
      exact r_ret (r_iret X hr dL_setRate_9 (by decide) (by decide))
    rw [if_neg c8] at E
    cases E
theorem t_l_setRate {l : Launch} (hst : l.stackTraces = false) {G : GG} {b0 : Nat} {b1 : Int32} {g : AH} {r : Int32} {g1 : AH} (E : l_setRate b0 b1 g = some (r, g1)) : CtW l G yL_setRate cL_setRate 3 (some .int) hh_L_setRate ⟨10, 3, 18, 264⟩ [.ref b0, .int b1] g (some (.int r)) g1 :=
  ctW_of (L0 := [(0, .ref b0), (1, .int b1)]) y_L_setRate rfl (Nat.le_of_ble_eq_true rfl) fun M hl0 X hr ht => t_l_setRate_b hst X hl0 hr ht E
set_option maxHeartbeats 4000000 in
theorem t_l_fetchLogs_b {l : Launch} (hst : l.stackTraces = false) {G : GG} {M : MC} (X : CX M G cL_fetchLogs 3 RL ⟨10, 3, 18, 264⟩) (hl0 : M.2.1 = l) (hr : (mM M).sig.returnType = (some .int)) (ht : (mC M).exceptionTable.toList = tableOf hh_L_fetchLogs) {b0 : Nat} {b1 : Int32} {g : AH} {r : Int32} {g1 : AH} (E : l_fetchLogs b0 b1 g = some (r, g1)) : WW M G 3 (RX M G (.inl (some (.int r))) g1 3 18) 0 0 g 0 [(0, .ref b0), (1, .int b1)] [] := by
  unfold l_fetchLogs at E
  refine r_aload_n X 0 dL_fetchLogs_0 rfl rfl ?_
  refine r_iload_n X 1 dL_fetchLogs_1 rfl rfl ?_
  obtain ⟨u4, e5, E⟩ := gb_some E
  obtain ⟨r1, g2, e3, E⟩ := cb_some E
  rcases r1 with v6 | w7
  · rw [Sum.elim_inl] at E
    refine r_callVX X hl0 (ci := 8) dL_fetchLogs_2 y_X8_fetchLogs m_L_116 rfl rfl e5 (t_x8_fetchLogs (l := l) hst (G := G) e3) rfl rfl (Nat.le_of_ble_eq_true rfl) (by decide) ?_
    cases E
    exact r_ret (r_iret X hr dL_fetchLogs_5 (by decide) (by decide))
  · rw [Sum.elim_inr] at E
    by_cases c8 : w7 = "java/lang/IllegalArgumentException"
    · rw [if_pos c8] at E
      subst c8
      refine r_catch X hl0 ht (ci := 8) dL_fetchLogs_2 y_X8_fetchLogs m_L_116 rfl rfl e5 (t_x8_fetchLogs (l := l) hst (G := G) e3) rfl rfl (Nat.le_of_ble_eq_true rfl) (by decide) [] (0, 5, 6, 64) [(0, 5, 10, 59)] rfl (by decide) (by intro z hz; cases hz) (by decide) (by decide) k_L_64 (by decide) (fun q9 => ?_)
      refine r_astore_n X 2 (L1 := [(2, .ref q9), (0, .ref b0), (1, .int b1)]) dL_fetchLogs_6 rfl (by decide) rfl ?_
      refine r_bipush X (v := (-102)) dL_fetchLogs_7 (by decide) ?_
      cases E
      exact r_ret (r_iret X hr dL_fetchLogs_9 (by decide) (by decide))
    rw [if_neg c8] at E
    by_cases c10 : w7 = "java/lang/IllegalStateException"
    · rw [if_pos c10] at E
      subst c10
      refine r_catch X hl0 ht (ci := 8) dL_fetchLogs_2 y_X8_fetchLogs m_L_116 rfl rfl e5 (t_x8_fetchLogs (l := l) hst (G := G) e3) rfl rfl (Nat.le_of_ble_eq_true rfl) (by decide) [(0, 5, 6, 64)] (0, 5, 10, 59) [] rfl (by decide) (by
        intro z hz
        rcases List.mem_singleton.mp hz with rfl
        · exact ⟨by decide, "java/lang/IllegalArgumentException", by decide, by decide, k_L_64⟩
        ) (by decide) (by decide) k_L_59 (by decide) (fun q11 => ?_)
      refine r_astore_n X 2 (L1 := [(2, .ref q11), (0, .ref b0), (1, .int b1)]) dL_fetchLogs_10 rfl (by decide) rfl ?_
      refine r_bipush X (v := (-103)) dL_fetchLogs_11 (by decide) ?_
      cases E
      exact r_ret (r_iret X hr dL_fetchLogs_13 (by decide) (by decide))
    rw [if_neg c10] at E
    cases E
theorem t_l_fetchLogs {l : Launch} (hst : l.stackTraces = false) {G : GG} {b0 : Nat} {b1 : Int32} {g : AH} {r : Int32} {g1 : AH} (E : l_fetchLogs b0 b1 g = some (r, g1)) : CtW l G yL_fetchLogs cL_fetchLogs 3 (some .int) hh_L_fetchLogs ⟨10, 3, 18, 264⟩ [.ref b0, .int b1] g (some (.int r)) g1 :=
  ctW_of (L0 := [(0, .ref b0), (1, .int b1)]) y_L_fetchLogs rfl (Nat.le_of_ble_eq_true rfl) fun M hl0 X hr ht => t_l_fetchLogs_b hst X hl0 hr ht E
set_option maxHeartbeats 4000000 in
theorem t_l_payDebt_b {l : Launch} (hst : l.stackTraces = false) {G : GG} {M : MC} (X : CX M G cL_payDebt 4 RL ⟨10, 3, 18, 265⟩) (hl0 : M.2.1 = l) (hr : (mM M).sig.returnType = (some .int)) (ht : (mC M).exceptionTable.toList = tableOf hh_L_payDebt) {b0 : Nat} {b1 : Int32} {b2 : Int32} {g : AH} {r : Int32} {g1 : AH} (E : l_payDebt b0 b1 b2 g = some (r, g1)) : WW M G 4 (RX M G (.inl (some (.int r))) g1 3 18) 0 0 g 0 [(0, .ref b0), (1, .int b1), (2, .int b2)] [] := by
  unfold l_payDebt at E
  refine r_aload_n X 0 dL_payDebt_0 rfl rfl ?_
  refine r_iload_n X 1 dL_payDebt_1 rfl rfl ?_
  refine r_iload_n X 2 dL_payDebt_2 rfl rfl ?_
  obtain ⟨u4, e5, E⟩ := gb_some E
  obtain ⟨r1, g2, e3, E⟩ := cb_some E
  rcases r1 with v6 | w7
  · rw [Sum.elim_inl] at E
    refine r_callVX X hl0 (ci := 8) dL_payDebt_3 y_X8_payDebt m_L_119 rfl rfl e5 (t_x8_payDebt (l := l) hst (G := G) e3) rfl rfl (Nat.le_of_ble_eq_true rfl) (by decide) ?_
    cases E
    exact r_ret (r_iret X hr dL_payDebt_6 (by decide) (by decide))
  · rw [Sum.elim_inr] at E
    by_cases c8 : w7 = "java/lang/IndexOutOfBoundsException"
    · rw [if_pos c8] at E
      subst c8
      refine r_catch X hl0 ht (ci := 8) dL_payDebt_3 y_X8_payDebt m_L_119 rfl rfl e5 (t_x8_payDebt (l := l) hst (G := G) e3) rfl rfl (Nat.le_of_ble_eq_true rfl) (by decide) [] (0, 6, 7, 69) [(0, 6, 11, 64), (0, 6, 15, 59)] rfl (by decide) (by intro z hz; cases hz) (by decide) (by decide) k_L_69 (by decide) (fun q9 => ?_)
      refine r_astore_n X 3 (L1 := [(3, .ref q9), (0, .ref b0), (1, .int b1), (2, .int b2)]) dL_payDebt_7 rfl (by decide) rfl ?_
      refine r_bipush X (v := (-101)) dL_payDebt_8 (by decide) ?_
      cases E
      exact r_ret (r_iret X hr dL_payDebt_10 (by decide) (by decide))
    rw [if_neg c8] at E
    by_cases c10 : w7 = "java/lang/IllegalArgumentException"
    · rw [if_pos c10] at E
      subst c10
      refine r_catch X hl0 ht (ci := 8) dL_payDebt_3 y_X8_payDebt m_L_119 rfl rfl e5 (t_x8_payDebt (l := l) hst (G := G) e3) rfl rfl (Nat.le_of_ble_eq_true rfl) (by decide) [(0, 6, 7, 69)] (0, 6, 11, 64) [(0, 6, 15, 59)] rfl (by decide) (by
        intro z hz
        rcases List.mem_singleton.mp hz with rfl
        · exact ⟨by decide, "java/lang/IndexOutOfBoundsException", by decide, by decide, k_L_69⟩
        ) (by decide) (by decide) k_L_64 (by decide) (fun q11 => ?_)
      refine r_astore_n X 3 (L1 := [(3, .ref q11), (0, .ref b0), (1, .int b1), (2, .int b2)]) dL_payDebt_11 rfl (by decide) rfl ?_
      refine r_bipush X (v := (-102)) dL_payDebt_12 (by decide) ?_
      cases E
      exact r_ret (r_iret X hr dL_payDebt_14 (by decide) (by decide))
    rw [if_neg c10] at E
    by_cases c12 : w7 = "java/lang/IllegalStateException"
    · rw [if_pos c12] at E
      subst c12
      refine r_catch X hl0 ht (ci := 8) dL_payDebt_3 y_X8_payDebt m_L_119 rfl rfl e5 (t_x8_payDebt (l := l) hst (G := G) e3) rfl rfl (Nat.le_of_ble_eq_true rfl) (by decide) [(0, 6, 7, 69), (0, 6, 11, 64)] (0, 6, 15, 59) [] rfl (by decide) (by
        intro z hz
        rcases (by simpa using hz : z = _ ∨ z = _) with rfl | rfl
        · exact ⟨by decide, "java/lang/IndexOutOfBoundsException", by decide, by decide, k_L_69⟩
        · exact ⟨by decide, "java/lang/IllegalArgumentException", by decide, by decide, k_L_64⟩
        ) (by decide) (by decide) k_L_59 (by decide) (fun q13 => ?_)
      refine r_astore_n X 3 (L1 := [(3, .ref q13), (0, .ref b0), (1, .int b1), (2, .int b2)]) dL_payDebt_15 rfl (by decide) rfl ?_
      refine r_bipush X (v := (-103)) dL_payDebt_16 (by decide) ?_
      cases E
      exact r_ret (r_iret X hr dL_payDebt_18 (by decide) (by decide))
    rw [if_neg c12] at E
    cases E
theorem t_l_payDebt {l : Launch} (hst : l.stackTraces = false) {G : GG} {b0 : Nat} {b1 : Int32} {b2 : Int32} {g : AH} {r : Int32} {g1 : AH} (E : l_payDebt b0 b1 b2 g = some (r, g1)) : CtW l G yL_payDebt cL_payDebt 4 (some .int) hh_L_payDebt ⟨10, 3, 18, 265⟩ [.ref b0, .int b1, .int b2] g (some (.int r)) g1 :=
  ctW_of (L0 := [(0, .ref b0), (1, .int b1), (2, .int b2)]) y_L_payDebt rfl (Nat.le_of_ble_eq_true rfl) fun M hl0 X hr ht => t_l_payDebt_b hst X hl0 hr ht E
set_option maxHeartbeats 4000000 in
theorem t_l_passHours_b {l : Launch} (hst : l.stackTraces = false) {G : GG} {M : MC} (X : CX M G cL_passHours 3 RL ⟨10, 3, 18, 264⟩) (hl0 : M.2.1 = l) (hr : (mM M).sig.returnType = (some .int)) (ht : (mC M).exceptionTable.toList = tableOf hh_L_passHours) {b0 : Nat} {b1 : Int32} {g : AH} {r : Int32} {g1 : AH} (E : l_passHours b0 b1 g = some (r, g1)) : WW M G 3 (RX M G (.inl (some (.int r))) g1 3 18) 0 0 g 0 [(0, .ref b0), (1, .int b1)] [] := by
  unfold l_passHours at E
  refine r_aload_n X 0 dL_passHours_0 rfl rfl ?_
  refine r_iload_n X 1 dL_passHours_1 rfl rfl ?_
  obtain ⟨u4, e5, E⟩ := gb_some E
  obtain ⟨r1, g2, e3, E⟩ := cb_some E
  rcases r1 with v6 | w7
  · rw [Sum.elim_inl] at E
    refine r_callVX X hl0 (ci := 8) dL_passHours_2 y_X8_passHours m_L_122 rfl rfl e5 (t_x8_passHours (l := l) hst (G := G) e3) rfl rfl (Nat.le_of_ble_eq_true rfl) (by decide) ?_
    cases E
    exact r_ret (r_iret X hr dL_passHours_5 (by decide) (by decide))
  · rw [Sum.elim_inr] at E
    by_cases c8 : w7 = "java/lang/IllegalArgumentException"
    · rw [if_pos c8] at E
      subst c8
      refine r_catch X hl0 ht (ci := 8) dL_passHours_2 y_X8_passHours m_L_122 rfl rfl e5 (t_x8_passHours (l := l) hst (G := G) e3) rfl rfl (Nat.le_of_ble_eq_true rfl) (by decide) [] (0, 5, 6, 64) [(0, 5, 10, 59)] rfl (by decide) (by intro z hz; cases hz) (by decide) (by decide) k_L_64 (by decide) (fun q9 => ?_)
      refine r_astore_n X 2 (L1 := [(2, .ref q9), (0, .ref b0), (1, .int b1)]) dL_passHours_6 rfl (by decide) rfl ?_
      refine r_bipush X (v := (-102)) dL_passHours_7 (by decide) ?_
      cases E
      exact r_ret (r_iret X hr dL_passHours_9 (by decide) (by decide))
    rw [if_neg c8] at E
    by_cases c10 : w7 = "java/lang/IllegalStateException"
    · rw [if_pos c10] at E
      subst c10
      refine r_catch X hl0 ht (ci := 8) dL_passHours_2 y_X8_passHours m_L_122 rfl rfl e5 (t_x8_passHours (l := l) hst (G := G) e3) rfl rfl (Nat.le_of_ble_eq_true rfl) (by decide) [(0, 5, 6, 64)] (0, 5, 10, 59) [] rfl (by decide) (by
        intro z hz
        rcases List.mem_singleton.mp hz with rfl
        · exact ⟨by decide, "java/lang/IllegalArgumentException", by decide, by decide, k_L_64⟩
        ) (by decide) (by decide) k_L_59 (by decide) (fun q11 => ?_)
      refine r_astore_n X 2 (L1 := [(2, .ref q11), (0, .ref b0), (1, .int b1)]) dL_passHours_10 rfl (by decide) rfl ?_
      refine r_bipush X (v := (-103)) dL_passHours_11 (by decide) ?_
      cases E
      exact r_ret (r_iret X hr dL_passHours_13 (by decide) (by decide))
    rw [if_neg c10] at E
    cases E
theorem t_l_passHours {l : Launch} (hst : l.stackTraces = false) {G : GG} {b0 : Nat} {b1 : Int32} {g : AH} {r : Int32} {g1 : AH} (E : l_passHours b0 b1 g = some (r, g1)) : CtW l G yL_passHours cL_passHours 3 (some .int) hh_L_passHours ⟨10, 3, 18, 264⟩ [.ref b0, .int b1] g (some (.int r)) g1 :=
  ctW_of (L0 := [(0, .ref b0), (1, .int b1)]) y_L_passHours rfl (Nat.le_of_ble_eq_true rfl) fun M hl0 X hr ht => t_l_passHours_b hst X hl0 hr ht E
