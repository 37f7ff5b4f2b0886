/-! the world: searches -/
section WQ2
variable {n : Nat} {w : WS}
theorem Qr_quietestBunk (H : Iv w) : Qr n w (x8_quietestBunk n) x9_quietestBunk := by
  have G := H.1.1
  refine Qr_q H (V := oI (qS ((wr w).2 1) (nB ((wr w).2 1)))) (fun g => ⟨w.1 2, ?_⟩) (fun g m => ⟨RS_setF (wr w) 6 0, s_quietest G.1.1 G.1.2.2.1.2.1, RSF_at _ _ _, Sq.f6⟩)
  have e := c_quietest (g := putW g n w) (p := n + hp 0) G.1.1 G.2.1 G.2.2
  rw [W_H (by decide)] at e
  rw [wH_self]
  unfold x8_quietestBunk
  rw [W_80, gb_s, W_isO3, gb_s, e, cb_s]
theorem Qr_longestRow (H : Iv w) : Qr n w (x8_longestRow n) x9_longestRow := by
  have G := H.1.1
  refine Qr_q H (V := (lrS ((wr w).2 1) (nB ((wr w).2 1))).1) (fun g => ⟨w.1 2, ?_⟩) (fun g m => ⟨RS_setF (wr w) 6 0, s_longest G.1.1, RSF_at _ _ _, Sq.f6⟩)
  have e := c_longest (g := putW g n w) (p := n + hp 0) G.1.1 G.2.1
  rw [W_H (by decide)] at e
  rw [wH_self]
  unfold x8_longestRow
  rw [W_80, gb_s, W_isO3, gb_s, e, cb_s]
theorem Qt_userOf (H : Iv w) (x : Int32) : Qt n w (x8_userOf n x) (fun m => x9_userOf m x) exI := by
  have G := H.1.1
  have S : ∀ g m, x9_userOf m x (putR g m (wr w)) = if isL ((wr w).2 1) x = true then some (hw ((wr w).2 1) 5 x, putR g m (RS_setF (wr w) 6 0)) else some (0, putR g m (RS_setF (wr w) 6 1)) := fun g m => by
    unfold x9_userOf
    rw [R_putI rfl, gb_s, R_isO, gb_s, s_isBlanket, cb_s, show (RS_setF (wr w) 6 0).2 1 = (wr w).2 1 from rfl]
    by_cases h : isL ((wr w).2 1) x = true
    · rw [if_neg (show ¬ bI (isL ((wr w).2 1) x) = 0 by rw [bI_z, h]; decide), if_pos h, R_isO, gb_s, s_hikerWith (r := RS_setF (wr w) 6 0) G.1.1 (f := 5) (x := 5) rfl (by decide), cb_s]
      rfl
    · rw [if_pos ((bI_z _).mpr (by simpa using h)), if_neg h, R_isO, gb_s, s_fail2, cb_s, RSF_two]
  have eB : ∀ g, x3_hasBlanket (n + hp 0) x (putW g n w) = some (bI (isL ((wr w).2 1) x), putW g n w) := fun g => by
    have e := c_hasBlanket (g := putW g n w) (p := n + hp 0) G.2.1 x
    rw [W_H (by decide), ← isL_has G.1.1] at e
    exact e
  refine Qt_q H (B := isL ((wr w).2 1) x) (V := hw ((wr w).2 1) 5 x) (fun hb => ⟨fun g => ⟨w.1 2, ?_⟩, fun g m => ⟨_, (S g m).trans (if_pos hb), RSF_at _ _ _, Sq.f6⟩⟩) (fun hb => ⟨1, Or.inl rfl, fun g => ?_, fun g m => ⟨_, _, (S g m).trans (if_neg hb), RSF_at _ _ _, Sq.f6⟩⟩)
  · have e := c_userOfBlanket (g := putW g n w) (p := n + hp 0) G.1.1 G.2.1 x
    rw [W_H (by decide)] at e
    rw [wH_self]
    unfold x8_userOf
    rw [W_80, gb_s, W_isO3, gb_s, eB, cb_s, if_neg (show ¬ bI (isL ((wr w).2 1) x) = 0 by rw [bI_z, hb]; decide), W_80, gb_s, W_isO3, gb_s, e, cb_s]
  · unfold x8_userOf
    rw [W_80, gb_s, W_isO3, gb_s, eB, cb_s, if_pos ((bI_z _).mpr (by simpa using hb))]
    rfl
end WQ2
