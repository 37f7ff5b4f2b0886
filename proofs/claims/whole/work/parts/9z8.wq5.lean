/-! the world: what the planner foresees -/
section WQ5
variable {n : Nat} {w : WS}
theorem Qr_hoursUntilNoLogs (H : Iv w) : Qr n w (x8_hoursUntilNoLogs n) x9_hoursUntilNoLogs := by
  have G := H.1.1
  have hT := G.1.2.2.2
  refine Qr_q H (V := oI (ff (nlP ((wr w).2 1, (wr w).2 6)) 97)) (fun g => ?_) (fun g m => ?_)
  · obtain ⟨h1, e1⟩ := c_hoursToNoLogs (g := putW g n w) (t := n + hp 2) (q := n + hp 0) (pl := n + 55) (h := w.1 2) (k := w.1 0) (W_H (by decide)) hd20 W_plA G.1.1 G.2.1 G.2.2 (by omega) ((wr w).2 6)
    rw [W_H (by decide), W_setH (by decide)] at e1
    refine ⟨h1, ?_⟩
    unfold x8_hoursUntilNoLogs
    rw [W_2, gb_s, W_80, gb_s, W_plO, gb_s, e1, cb_s]
  · obtain ⟨r1, e1, e2, e3⟩ := s_noLogs G.1.1 (by omega)
    exact ⟨r1, e1, e3, e2⟩
theorem Qr_rateNeeded (H : Iv w) : Qr n w (x8_rateNeeded n) x9_rateNeeded := by
  have G := H.1.1
  have hT := G.1.2.2.2
  refine Qr_q H (V := oI (ff (rnP ((wr w).2 1)) 4)) (fun g => ?_) (fun g m => ?_)
  · obtain ⟨h1, e1⟩ := c_rateNeeded (g := putW g n w) (t := n + hp 2) (q := n + hp 0) (pl := n + 55) (h := w.1 2) (k := w.1 0) (W_H (by decide)) hd20 W_plA W_plB G.1.1 G.1.2.1 G.2.1 (by omega)
    rw [W_H (by decide), W_setH (by decide)] at e1
    refine ⟨h1, ?_⟩
    unfold x8_rateNeeded
    rw [W_2, gb_s, W_80, gb_s, W_plO, gb_s, e1, cb_s]
  · obtain ⟨r1, e1, e2, e3⟩ := s_rateNeeded G.1.1 (by omega)
    exact ⟨r1, e1, e3, e2⟩
theorem Qr_bestRate (H : Iv w) : Qr n w (x8_bestRate n) x9_bestRate := by
  have G := H.1.1
  have hT := G.1.2.2.2
  refine Qr_q H (V := I (brS ((wr w).2 1) 3).1) (fun g => ?_) (fun g m => ?_)
  · obtain ⟨h1, e1⟩ := c_bestRate (g := putW g n w) (t := n + hp 2) (q := n + hp 0) (pl := n + 55) (h := w.1 2) (k := w.1 0) (W_H (by decide)) hd20 W_plA W_plB G.1.1 G.1.2.1 G.2.1 (by omega)
    rw [W_H (by decide), W_setH (by decide)] at e1
    refine ⟨h1, ?_⟩
    unfold x8_bestRate
    rw [W_2, gb_s, W_80, gb_s, W_plO, gb_s, e1, cb_s]
  · obtain ⟨r1, e1, e2, e3⟩ := s_bestRate G.1.1 (by omega)
    exact ⟨r1, e1, e3, e2⟩
theorem Qt_shiversUntilDawn (H : Iv w) (x : Int32) (hno : ¬ isH ((wr w).2 1) x = true → ∀ g m, ∃ v, x9_shiversUntilDawn m x (putR g m (wr w)) = some (v, putR g m (RS_setF (wr w) 6 1))) : Qt n w (x8_shiversUntilDawn n x) (fun m => x9_shiversUntilDawn m x) exI := by
  have G := H.1.1
  have hT := G.1.2.2.2
  by_cases hx : isH ((wr w).2 1) x = true
  · obtain ⟨i, i1, i2, i3, i4⟩ := isH_ex G.1.1 hx
    refine Qt_q H (B := true) (V := hk (manyS (toDawn ((wr w).2 1)) ((wr w).2 1, (wr w).2 6)).1 i 6 - hk ((wr w).2 1) i 6) (fun _ => ⟨fun g => ?_, fun g m => ?_⟩) (fun hb => absurd rfl hb)
    · obtain ⟨h1, e1⟩ := c_shiversToDawn (g := putW g n w) (t := n + hp 2) (q := n + hp 0) (pl := n + 55) (h := w.1 2) (k := w.1 0) (W_H (by decide)) hd20 W_plA G.1.1 G.1.2.1 G.2.1 i1 (by omega) ((wr w).2 6)
      rw [W_H (by decide), W_setH (by decide)] at e1
      refine ⟨h1, ?_⟩
      unfold x8_shiversUntilDawn
      rw [W_isO, gb_s, demH G, if_pos hx, cb_s, Sum.elim_inl, W_2, gb_s, W_80, gb_s, W_plO, gb_s, i3, e1, cb_s]
    · obtain ⟨r1, e1, e2, e3⟩ := s_shivers (g := g) (m := m) (r := wr w) G.1.1 i1 (by omega)
      refine ⟨r1, ?_, e3, e2⟩
      rw [i3]
      exact e1
  · refine Qt_q H (B := false) (V := 0) (fun hb => absurd hb (by decide)) (fun _ => ⟨1, Or.inl rfl, fun g => ?_, fun g m => ?_⟩)
    · unfold x8_shiversUntilDawn
      rw [W_isO, gb_s, demH G, if_neg hx, cb_s]
      rfl
    · obtain ⟨v, e⟩ := hno hx g m
      exact ⟨v, _, e, RSF_at _ _ _, Sq.f6⟩
theorem Qt_dawnsUntilDebt (H : Iv w) (x : Int32) (hno : ¬ isH ((wr w).2 1) x = true → ∀ g m, ∃ v, x9_dawnsUntilDebt m x (putR g m (wr w)) = some (v, putR g m (RS_setF (wr w) 6 1))) : Qt n w (x8_dawnsUntilDebt n x) (fun m => x9_dawnsUntilDebt m x) exI := by
  have G := H.1.1
  have hT := G.1.2.2.2
  by_cases hx : isH ((wr w).2 1) x = true
  · obtain ⟨i, i1, i2, i3, i4⟩ := isH_ex G.1.1 hx
    refine Qt_q H (B := true) (V := oI (ff (ddP ((wr w).2 1, (wr w).2 6) i) 13)) (fun _ => ⟨fun g => ?_, fun g m => ?_⟩) (fun hb => absurd rfl hb)
    · obtain ⟨h1, e1⟩ := c_dawnsToDebt (g := putW g n w) (t := n + hp 2) (q := n + hp 0) (pl := n + 55) (h := w.1 2) (k := w.1 0) (W_H (by decide)) hd20 W_plA G.1.1 G.2.1 G.2.2 i1 (by omega) ((wr w).2 6)
      rw [W_H (by decide), W_setH (by decide)] at e1
      refine ⟨h1, ?_⟩
      unfold x8_dawnsUntilDebt
      rw [W_isO, gb_s, demH G, if_pos hx, cb_s, Sum.elim_inl, W_2, gb_s, W_80, gb_s, W_plO, gb_s, i3, e1, cb_s]
    · obtain ⟨r1, e1, e2, e3⟩ := s_dawnsUntil (g := g) (m := m) (r := wr w) G.1.1 i1 (by omega)
      refine ⟨r1, ?_, e3, e2⟩
      rw [i3]
      exact e1
  · refine Qt_q H (B := false) (V := 0) (fun hb => absurd hb (by decide)) (fun _ => ⟨1, Or.inl rfl, fun g => ?_, fun g m => ?_⟩)
    · unfold x8_dawnsUntilDebt
      rw [W_isO, gb_s, demH G, if_neg hx, cb_s]
      rfl
    · obtain ⟨v, e⟩ := hno hx g m
      exact ⟨v, _, e, RSF_at _ _ _, Sq.f6⟩
theorem Qt_paymentAtDawn (H : Iv w) (x : Int32) (hno : ¬ isH ((wr w).2 1) x = true → ∀ g m, ∃ v, x9_paymentAtDawn m x (putR g m (wr w)) = some (v, putR g m (RS_setF (wr w) 6 1))) : Qt n w (x8_paymentAtDawn n x) (fun m => x9_paymentAtDawn m x) exI := by
  have G := H.1.1
  have hT := G.1.2.2.2
  by_cases hx : isH ((wr w).2 1) x = true
  · obtain ⟨i, i1, i2, i3, i4⟩ := isH_ex G.1.1 hx
    refine Qt_q H (B := true) (V := payV ((wr w).2 1, (wr w).2 6) i) (fun _ => ⟨fun g => ?_, fun g m => ?_⟩) (fun hb => absurd rfl hb)
    · obtain ⟨h1, e1⟩ := c_paymentNext (g := putW g n w) (t := n + hp 2) (q := n + hp 0) (pl := n + 55) (h := w.1 2) (k := w.1 0) (W_H (by decide)) hd20 W_plA G.1.1 G.2.1 G.2.2 i1 (by omega) ((wr w).2 6)
      rw [W_H (by decide), W_setH (by decide)] at e1
      refine ⟨h1, ?_⟩
      unfold x8_paymentAtDawn
      rw [W_isO, gb_s, demH G, if_pos hx, cb_s, Sum.elim_inl, W_2, gb_s, W_80, gb_s, W_plO, gb_s, i3, e1, cb_s]
    · obtain ⟨r1, e1, e2, e3⟩ := s_payment (g := g) (m := m) (r := wr w) G.1.1 i1 (by omega)
      refine ⟨r1, ?_, e3, e2⟩
      rw [i3]
      exact e1
  · refine Qt_q H (B := false) (V := 0) (fun hb => absurd hb (by decide)) (fun _ => ⟨1, Or.inl rfl, fun g => ?_, fun g m => ?_⟩)
    · unfold x8_paymentAtDawn
      rw [W_isO, gb_s, demH G, if_neg hx, cb_s]
      rfl
    · obtain ⟨v, e⟩ := hno hx g m
      exact ⟨v, _, e, RSF_at _ _ _, Sq.f6⟩
end WQ5
