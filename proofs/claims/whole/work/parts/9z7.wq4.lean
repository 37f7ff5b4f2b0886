/-! the world: fitting blanket, temperature to come -/
section WQ4
variable {n : Nat} {w : WS}
theorem Qt_fittingBlanket (H : Iv w) (x : Int32) : Qt n w (x8_fittingBlanket n x) (fun m => x9_fittingBlanket m x) exI := by
  have G := H.1.1
  by_cases hx : isH ((wr w).2 1) x = true
  · obtain ⟨i, i1, i2, i3, i4⟩ := isH_ex G.1.1 hx
    refine Qt_q H (B := true) (V := oI (fS ((wr w).2 1) i (nL ((wr w).2 1)))) (fun _ => ⟨fun g => ⟨w.1 2, ?_⟩, fun g m => ⟨RS_setF (wr w) 6 0, ?_, RSF_at _ _ _, Sq.f6⟩⟩) (fun hb => absurd rfl hb)
    · have e := c_fitting (g := putW g n w) (p := n + hp 0) G.1.1 G.2.1 G.2.2 G.1.2.2.1.2.1 i1
      rw [W_H (by decide)] at e
      rw [wH_self]
      unfold x8_fittingBlanket
      rw [W_isO, gb_s, demH G, if_pos hx, cb_s, Sum.elim_inl, W_80, gb_s, W_isO3, gb_s, i3, e, cb_s]
    · show x9_fittingBlanket m x (putR g m (wr w)) = _
      unfold x9_fittingBlanket
      rw [R_putI rfl, gb_s, R_isO, gb_s, s_isHiker, cb_s, show (RS_setF (wr w) 6 0).2 1 = (wr w).2 1 from rfl, if_neg (show ¬ bI (isH ((wr w).2 1) x) = 0 by rw [bI_z, hx]; decide), i3, s_fittingL (r := RS_setF (wr w) 6 0) G.1.1 i1, cb_s]
      rfl
  · refine Qt_q H (B := false) (V := 0) (fun hb => absurd hb (by decide)) (fun _ => ⟨1, Or.inl rfl, fun g => ?_, fun g m => ⟨0, RS_setF (wr w) 6 1, ?_, RSF_at _ _ _, Sq.f6⟩⟩)
    · unfold x8_fittingBlanket
      rw [W_isO, gb_s, demH G, if_neg hx, cb_s]
      rfl
    · show x9_fittingBlanket m x (putR g m (wr w)) = _
      unfold x9_fittingBlanket
      rw [R_putI rfl, gb_s, R_isO, gb_s, s_isHiker, cb_s, show (RS_setF (wr w) 6 0).2 1 = (wr w).2 1 from rfl, if_pos ((bI_z _).mpr (by simpa using hx)), R_isO, gb_s, s_fail2, cb_s, RSF_two]
theorem W_2 {g : AH} : getR 8 (putW g n w) n 2 = some (n + 55) := W_o8 rfl
theorem W_plA {g : AH} (h : HS) : getR 5 (putH (putW g n w) (n + hp 2) h) (n + 55) 0 = some (n + hp 2) := by
  rw [W_setH (by decide)]
  exact W_pl
theorem W_plB {g : AH} (h : HS) : isO 5 (putH (putW g n w) (n + hp 2) h) (n + 55) = some () := by
  rw [W_setH (by decide)]
  exact W_plO
theorem hd20 : n + hp 2 + 27 ≤ n + hp 0 ∨ n + hp 0 + 27 ≤ n + hp 2 := by
  have := hp_ne (i := 2) (j := 0) (by decide) (by decide) (by decide)
  omega
theorem Qt_temperatureAfter (H : Iv w) (x : Int32) : Qt n w (x8_temperatureAfter n x) (fun m => x9_temperatureAfter m x) exA1 := by
  have G := H.1.1
  have hT := G.1.2.2.2
  by_cases hx : bt x 0 96 = true
  · obtain ⟨k, -, k1, k2, k3⟩ := bt_ex (lo := 0) (hi := 96) (by decide) (by decide) hx
    refine Qt_q H (B := true) (V := ins (manyS k ((wr w).2 1, (wr w).2 6)).1) (fun _ => ⟨fun g => ?_, fun g m => ?_⟩) (fun hb => absurd rfl hb)
    · obtain ⟨h1, e1⟩ := c_temperatureIn (g := putW g n w) (t := n + hp 2) (q := n + hp 0) (pl := n + 55) (h := w.1 2) (k := w.1 0) (W_H (by decide)) hd20 W_plA G.1.1 G.2.1 G.2.2 (n := k) (by omega) (by omega) ((wr w).2 6)
      rw [W_H (by decide), W_setH (by decide)] at e1
      refine ⟨h1, ?_⟩
      unfold x8_temperatureAfter x8_demandForeseeable
      rw [s_isWithin, cb_s, if_neg (show ¬ bI (bt x 0 96) = 0 by rw [bI_z, hx]; decide), cb_s, Sum.elim_inl, W_2, gb_s, W_80, gb_s, W_plO, gb_s, k2, e1, cb_s]
    · obtain ⟨r1, e1, e2, e3⟩ := s_temperatureAfter (g := g) (m := m) (r := wr w) G.1.1 (n := k) k1 (by omega)
      refine ⟨r1, ?_, e3, e2⟩
      rw [k2]
      exact e1
  · refine Qt_q H (B := false) (V := 0) (fun hb => absurd hb (by decide)) (fun _ => ⟨1, Or.inl rfl, fun g => ?_, fun g m => ⟨0, RS_setF (wr w) 6 1, ?_, RSF_at _ _ _, Sq.f6⟩⟩)
    · unfold x8_temperatureAfter x8_demandForeseeable
      rw [s_isWithin, cb_s, if_pos ((bI_z _).mpr (by simpa using hx)), cb_s]
      rfl
    · show x9_temperatureAfter m x (putR g m (wr w)) = _
      unfold x9_temperatureAfter x9_isAheadOfNow
      rw [R_putI rfl, gb_s, s_isBetween, cb_s, if_pos (bz_bI _), cb_s, if_pos ((bI_z _).mpr (by simpa using hx)), R_isO, gb_s, s_fail2, cb_s, RSF_two]
end WQ4
