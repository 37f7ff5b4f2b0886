/-! the world: plain queries -/
section WQ
variable {n : Nat} {w : WS}
theorem s_tell {g : AH} {m : Nat} {r : RS} (v : Int32) : x9_tell m v (putR g m r) = some (v, putR g m (RS_setF r 6 0)) := by
  unfold x9_tell
  rw [R_putI rfl, gb_s]
theorem Qr_hour (H : Iv w) : Qr n w (x8_hour n) x9_hour := by
  have G := H.1.1
  refine Qr_q H (V := (wr w).2 1 3) (fun g => ⟨w.1 2, ?_⟩) (fun g m => ⟨RS_setF (wr w) 6 0, ?_, RSF_at _ _ _, Sq.f6⟩)
  · rw [wH_self]
    unfold x8_hour
    rw [W_80, gb_s, W_hI (by decide), gb_s, Rel_at G.2.1 0 (by decide)]
    rfl
  · unfold x9_hour
    rw [R_getR (d := 1) rfl, gb_s, R_s (k := 3) (x := 3) rfl (by decide), gb_s, R_isO, gb_s, s_tell, cb_s]
theorem Qr_logs (H : Iv w) : Qr n w (x8_logs n) x9_logs := by
  have G := H.1.1
  refine Qr_q H (V := (wr w).2 1 0) (fun g => ⟨w.1 2, ?_⟩) (fun g m => ⟨RS_setF (wr w) 6 0, ?_, RSF_at _ _ _, Sq.f6⟩)
  · rw [wH_self]
    unfold x8_logs
    rw [W_80, gb_s, W_hI (by decide), gb_s, Rel_at G.2.1 1 (by decide)]
    rfl
  · unfold x9_logs
    rw [R_getR (d := 1) rfl, gb_s, R_s (k := 0) (x := 0) rfl (by decide), gb_s, R_isO, gb_s, s_tell, cb_s]
theorem Qr_hikerCount (H : Iv w) : Qr n w (x8_hikerCount n) x9_hikerCount := by
  have G := H.1.1
  refine Qr_q H (V := (wr w).2 1 12) (fun g => ⟨w.1 2, ?_⟩) (fun g m => ⟨RS_setF (wr w) 6 0, ?_, RSF_at _ _ _, Sq.f6⟩)
  · rw [wH_self]
    unfold x8_hikerCount
    rw [W_80, gb_s, W_hI (by decide), gb_s, Rel_at G.2.1 12 (by decide)]
    rfl
  · unfold x9_hikerCount
    rw [R_getR (d := 1) rfl, gb_s, R_s (k := 12) (x := 12) rfl (by decide), gb_s, R_isO, gb_s, s_tell, cb_s]
theorem Qr_burnedLogs (H : Iv w) : Qr n w (x8_burnedLogs n) x9_burnedLogs := by
  have G := H.1.1
  refine Qr_q H (V := (wr w).2 1 4) (fun g => ⟨w.1 2, ?_⟩) (fun g m => ⟨RS_setF (wr w) 6 0, ?_, RSF_at _ _ _, Sq.f6⟩)
  · rw [wH_self]
    unfold x8_burnedLogs
    rw [W_80, gb_s, W_hI (by decide), gb_s, Rel_at G.2.1 5 (by decide)]
    rfl
  · unfold x9_burnedLogs
    rw [R_getR (d := 1) rfl, gb_s, R_s (k := 4) (x := 4) rfl (by decide), gb_s, R_isO, gb_s, s_tell, cb_s]
theorem Qr_hutCoins (H : Iv w) : Qr n w (x8_hutCoins n) x9_hutCoins := by
  have G := H.1.1
  refine Qr_q H (V := (wr w).2 1 6) (fun g => ⟨w.1 2, ?_⟩) (fun g m => ⟨RS_setF (wr w) 6 0, ?_, RSF_at _ _ _, Sq.f6⟩)
  · rw [wH_self]
    unfold x8_hutCoins
    rw [W_80, gb_s, W_hI (by decide), gb_s, Rel_at G.2.1 4 (by decide)]
    rfl
  · unfold x9_hutCoins
    rw [R_getR (d := 1) rfl, gb_s, R_s (k := 6) (x := 6) rfl (by decide), gb_s, R_isO, gb_s, s_tell, cb_s]
theorem Qr_temperature (H : Iv w) : Qr n w (x8_temperature n) x9_temperature := by
  have G := H.1.1
  refine Qr_q H (V := ins ((wr w).2 1)) (fun g => ⟨w.1 2, ?_⟩) (fun g m => ⟨RS_setF (wr w) 6 0, ?_, RSF_at _ _ _, Sq.f6⟩)
  · have e := c_inside (g := putW g n w) (p := n + hp 0) G.1.1 G.2.1
    rw [W_H (by decide)] at e
    rw [wH_self]
    unfold x8_temperature
    rw [W_80, gb_s, W_isO3, gb_s, e, cb_s]
  · unfold x9_temperature
    rw [R_isO, gb_s, s_inside G.1.1, cb_s, R_isO, gb_s, s_tell, cb_s]
theorem Qr_coldHikers (H : Iv w) : Qr n w (x8_coldHikers n) x9_coldHikers := by
  have G := H.1.1
  refine Qr_q H (V := cntD ((wr w).2 1) 0) (fun g => ⟨w.1 2, ?_⟩) (fun g m => ⟨RS_setF (wr w) 6 0, ?_, RSF_at _ _ _, Sq.f6⟩)
  · have e := c_coldCount (g := putW g n w) (p := n + hp 0) G.1.1 G.2.1 G.2.2
    rw [W_H (by decide)] at e
    rw [wH_self]
    unfold x8_coldHikers
    rw [W_80, gb_s, W_isO3, gb_s, e, cb_s]
  · unfold x9_coldHikers
    rw [R_putI rfl, gb_s, R_isO, gb_s, s_countDeed (r := RS_setF (wr w) 6 0) G.1.1, cb_s]
    rfl
theorem Qr_totalDebt (H : Iv w) : Qr n w (x8_totalDebt n) x9_totalDebt := by
  have G := H.1.1
  refine Qr_q H (V := sumF ((wr w).2 1) 3) (fun g => ⟨w.1 2, ?_⟩) (fun g m => ⟨RS_setF (wr w) 6 0, ?_, RSF_at _ _ _, Sq.f6⟩)
  · have e := c_sumOfDebts (g := putW g n w) (p := n + hp 0) G.1.1 G.2.1
    rw [W_H (by decide)] at e
    rw [wH_self]
    unfold x8_totalDebt
    rw [W_80, gb_s, W_isO3, gb_s, e, cb_s]
  · unfold x9_totalDebt
    rw [R_isO, gb_s, s_sumOf G.1.1 (f := 3) (x := 3) rfl (by decide), cb_s, R_isO, gb_s, s_tell, cb_s]
theorem Qr_hoursUntilDawn (H : Iv w) : Qr n w (x8_hoursUntilDawn n) x9_hoursUntilDawn := by
  have G := H.1.1
  refine Qr_q H (V := I (toDawn ((wr w).2 1))) (fun g => ⟨w.1 2, ?_⟩) (fun g m => ⟨RS_setF (wr w) 6 0, ?_, RSF_at _ _ _, Sq.f6⟩)
  · have e := c_toDawn (g := putW g n w) (p := n + hp 0) G.1.1 G.2.1
    rw [W_H (by decide)] at e
    rw [wH_self]
    unfold x8_hoursUntilDawn
    rw [W_80, gb_s, W_isO3, gb_s, e, cb_s]
  · have e := s_toDawn (g := g) (m := m) (r := wr w) (s := ((wr w).2 1, (wr w).2 6)) G.1.1
    rw [show RD (wr w) ((wr w).2 1) ((wr w).2 6) = wr w from D_self] at e
    unfold x9_hoursUntilDawn
    rw [R_isO, gb_s, e, cb_s, R_isO, gb_s, s_tell, cb_s]
theorem Qr_pileSize (H : Iv w) : Qr n w (x8_pileSize n) x9_pileSize := by
  have G := H.1.1
  refine Qr_q H (V := pileN ((wr w).2 1)) (fun g => ⟨w.1 2, ?_⟩) (fun g m => ⟨RS_setF (wr w) 6 0, ?_, RSF_at _ _ _, Sq.f6⟩)
  · have e := c_onPile (g := putW g n w) (p := n + hp 0) G.1.1 G.1.2.1 G.2.1
    rw [W_H (by decide)] at e
    rw [wH_self]
    unfold x8_pileSize
    rw [W_80, gb_s, W_isO3, gb_s, e, cb_s]
  · unfold x9_pileSize
    rw [R_putI rfl, gb_s, R_isO, gb_s, s_countPile (r := RS_setF (wr w) 6 0) G.1.1, cb_s]
    rfl
theorem Qr_coldestHiker (H : Iv w) : Qr n w (x8_coldestHiker n) x9_coldestHiker := by
  have G := H.1.1
  refine Qr_q H (V := I (csS ((wr w).2 1) (nH ((wr w).2 1) - 1))) (fun g => ⟨w.1 2, ?_⟩) (fun g m => ⟨RS_setF (wr w) 6 0, ?_, RSF_at _ _ _, Sq.f6⟩)
  · have e := c_missingMost (g := putW g n w) (p := n + hp 0) G.1.1 G.2.1 G.2.2 G.1.2.2.1.1
    rw [W_H (by decide)] at e
    rw [wH_self]
    unfold x8_coldestHiker
    rw [W_80, gb_s, W_isO3, gb_s, e, cb_s]
  · exact s_coldestHiker G.1.1 G.1.2.2.1.1
end WQ
