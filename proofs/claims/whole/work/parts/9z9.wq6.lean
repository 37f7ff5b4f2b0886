/-! the world: debts and payments to come, best places, counts -/
section WQ6
variable {n : Nat} {w : WS}
theorem I_0 : (0 : Int32) = I 0 := rfl
theorem no_shiversUntilDawn {g : AH} {m : Nat} {r : RS} {x : Int32} (hx : ¬ isH (r.2 1) x = true) : x9_shiversUntilDawn m x (putR g m r) = some (0, putR g m (RS_setF r 6 1)) := by
  unfold x9_shiversUntilDawn
  rw [R_putI rfl, gb_s, R_isO, gb_s, s_isHiker, cb_s, show (RS_setF r 6 0).2 1 = r.2 1 from rfl, if_pos ((bI_z _).mpr (by simpa using hx)), R_isO, gb_s, s_fail2, cb_s, RSF_two]
theorem Qt_shiversUntilDawn2 (H : Iv w) (x : Int32) : Qt n w (x8_shiversUntilDawn n x) (fun m => x9_shiversUntilDawn m x) exI := Qt_shiversUntilDawn H x (fun hx _ _ => ⟨_, no_shiversUntilDawn hx⟩)
theorem no_dawnsUntilDebt {g : AH} {m : Nat} {r : RS} {x : Int32} (hx : ¬ isH (r.2 1) x = true) : x9_dawnsUntilDebt m x (putR g m r) = some (0, putR g m (RS_setF r 6 1)) := by
  unfold x9_dawnsUntilDebt
  rw [R_putI rfl, gb_s, R_isO, gb_s, s_isHiker, cb_s, show (RS_setF r 6 0).2 1 = r.2 1 from rfl, if_pos ((bI_z _).mpr (by simpa using hx)), R_isO, gb_s, s_fail2, cb_s, RSF_two]
theorem Qt_dawnsUntilDebt2 (H : Iv w) (x : Int32) : Qt n w (x8_dawnsUntilDebt n x) (fun m => x9_dawnsUntilDebt m x) exI := Qt_dawnsUntilDebt H x (fun hx _ _ => ⟨_, no_dawnsUntilDebt hx⟩)
theorem no_paymentAtDawn {g : AH} {m : Nat} {r : RS} {x : Int32} (hx : ¬ isH (r.2 1) x = true) : x9_paymentAtDawn m x (putR g m r) = some (0, putR g m (RS_setF r 6 1)) := by
  unfold x9_paymentAtDawn
  rw [R_putI rfl, gb_s, R_isO, gb_s, s_isHiker, cb_s, show (RS_setF r 6 0).2 1 = r.2 1 from rfl, if_pos ((bI_z _).mpr (by simpa using hx)), R_isO, gb_s, s_fail2, cb_s, RSF_two]
theorem Qt_paymentAtDawn2 (H : Iv w) (x : Int32) : Qt n w (x8_paymentAtDawn n x) (fun m => x9_paymentAtDawn m x) exI := Qt_paymentAtDawn H x (fun hx _ _ => ⟨_, no_paymentAtDawn hx⟩)
theorem Qt_debtAfter (H : Iv w) (x y : Int32) : Qt n w (x8_debtAfter n x y) (fun m => x9_debtAfter m x y) exJ := by
  have G := H.1.1
  have hT := G.1.2.2.2
  have eI : ∀ g m, x9_isHiker m x (putR g m (wr w)) = some (bI (isH ((wr w).2 1) x), putR g m (wr w)) := fun g m => s_isHiker x
  by_cases hx : isH ((wr w).2 1) x = true
  · obtain ⟨i, i1, i2, i3, i4⟩ := isH_ex G.1.1 hx
    by_cases hy : bt y 0 96 = true
    · obtain ⟨k, -, k1, k2, k3⟩ := bt_ex (lo := 0) (hi := 96) (by decide) (by decide) hy
      refine Qt_q H (B := true) (V := hk (manyS k ((wr w).2 1, (wr w).2 6)).1 i 3) (fun _ => ⟨fun g => ?_, fun g m => ?_⟩) (fun hb => absurd rfl hb)
      · obtain ⟨h1, e1⟩ := c_debtIn (g := putW g n w) (t := n + hp 2) (q := n + hp 0) (pl := n + 55) (h := w.1 2) (k := w.1 0) (W_H (by decide)) hd20 W_plA G.1.1 G.2.1 G.2.2 i1 (n := k) (by omega) (by omega) ((wr w).2 6)
        rw [W_H (by decide), W_setH (by decide)] at e1
        refine ⟨h1, ?_⟩
        unfold x8_debtAfter x8_demandForeseeable
        rw [W_isO, gb_s, demH G, if_pos hx, cb_s, Sum.elim_inl, s_isWithin, cb_s, if_neg (show ¬ bI (bt y 0 96) = 0 by rw [bI_z, hy]; decide), cb_s, Sum.elim_inl, W_2, gb_s, W_80, gb_s, W_plO, gb_s, i3, k2, e1, cb_s]
      · obtain ⟨r1, e1, e2, e3⟩ := s_debtCore (g := g) (m := m) (r := wr w) G.1.1 i1 (n := k) k1 (by omega)
        refine ⟨r1, ?_, e3, e2⟩
        rw [i3, k2]
        exact e1
    · refine Qt_q H (B := false) (V := 0) (fun hb => absurd hb (by decide)) (fun _ => ⟨2, Or.inr (Or.inl ⟨rfl, sIA_ne⟩), fun g => ?_, fun g m => ⟨0, RS_setF (wr w) 6 2, ?_, RSF_at _ _ _, Sq.f6⟩⟩)
      · unfold x8_debtAfter x8_demandForeseeable
        rw [W_isO, gb_s, demH G, if_pos hx, cb_s, Sum.elim_inl, s_isWithin, cb_s, if_pos ((bI_z _).mpr (by simpa using hy)), cb_s]
        rfl
      · show x9_debtAfter m x y (putR g m (wr w)) = _
        unfold x9_debtAfter x9_isAheadOfNow
        rw [R_isO, gb_s, eI, cb_s, if_neg (show ¬ bI (isH ((wr w).2 1) x) = 0 by rw [bI_z, hx]; decide), s_isBetween, cb_s, if_pos (bz_bI _), cb_s, if_pos ((bI_z _).mpr (by simpa using hy))]
        unfold x9_debtAfter_j25
        rw [R_putI rfl, gb_s, R_getI rfl, gb_s, if_neg (by rw [RSF_at]; decide)]
  · refine Qt_q H (B := false) (V := 0) (fun hb => absurd hb (by decide)) (fun _ => ⟨1, Or.inl rfl, fun g => ?_, fun g m => ⟨0, RS_setF (wr w) 6 1, ?_, RSF_at _ _ _, Sq.f6⟩⟩)
    · unfold x8_debtAfter
      rw [W_isO, gb_s, demH G, if_neg hx, cb_s]
      rfl
    · show x9_debtAfter m x y (putR g m (wr w)) = _
      unfold x9_debtAfter
      rw [R_isO, gb_s, eI, cb_s, if_pos ((bI_z _).mpr (by simpa using hx))]
      unfold x9_debtAfter_j25
      rw [R_putI rfl, gb_s, R_getI rfl, gb_s, if_neg (by rw [RSF_at]; decide)]
theorem Qt_bestPlaceFor (H : Iv w) (x : Int32) : Qt n w (x8_bestPlaceFor n x) (fun m => x9_bestPlaceFor m x) exI := by
  have G := H.1.1
  by_cases hx : isH ((wr w).2 1) x = true
  · obtain ⟨i, i1, i2, i3, i4⟩ := isH_ex G.1.1 hx
    refine Qt_q H (B := true) (V := oI (bpS ((wr w).2 1) i (nB ((wr w).2 1))).1) (fun _ => ⟨fun g => ?_, fun g m => ?_⟩) (fun hb => absurd rfl hb)
    · obtain ⟨h1, e1⟩ := c_place (g := putW g n w) (t := n + hp 2) (q := n + hp 0) (pl := n + 55) (h := w.1 2) (k := w.1 0) (W_H (by decide)) hd20 W_plA G.1.1 G.1.2.1 G.2.1 i1
      rw [W_H (by decide), W_setH (by decide)] at e1
      refine ⟨h1, ?_⟩
      unfold x8_bestPlaceFor
      rw [W_isO, gb_s, demH G, if_pos hx, cb_s, Sum.elim_inl, W_2, gb_s, W_80, gb_s, W_plO, gb_s, i3, e1, cb_s]
    · obtain ⟨r1, e1, e2, e3⟩ := s_bestPlaceFor (g := g) (m := m) (r := wr w) G.1.1 G.1.2.1 i1
      refine ⟨r1, ?_, e3, e2⟩
      rw [i3]
      exact e1
  · refine Qt_q H (B := false) (V := 0) (fun hb => absurd hb (by decide)) (fun _ => ⟨1, Or.inl rfl, fun g => ?_, fun g m => ⟨0, RS_setF (wr w) 6 1, ?_, RSF_at _ _ _, Sq.f6⟩⟩)
    · unfold x8_bestPlaceFor
      rw [W_isO, gb_s, demH G, if_neg hx, cb_s]
      rfl
    · show x9_bestPlaceFor m x (putR g m (wr w)) = _
      unfold x9_bestPlaceFor
      rw [R_putI rfl, gb_s, R_isO, gb_s, s_isHiker, cb_s, show (RS_setF (wr w) 6 0).2 1 = (wr w).2 1 from rfl, if_pos ((bI_z _).mpr (by simpa using hx)), R_isO, gb_s, s_fail2, cb_s, RSF_two]
theorem Qt_warmestBunk (H : Iv w) (x : Int32) : Qt n w (x8_warmestBunk n x) (fun m => x9_warmestBunk m x) exI := by
  have G := H.1.1
  by_cases hx : isH ((wr w).2 1) x = true
  · obtain ⟨i, i1, i2, i3, i4⟩ := isH_ex G.1.1 hx
    refine Qt_q H (B := true) (V := oI (wbS ((wr w).2 1) i (nB ((wr w).2 1))).1) (fun _ => ⟨fun g => ?_, fun g m => ?_⟩) (fun hb => absurd rfl hb)
    · obtain ⟨h1, e1⟩ := c_warm (g := putW g n w) (t := n + hp 2) (q := n + hp 0) (pl := n + 55) (h := w.1 2) (k := w.1 0) (W_H (by decide)) hd20 W_plA G.1.1 G.1.2.1 G.2.1 i1
      rw [W_H (by decide), W_setH (by decide)] at e1
      refine ⟨h1, ?_⟩
      unfold x8_warmestBunk
      rw [W_isO, gb_s, demH G, if_pos hx, cb_s, Sum.elim_inl, W_2, gb_s, W_80, gb_s, W_plO, gb_s, i3, e1, cb_s]
    · obtain ⟨r1, e1, e2, e3⟩ := s_warm (g := g) (m := m) (r := wr w) G.1.1 G.1.2.1 G.1.2.2.1.2.1 i1
      refine ⟨r1, ?_, e3, e2⟩
      rw [i3]
      exact e1
  · refine Qt_q H (B := false) (V := 0) (fun hb => absurd hb (by decide)) (fun _ => ⟨1, Or.inl rfl, fun g => ?_, fun g m => ⟨0, RS_setF (wr w) 6 1, ?_, RSF_at _ _ _, Sq.f6⟩⟩)
    · unfold x8_warmestBunk
      rw [W_isO, gb_s, demH G, if_neg hx, cb_s]
      rfl
    · show x9_warmestBunk m x (putR g m (wr w)) = _
      unfold x9_warmestBunk
      rw [R_putI rfl, gb_s, R_isO, gb_s, s_isHiker, cb_s, show (RS_setF (wr w) 6 0).2 1 = (wr w).2 1 from rfl, if_pos ((bI_z _).mpr (by simpa using hx)), R_isO, gb_s, s_fail2, cb_s, RSF_two]
theorem Qr_worstSnorer (H : Iv w) : Qr n w (x8_worstSnorer n) x9_worstSnorer := by
  have G := H.1.1
  refine Qr_q H (V := oI (wzS ((wr w).2 1) (nH ((wr w).2 1))).1) (fun g => ?_) (fun g m => ?_)
  · obtain ⟨h1, e1⟩ := c_loud (g := putW g n w) (t := n + hp 2) (q := n + hp 0) (pl := n + 55) (h := w.1 2) (k := w.1 0) (W_H (by decide)) hd20 W_plA G.1.1 G.1.2.1 G.2.1 G.2.2
    rw [W_H (by decide), W_setH (by decide)] at e1
    refine ⟨h1, ?_⟩
    unfold x8_worstSnorer
    rw [W_2, gb_s, W_80, gb_s, W_plO, gb_s, e1, cb_s]
  · obtain ⟨r1, e1, e2, e3⟩ := s_loud (g := g) (m := m) (r := wr w) G.1.1 G.1.2.1
    exact ⟨r1, e1, e3, e2⟩
theorem Qr_bestExchange (H : Iv w) : Qr n w (x8_bestExchange n) x9_bestExchange := by
  have G := H.1.1
  refine Qr_q H (V := (xAll ((wr w).2 1) (nH ((wr w).2 1))).1) (fun g => ⟨w.1 2, ?_⟩) (fun g m => ?_)
  · have e := c_exchangeBest (g := putW g n w) (p := n + hp 0) G.1.1 G.2.1 G.2.2 G.1.2.2.1.2.1
    rw [W_H (by decide)] at e
    rw [wH_self]
    unfold x8_bestExchange
    rw [W_80, gb_s, W_isO3, gb_s, e, cb_s]
  · obtain ⟨r1, e1, e2, e3⟩ := s_exchangeBest (g := g) (m := m) (r := wr w) G.1.1
    exact ⟨r1, e1, e3, e2⟩
theorem Qr_fewestCold (H : Iv w) : Qr n w (x8_fewestCold n) x9_fewestCold := by
  have G := H.1.1
  refine Qr_q H (V := I (fewR ((wr w).2 1))) (fun g => ⟨w.1 2, ?_⟩) (fun g m => ?_)
  · have e := c_fewest (g := putW g n w) (p := n + hp 0) G.1.1 G.2.1 G.2.2 G.1.2.2.1.2.1
    rw [W_H (by decide)] at e
    rw [wH_self]
    unfold x8_fewestCold
    rw [W_80, gb_s, W_isO3, gb_s, e, cb_s]
  · obtain ⟨r1, e1, e2, e3⟩ := s_fewest (g := g) (m := m) (r := wr w) G.1.1 G.1.2.2.1.2.1 G.1.2.2.1.2.2
    exact ⟨r1, e1, e3, e2⟩
theorem Qr_hikersWithout (H : Iv w) : Qr n w (x8_hikersWithout n) x9_hikersWithout := by
  have G := H.1.1
  refine Qr_q H (V := cntW ((wr w).2 1)) (fun g => ⟨w.1 2, ?_⟩) (fun g m => ⟨RS_setF (wr w) 6 0, ?_, RSF_at _ _ _, Sq.f6⟩)
  · have e := c_without (g := putW g n w) (p := n + hp 0) G.1.1 G.2.1
    rw [W_H (by decide)] at e
    rw [wH_self]
    unfold x8_hikersWithout
    rw [W_80, gb_s, W_isO3, gb_s, e, cb_s]
  · unfold x9_hikersWithout
    rw [R_isO, gb_s, s_countWithout G.1.1, cb_s, R_isO, gb_s, s_tell, cb_s]
end WQ6
