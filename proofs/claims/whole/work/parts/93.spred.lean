/-! predictions of the reference -/
theorem tick_ne (s : St × St) {q : Nat} (h : q ≠ 3) : (tick s).1 q = s.1 q := by
  show upd s.1 3 (s.1 3 + 1) q = _
  exact upd_ne h
theorem RSF_at (r : RS) (k : Nat) (v : Int32) : (RS_setF r k v).1 k = v := by
  show upd r.1 k v k = v
  exact upd_at
section SPred
variable {g : AH} {m : Nat} {r : RS} {st : St}
theorem s_aheadOfNow (v : Int32) (g : AH) : x9_isAheadOfNow v g = some (bI (bt v 0 96), g) := by
  unfold x9_isAheadOfNow
  rw [s_isBetween, cb_s, if_pos (bz_bI _)]
theorem hiker_yes (w : Ws st) {i : Nat} (hi : i < nH st) : isH st (I i) = true := by
  rw [isH_has w, w.h.1]
  exact has_I (by have := w.h.2; omega) hi
theorem D_inside {z du : St} (w : Ws z) : x9_inside m (putR g m (RD r z du)) = some (ins z, putR g m (RD r z du)) := s_inside (r := RD r z du) w
theorem D_sumOf {z du : St} (w : Ws z) {f : Nat} {x : Int32} (hx : x = I f) (hf : f < 10) : x9_sumOf m x (putR g m (RD r z du)) = some (sumF z f, putR g m (RD r z du)) := s_sumOf (r := RD r z du) w hx hf
abbrev asR (r : RS) : RS := RS_setA r 2 (cp1 (r.2 1) (r.2 2))
abbrev bkR (r : RS) (du : St) : RS := RS_setA (RS_setA r 2 (cp1 (r.2 1) (r.2 2))) 6 du
theorem s_many2 (w : Ws (r.2 1)) {n : Nat} (hT : nT (r.2 1) + n ≤ 20000) (hn : n < 1000) : x9_passMany m (I n) (putR g m (RD (asR r) (r.2 1) (r.2 6))) = some ((), putR g m (RD (asR r) (manyS n (r.2 1, r.2 6)).1 (manyS n (r.2 1, r.2 6)).2)) := s_passMany (s := (r.2 1, r.2 6)) w hT hn
theorem s_dawn2 (w : Ws (r.2 1)) : x9_toDawn m (putR g m (RD (asR r) (r.2 1) (r.2 6))) = some (I (toDawn (r.2 1)), putR g m (RD (asR r) (r.2 1) (r.2 6))) := s_toDawn (s := (r.2 1, r.2 6)) w
theorem many_hi (w : Ws (r.2 1)) {n : Nat} (hT : nT (r.2 1) + n ≤ 20000) : Hi (r.2 1) (manyS n (r.2 1, r.2 6)).1 := Hi.many (s := (r.2 1, r.2 6)) w n hT
theorem many_w (w : Ws (r.2 1)) {n : Nat} (hT : nT (r.2 1) + n ≤ 20000) : Ws (manyS n (r.2 1, r.2 6)).1 ∧ nT (manyS n (r.2 1, r.2 6)).1 = nT (r.2 1) + n := manyS_ws (s := (r.2 1, r.2 6)) w n hT
theorem s_tempCore (w : Ws (r.2 1)) {n : Nat} (hn : n < 1000) (hT : nT (r.2 1) + n ≤ 20000) : (cb (x9_goAside m (putR g m r)) fun r7 g8 => gb (isO 9 g8 m) fun _ => cb (x9_insideBehind m (I n) g8) fun r12 g13 => gb (isO 9 g13 m) fun _ => cb (x9_comeBack m r12 g13) fun r17 g18 => some (r17, g18)) = some (ins (manyS n (r.2 1, r.2 6)).1, putR g m (bkR r (manyS n (r.2 1, r.2 6)).2)) := by
  unfold x9_insideBehind
  rw [s_goAside2, cb_s, R_isO, gb_s, gb_s, s_many2 w hT hn, cb_s, R_isO, gb_s, D_inside (many_w w hT).1, cb_s, cb_s, R_isO, gb_s, s_aside (many_hi w hT), cb_s]
theorem s_temperatureAfter (w : Ws (r.2 1)) {n : Nat} (hn : n ≤ 96) (hT : nT (r.2 1) + 96 ≤ 20000) : ∃ r1, x9_temperatureAfter m (I n) (putR g m r) = some (ins (manyS n (r.2 1, r.2 6)).1, putR g m r1) ∧ Sq r r1 ∧ r1.1 6 = 0 := by
  have hb : bt (I n) 0 96 = true := by
    unfold bt
    simp only [Bool.and_eq_true, Bool.not_eq_true', decide_eq_false_iff_not]
    refine ⟨Int32.not_lt.mpr (Int32.zero_le_ofNat_of_lt (by omega)), ?_⟩
    rw [show (96 : Int32) = I 96 from rfl, I_lt (by decide) (by omega)]
    omega
  unfold x9_temperatureAfter
  rw [R_putI rfl, gb_s, s_aheadOfNow, cb_s, hb, if_neg (by decide), R_isO, gb_s]
  exact ⟨_, s_tempCore (r := RS_setF r 6 0) w (by omega) (show nT (r.2 1) + n ≤ 20000 by omega), Sq.f6.trans s_asideSq, rfl⟩
theorem s_shivCore (w : Ws (r.2 1)) {i : Nat} (hi : i < 10) (hT : nT (r.2 1) + 8 ≤ 20000) : (cb (x9_goAside m (putR g m r)) fun r9 g10 => gb (isO 9 g10 m) fun _ => cb (x9_toDawn m g10) fun r14 g15 => gb (isO 9 g15 m) fun _ => cb (x9_growth m (I i) 6 r14 g15) fun r19 g20 => gb (isO 9 g20 m) fun _ => cb (x9_comeBack m r19 g20) fun r24 g25 => some (r24, g25)) = some (hk (manyS (toDawn (r.2 1)) (r.2 1, r.2 6)).1 i 6 - hk (r.2 1) i 6, putR g m (bkR r (manyS (toDawn (r.2 1)) (r.2 1, r.2 6)).2)) := by
  have hle := toDawn_le (r.2 1)
  have hT2 : nT (r.2 1) + toDawn (r.2 1) ≤ 20000 := by omega
  unfold x9_growth
  rw [s_goAside2, cb_s, R_isO, gb_s, s_dawn2 w, cb_s, R_isO, gb_s, gb_s, D_get (f := 6) (x := 6) rfl hi (by decide), cb_s, R_isO, gb_s, s_many2 w hT2 (by omega), cb_s, R_isO, gb_s, D_get (f := 6) (x := 6) rfl hi (by decide), cb_s, cb_s, R_isO, gb_s, s_aside (many_hi w hT2), cb_s]
theorem s_shivers (w : Ws (r.2 1)) {i : Nat} (hi : i < nH (r.2 1)) (hT : nT (r.2 1) + 8 ≤ 20000) : ∃ r1, x9_shiversUntilDawn m (I i) (putR g m r) = some (hk (manyS (toDawn (r.2 1)) (r.2 1, r.2 6)).1 i 6 - hk (r.2 1) i 6, putR g m r1) ∧ Sq r r1 ∧ r1.1 6 = 0 := by
  have hi0 : i < 10 := by have := w.h.2; omega
  unfold x9_shiversUntilDawn
  rw [R_putI rfl, gb_s, R_isO, gb_s, s_isHiker, cb_s, show isH ((RS_setF r 6 0).2 1) (I i) = true from hiker_yes w hi, if_neg (by decide), R_isO, gb_s]
  exact ⟨_, s_shivCore (r := RS_setF r 6 0) w hi0 hT, Sq.f6.trans s_asideSq, rfl⟩
theorem due_eq {s : St × St} (w : Ws s.1) {i : Nat} (hi : i < nH s.1) (hT : nT s.1 + 8 ≤ 20000) : (manyS (toDawn s.1) s).2 i = payV s i := by
  have hle := toDawn_le s.1
  have hi0 : i < 10 := by have := w.h.2; omega
  have hk1 : toDawn s.1 = (toDawn s.1 - 1) + 1 := by omega
  have hT1 : nT s.1 + (toDawn s.1 - 1) ≤ 20000 := by omega
  obtain ⟨w1, t1⟩ := manyS_ws w (toDawn s.1 - 1) hT1
  obtain ⟨w2, t2⟩ := manyU_ws w (toDawn s.1 - 1) hT1
  have e := E2_many w (toDawn s.1 - 1) hT1
  have hn := many_nH w (toDawn s.1 - 1) hT1
  have hdef : toDawn s.1 - 1 = 7 - nT s.1 % 8 := by unfold toDawn; omega
  unfold payV
  rw [hk1, show toDawn s.1 - 1 + 1 - 1 = toDawn s.1 - 1 by omega]
  show (hourS (manyS (toDawn s.1 - 1) s)).2 i = _
  generalize manyS (toDawn s.1 - 1) s = a at w1 t1 e hn ⊢
  generalize manyU (toDawn s.1 - 1) s = b at w2 t2 e ⊢
  have kb := burn_kp a.1
  have wb := kb.ws w1
  have kn := kb.trans (ntS_kp (s := (burnS a.1, a.2)) wb)
  have wn := kn.ws w1
  obtain ⟨wt, tt⟩ := tick_ws wn (by rw [Kp_nT kn]; omega)
  rw [Kp_nT kn] at tt
  have eb : Eh (burnS b.1) (burnS a.1) := e.1.burn
  have en : Eh (burnS b.1) (ntS (burnS a.1, a.2)).1 := eb.trans (E2_nt (nH (burnS a.1)) wb.h.2 (burnS a.1, a.2)).1
  have wbb := (burn_kp b.1).ws w2
  have hlo : ∀ q, q < 49 → q ≠ 3 → (tick (ntS (burnS a.1, a.2))).1 q = burnS b.1 q := fun q hq hq3 => by
    have e1 : (tick (ntS (burnS a.1, a.2))).1 q = (ntS (burnS a.1, a.2)).1 q := tick_ne _ hq3
    rw [e1, en.lo hq]
  have hh5 : hk (tick (ntS (burnS a.1, a.2))).1 i 5 = hk (burnS b.1) i 5 := by
    have e1 : hk (tick (ntS (burnS a.1, a.2))).1 i 5 = hk (ntS (burnS a.1, a.2)).1 i 5 := tick_ne _ (by omega)
    rw [e1, en.h6 (f := 5) (by decide)]
  have hnt : nH (tick (ntS (burnS a.1, a.2))).1 = nH a.1 := by
    have : nH (tick (ntS (burnS a.1, a.2))).1 = nH (ntS (burnS a.1, a.2)).1 := by
      unfold nH
      rw [show (tick (ntS (burnS a.1, a.2))).1 12 = (ntS (burnS a.1, a.2)).1 12 from tick_ne _ (by decide)]
    rw [this, Kp_nH kn]
  unfold hourS endS
  generalize tick (ntS (burnS a.1, a.2)) = t at wt tt hlo hh5 hnt ⊢
  have hm : t.1 3 - t.1 3 / 8 * 8 = I (nT t.1 % 8) := by rw [wt.t.1]; exact mod8 (by have := wt.t.2; omega)
  have h0 : nT t.1 % 8 = 0 := by
    rw [tt, t1, hdef]
    omega
  rw [hm, h0, if_pos (show I 0 = 0 from rfl), dawn_du wt (by rw [hnt, hn]; exact hi)]
  unfold dueV fee
  rw [hlo 5 (by decide) (by decide), hlo 12 (by decide) (by decide), thk_of t.1 wbb (fun q h1 h2 => hlo q (by omega) (by omega)) hi0 hh5]
theorem s_payCore (w : Ws (r.2 1)) {i : Nat} (hi : i < nH (r.2 1)) (hT : nT (r.2 1) + 8 ≤ 20000) : (cb (x9_goAside m (putR g m r)) fun r9 g10 => gb (isO 9 g10 m) fun _ => cb (x9_dueAtDawn m (I i) g10) fun r14 g15 => gb (isO 9 g15 m) fun _ => cb (x9_comeBack m r14 g15) fun r19 g20 => some (r19, g20)) = some (payV (r.2 1, r.2 6) i, putR g m (bkR r (manyS (toDawn (r.2 1)) (r.2 1, r.2 6)).2)) := by
  have hi0 : i < 10 := by have := w.h.2; omega
  have hle := toDawn_le (r.2 1)
  have hT2 : nT (r.2 1) + toDawn (r.2 1) ≤ 20000 := by omega
  have hdu : (manyS (toDawn (r.2 1)) (r.2 1, r.2 6)).2 i = payV (r.2 1, r.2 6) i := due_eq (s := (r.2 1, r.2 6)) w hi hT
  unfold x9_dueAtDawn
  rw [s_goAside2, cb_s, R_isO, gb_s, gb_s, s_dawn2 w, cb_s, R_isO, gb_s, s_many2 w hT2 (by omega), cb_s, R_getR (d := 6) rfl, gb_s, D_ald6 hi0, gb_s, cb_s, R_isO, gb_s, s_aside (many_hi w hT2), cb_s, hdu]
theorem s_payment (w : Ws (r.2 1)) {i : Nat} (hi : i < nH (r.2 1)) (hT : nT (r.2 1) + 8 ≤ 20000) : ∃ r1, x9_paymentAtDawn m (I i) (putR g m r) = some (payV (r.2 1, r.2 6) i, putR g m r1) ∧ Sq r r1 ∧ r1.1 6 = 0 := by
  unfold x9_paymentAtDawn
  rw [R_putI rfl, gb_s, R_isO, gb_s, s_isHiker, cb_s, show isH ((RS_setF r 6 0).2 1) (I i) = true from hiker_yes w hi, if_neg (by decide), R_isO, gb_s]
  exact ⟨_, s_payCore (r := RS_setF r 6 0) w hi hT, Sq.f6.trans s_asideSq, rfl⟩
theorem s_debtC (w : Ws (r.2 1)) {i n : Nat} (hi : i < 10) (hn : n < 1000) (hT : nT (r.2 1) + n ≤ 20000) : (cb (x9_goAside m (putR g m r)) fun r6 g7 => gb (isO 9 g7 m) fun _ => cb (x9_debtBehind m (I i) (I n) g7) fun r11 g12 => gb (isO 9 g12 m) fun _ => cb (x9_comeBack m r11 g12) fun r16 g17 => some (r16, g17)) = some (hk (manyS n (r.2 1, r.2 6)).1 i 3, putR g m (bkR r (manyS n (r.2 1, r.2 6)).2)) := by
  unfold x9_debtBehind
  rw [s_goAside2, cb_s, R_isO, gb_s, gb_s, s_many2 w hT hn, cb_s, R_isO, gb_s, D_get (f := 3) (x := 3) rfl hi (by decide), cb_s, cb_s, R_isO, gb_s, s_aside (many_hi w hT), cb_s]
theorem s_debtCore (w : Ws (r.2 1)) {i n : Nat} (hi : i < nH (r.2 1)) (hn : n ≤ 96) (hT : nT (r.2 1) + 96 ≤ 20000) : ∃ r1, x9_debtAfter m (I i) (I n) (putR g m r) = some (hk (manyS n (r.2 1, r.2 6)).1 i 3, putR g m r1) ∧ Sq r r1 ∧ r1.1 6 = 0 := by
  have hi0 : i < 10 := by have := w.h.2; omega
  have hb : bt (I n) 0 96 = true := by
    unfold bt
    simp only [Bool.and_eq_true, Bool.not_eq_true', decide_eq_false_iff_not]
    refine ⟨Int32.not_lt.mpr (Int32.zero_le_ofNat_of_lt (by omega)), ?_⟩
    rw [show (96 : Int32) = I 96 from rfl, I_lt (by decide) (by omega)]
    omega
  unfold x9_debtAfter x9_debtAfter_j25
  rw [R_isO, gb_s, s_isHiker, cb_s, hiker_yes w hi, if_neg (by decide), s_aheadOfNow, cb_s, hb, if_neg (by decide), R_putI rfl, gb_s, R_getI rfl, gb_s, RSF_at, if_pos (show (0 : Int32) ≤ 0 by decide), R_isO, gb_s]
  exact ⟨_, s_debtC (r := RS_setF r 6 0) w hi0 (by omega) (show nT (r.2 1) + n ≤ 20000 by omega), Sq.f6.trans s_asideSq, rfl⟩
theorem dw_hi {s : St × St} (w : Ws s.1) : ∀ k, nT s.1 + 8 * k ≤ 20000 → Hi s.1 (dwS s k).1 := by
  intro k
  induction k with
  | zero => intro _; exact Hi.refl
  | succ k ih =>
    intro hk0
    have ok := dw_ok w k (by omega)
    have hle := toDawn_le (dwS s k).1
    exact (ih (by omega)).trans (Hi.many ok.1 _ (by have := ok.2.2.1; omega))
theorem s_dawnsCore (w : Ws (r.2 1)) {i : Nat} (hi : i < nH (r.2 1)) (hT : nT (r.2 1) ≤ 10000) : ∃ du, (cb (x9_goAside m (putR g m r)) fun r9 g10 => gb (isO 9 g10 m) fun _ => cb (x9_dawnsToDebt m (I i) g10) fun r14 g15 => gb (isO 9 g15 m) fun _ => cb (x9_comeBack m r14 g15) fun r19 g20 => some (r19, g20)) = some (oI (ff (ddP (r.2 1, r.2 6) i) 13), putR g m (bkR r du)) := by
  have hi0 : i < 10 := by have := w.h.2; omega
  unfold x9_dawnsToDebt
  rw [s_goAside2, cb_s, R_isO, gb_s]
  obtain ⟨g2, e2, j, hj, rfl⟩ := loop_fnd (body := x9_dawnsToDebt_l2 m (I i)) (n := 13) (fuel := 1000) (g := putR g m (RD (asR r) (r.2 1) (r.2 6))) (ddP (r.2 1, r.2 6) i) (fun j g1 => j ≤ 13 ∧ g1 = putR g m (RD (asR r) (dwS (r.2 1, r.2 6) j).1 (dwS (r.2 1, r.2 6) j).2)) (fun j g1 hj h0 hp => by
    obtain ⟨-, rfl⟩ := h0
    have ok := dw_ok (s := (r.2 1, r.2 6)) w j (by show nT (r.2 1) + _ ≤ _; omega)
    have hle := toDawn_le (dwS (r.2 1, r.2 6) j).1
    have ht3 : nT (dwS (r.2 1, r.2 6) j).1 ≤ nT (r.2 1) + 8 * j := ok.2.2.1
    unfold x9_dawnsToDebt_l2
    rw [if_neg (by rw [show (12 : Int32) = I 12 from rfl, I_lt (by decide) (by omega)]; omega), R_isO, gb_s, D_get (f := 3) (x := 3) rfl hi0 (by decide), cb_s, if_pos (Int32.not_lt.mp (of_decide_eq_false hp)), R_isO, gb_s, s_toDawn ok.1, cb_s, R_isO, gb_s, s_passMany ok.1 (by omega) (by omega), cb_s, I_succ]
    exact ⟨_, rfl, by omega, rfl⟩) (fun j g1 hj h0 hp => by
    obtain ⟨-, rfl⟩ := h0
    unfold x9_dawnsToDebt_l2
    rw [if_neg (by rw [show (12 : Int32) = I 12 from rfl, I_lt (by decide) (by omega)]; omega), R_isO, gb_s, D_get (f := 3) (x := 3) rfl hi0 (by decide), cb_s, if_neg (Int32.not_le.mpr (of_decide_eq_true hp))]
    exact ⟨_, rfl, j, by omega, rfl⟩) (fun g1 h0 => by
    obtain ⟨-, rfl⟩ := h0
    unfold x9_dawnsToDebt_l2
    rw [if_pos (by decide)]
    exact ⟨_, rfl, 13, by omega, rfl⟩) (by decide) ⟨by decide, rfl⟩
  have hhi : Hi (r.2 1) (dwS (r.2 1, r.2 6) j).1 := dw_hi (s := (r.2 1, r.2 6)) w j (by show nT (r.2 1) + _ ≤ _; omega)
  refine ⟨(dwS (r.2 1, r.2 6) j).2, ?_⟩
  rw [e2, cb_s]
  cases ff (ddP (r.2 1, r.2 6) i) 13 with
  | none =>
    show (cb (some ((-1 : Int32), _)) _) = _
    rw [cb_s, R_isO, gb_s, s_aside hhi, cb_s]
    rfl
  | some k =>
    show (cb (some (I k, _)) _) = _
    rw [cb_s, R_isO, gb_s, s_aside hhi, cb_s]
    rfl
theorem s_dawnsUntil (w : Ws (r.2 1)) {i : Nat} (hi : i < nH (r.2 1)) (hT : nT (r.2 1) ≤ 10000) : ∃ r1, x9_dawnsUntilDebt m (I i) (putR g m r) = some (oI (ff (ddP (r.2 1, r.2 6) i) 13), putR g m r1) ∧ Sq r r1 ∧ r1.1 6 = 0 := by
  obtain ⟨du, e⟩ := s_dawnsCore (g := g) (m := m) (r := RS_setF r 6 0) w hi hT
  unfold x9_dawnsUntilDebt
  rw [R_putI rfl, gb_s, R_isO, gb_s, s_isHiker, cb_s, show isH ((RS_setF r 6 0).2 1) (I i) = true from hiker_yes w hi, if_neg (by decide), R_isO, gb_s]
  exact ⟨_, e, Sq.f6.trans s_asideSq, rfl⟩
theorem s_noLogsCore (w : Ws (r.2 1)) (hT : nT (r.2 1) ≤ 10000) : ∃ du, (cb (x9_goAside m (putR g m r)) fun r3 g4 => gb (isO 9 g4 m) fun _ => cb (x9_hoursToNoLogs m g4) fun r8 g9 => gb (isO 9 g9 m) fun _ => cb (x9_comeBack m r8 g9) fun r13 g14 => some (r13, g14)) = some (oI (ff (nlP (r.2 1, r.2 6)) 97), putR g m (bkR r du)) := by
  unfold x9_hoursToNoLogs
  rw [s_goAside2, cb_s, R_isO, gb_s]
  obtain ⟨g2, e2, j, hj, rfl⟩ := loop_fnd (body := x9_hoursToNoLogs_l2 m) (n := 97) (fuel := 1000) (g := putR g m (RD (asR r) (r.2 1) (r.2 6))) (nlP (r.2 1, r.2 6)) (fun j g1 => j ≤ 97 ∧ g1 = putR g m (RD (asR r) (manyS j (r.2 1, r.2 6)).1 (manyS j (r.2 1, r.2 6)).2)) (fun j g1 hj h0 hp => by
    obtain ⟨-, rfl⟩ := h0
    obtain ⟨w2, t2⟩ := many_w w (n := j) (by omega)
    unfold x9_hoursToNoLogs_l2
    rw [if_neg (by rw [show (96 : Int32) = I 96 from rfl, I_lt (by decide) (by omega)]; omega), R_getR rfl, gb_s, D_ald (k := 0) (x := 0) rfl (by decide), gb_s, if_neg (of_decide_eq_false hp), R_isO, gb_s, s_passHour w2 (by omega), cb_s, I_succ]
    exact ⟨_, rfl, by omega, rfl⟩) (fun j g1 hj h0 hp => by
    obtain ⟨-, rfl⟩ := h0
    unfold x9_hoursToNoLogs_l2
    rw [if_neg (by rw [show (96 : Int32) = I 96 from rfl, I_lt (by decide) (by omega)]; omega), R_getR rfl, gb_s, D_ald (k := 0) (x := 0) rfl (by decide), gb_s, if_pos (of_decide_eq_true hp)]
    exact ⟨_, rfl, j, by omega, rfl⟩) (fun g1 h0 => by
    obtain ⟨-, rfl⟩ := h0
    unfold x9_hoursToNoLogs_l2
    rw [if_pos (by decide)]
    exact ⟨_, rfl, 97, by omega, rfl⟩) (by decide) ⟨by decide, rfl⟩
  have hhi := many_hi w (n := j) (by omega)
  refine ⟨(manyS j (r.2 1, r.2 6)).2, ?_⟩
  rw [e2, cb_s]
  cases ff (nlP (r.2 1, r.2 6)) 97 with
  | none =>
    show (cb (some ((-1 : Int32), _)) _) = _
    rw [cb_s, R_isO, gb_s, s_aside hhi, cb_s]
    rfl
  | some k =>
    show (cb (some (I k, _)) _) = _
    rw [cb_s, R_isO, gb_s, s_aside hhi, cb_s]
    rfl
theorem s_noLogs (w : Ws (r.2 1)) (hT : nT (r.2 1) ≤ 10000) : ∃ r1, x9_hoursUntilNoLogs m (putR g m r) = some (oI (ff (nlP (r.2 1, r.2 6)) 97), putR g m r1) ∧ Sq r r1 ∧ r1.1 6 = 0 := by
  obtain ⟨du, e⟩ := s_noLogsCore (g := g) (m := m) (r := RS_setF r 6 0) w hT
  unfold x9_hoursUntilNoLogs
  rw [R_putI rfl, gb_s, R_isO, gb_s]
  exact ⟨_, e, Sq.f6.trans s_asideSq, rfl⟩
/-- one rate tried out -/
theorem s_rate (w : Ws (r.2 1)) (hT : nT (r.2 1) + 8 ≤ 20000) {d : Nat} {x : Int32} (hd4 : d < 4) (hx : x = I d) (v : Int32) : ∃ g1 r1, x9_goAside m (putR g m r) = some ((), g1) ∧ isO 9 g1 m = some () ∧ ∃ g2, x9_hoursWith m v x g1 = some (hwV (r.2 1) v d, g2) ∧ isO 9 g2 m = some () ∧ x9_comeBack m (hwV (r.2 1) v d) g2 = some (hwV (r.2 1) v d, putR g m r1) ∧ Sq r r1 ∧ r1.1 6 = r.1 6 := by
  have hle := toDawn_le (r.2 1)
  have kp : Kp (r.2 1) (upd (r.2 1) 1 v) := Kp_upF (by decide) (by decide)
  have wr := kp.ws w
  have tr := Kp_nT kp
  have td : toDawn (upd (r.2 1) 1 v) = toDawn (r.2 1) := by unfold toDawn; rw [tr]
  have hT2 : nT (upd (r.2 1) 1 v, r.2 6).1 + toDawn (r.2 1) ≤ 20000 := by show nT (upd (r.2 1) 1 v) + _ ≤ _; omega
  have hhi : Hi (r.2 1) (manyS (toDawn (r.2 1)) (upd (r.2 1) 1 v, r.2 6)).1 := Hi.trans (Hi.refl.up (by decide)) (Hi.many (s := (upd (r.2 1) 1 v, r.2 6)) wr _ hT2)
  obtain ⟨w3, -⟩ := manyS_ws (s := (upd (r.2 1) 1 v, r.2 6)) wr (toDawn (r.2 1)) hT2
  have e1 : x9_passMany m (I (toDawn (r.2 1))) (putR g m (RD (asR r) (upd (r.2 1) 1 v) (r.2 6))) = some ((), putR g m (RD (asR r) (manyS (toDawn (r.2 1)) (upd (r.2 1) 1 v, r.2 6)).1 (manyS (toDawn (r.2 1)) (upd (r.2 1) 1 v, r.2 6)).2)) := s_passMany (s := (upd (r.2 1) 1 v, r.2 6)) wr hT2 (by omega)
  have e0 : x9_toDawn m (putR g m (RD (asR r) (upd (r.2 1) 1 v) (r.2 6))) = some (I (toDawn (upd (r.2 1) 1 v)), putR g m (RD (asR r) (upd (r.2 1) 1 v) (r.2 6))) := s_toDawn (s := (upd (r.2 1) 1 v, r.2 6)) wr
  have hx6 : (6 : Int32) + x = I (6 + d) := by rw [hx, ← I_add]; rfl
  have hs0 : sumF (upd (r.2 1) 1 v) (6 + d) = sumF (r.2 1) (6 + d) := sumF_ch (Ch.refl.up (mi_lo (by decide))) (by omega) (by omega)
  rw [td] at e0
  refine ⟨putR g m (RD (asR r) (r.2 1) (r.2 6)), bkR r (manyS (toDawn (r.2 1)) (upd (r.2 1) 1 v, r.2 6)).2, s_goAside2, R_isO, putR g m (RD (asR r) (manyS (toDawn (r.2 1)) (upd (r.2 1) 1 v, r.2 6)).1 (manyS (toDawn (r.2 1)) (upd (r.2 1) 1 v, r.2 6)).2), ?_, R_isO, s_aside hhi _, s_asideSq, rfl⟩
  unfold x9_hoursWith hwV
  rw [R_getR rfl, gb_s, D_ast (k := 1) (x := 1) rfl (by decide), gb_s, R_isO, gb_s, D_sumOf wr hx6 (by omega), cb_s, R_isO, gb_s, e0, cb_s, R_isO, gb_s, e1, cb_s, R_isO, gb_s, D_sumOf w3 hx6 (by omega), cb_s, manyZ_eq, hs0]
theorem s_rateNeeded (w : Ws (r.2 1)) (hT : nT (r.2 1) + 8 ≤ 20000) : ∃ r1, x9_rateNeeded m (putR g m r) = some (oI (ff (rnP (r.2 1)) 4), putR g m r1) ∧ Sq r r1 ∧ r1.1 6 = 0 := by
  unfold x9_rateNeeded
  rw [R_putI rfl, gb_s]
  obtain ⟨g2, e2, j, r2, rfl, q1, q2⟩ := loop_fnd (body := x9_rateNeeded_l7 m) (n := 4) (fuel := 1000) (g := putR g m (RS_setF r 6 0)) (rnP (r.2 1)) (fun j g1 => ∃ r1, g1 = putR g m r1 ∧ Sq (RS_setF r 6 0) r1 ∧ r1.1 6 = 0) (fun j g1 hj h0 hp => by
    obtain ⟨r1, rfl, q1, q2⟩ := h0
    have e1 : r1.2 1 = r.2 1 := q1.st
    obtain ⟨a1, r2, a2, a3, a4, a5, a6, a7, a8, a9⟩ := s_rate (g := g) (m := m) (r := r1) (by rw [e1]; exact w) (by rw [e1]; exact hT) (d := 0) (x := 0) (by decide) rfl (I j)
    rw [e1] at a5 a7
    unfold x9_rateNeeded_l7
    rw [if_neg (by rw [show (3 : Int32) = I 3 from rfl, I_lt (by decide) (by omega)]; omega), R_isO, gb_s, a2, cb_s, a3, gb_s, a5, cb_s, a6, gb_s, a7, cb_s, if_neg (of_decide_eq_false hp), I_succ]
    exact ⟨_, rfl, r2, rfl, q1.trans a8, a9.trans q2⟩) (fun j g1 hj h0 hp => by
    obtain ⟨r1, rfl, q1, q2⟩ := h0
    have e1 : r1.2 1 = r.2 1 := q1.st
    obtain ⟨a1, r2, a2, a3, a4, a5, a6, a7, a8, a9⟩ := s_rate (g := g) (m := m) (r := r1) (by rw [e1]; exact w) (by rw [e1]; exact hT) (d := 0) (x := 0) (by decide) rfl (I j)
    rw [e1] at a5 a7
    unfold x9_rateNeeded_l7
    rw [if_neg (by rw [show (3 : Int32) = I 3 from rfl, I_lt (by decide) (by omega)]; omega), R_isO, gb_s, a2, cb_s, a3, gb_s, a5, cb_s, a6, gb_s, a7, cb_s, if_pos (of_decide_eq_true hp)]
    exact ⟨_, rfl, j, r2, rfl, q1.trans a8, a9.trans q2⟩) (fun g1 h0 => by
    unfold x9_rateNeeded_l7
    rw [if_pos (by decide)]
    exact ⟨_, rfl, 4, h0⟩) (by decide) ⟨_, rfl, Sq.refl, rfl⟩
  rw [e2, cb_s]
  refine ⟨r2, ?_, Sq.f6.trans q1, q2⟩
  cases ff (rnP (r.2 1)) 4 <;> rfl
theorem hwV_pos (w : Ws st) (hT : nT st + 8 ≤ 20000) {d : Nat} (hd4 : d < 4) (v : Int32) : ∃ c, c ≤ 80 ∧ hwV st v d = I c := by
  have hle := toDawn_le st
  have kp : Kp st (upd st 1 v) := Kp_upF (by decide) (by decide)
  have tr := Kp_nT kp
  obtain ⟨c, c1, c2⟩ := many_grow (f := 6 + d) (by omega) (by omega) (s := (upd st 1 v, fun _ => 0)) (kp.ws w) (toDawn st) (by show nT (upd st 1 v) + _ ≤ _; omega)
  have hs0 : sumF (upd st 1 v) (6 + d) = sumF st (6 + d) := sumF_ch (Ch.refl.up (mi_lo (by decide))) (by omega) (by omega)
  refine ⟨c, by omega, ?_⟩
  unfold hwV manyZ
  rw [c2, hs0, Int32.add_comm, Int32.add_sub_cancel]
theorem s_bestRate (w : Ws (r.2 1)) (hT : nT (r.2 1) + 8 ≤ 20000) : ∃ r1, x9_bestRate m (putR g m r) = some (I (brS (r.2 1) 3).1, putR g m r1) ∧ Sq r r1 ∧ r1.1 6 = 0 := by
  unfold x9_bestRate
  rw [R_putI rfl, gb_s]
  have H := loop_inv (body := x9_bestRate_l11 m) (n := 4) (fuel := 1000) (s := (0, -1, 0)) (g := putR g m (RS_setF r 6 0)) (fun n s g1 => s = (match n with | 0 => (0, -1, 0) | k + 1 => (I (brS (r.2 1) k).1, (brS (r.2 1) k).2, I (k + 1))) ∧ ∃ r1, g1 = putR g m r1 ∧ Sq (RS_setF r 6 0) r1 ∧ r1.1 6 = 0) (fun s g1 => s = I (brS (r.2 1) 3).1 ∧ ∃ r1, g1 = putR g m r1 ∧ Sq (RS_setF r 6 0) r1 ∧ r1.1 6 = 0) (fun n s g1 hn h0 => by
      obtain ⟨rfl, r1, rfl, q1, q2⟩ := h0
      have e1 : r1.2 1 = r.2 1 := q1.st
      obtain ⟨a1, r2, a2, a3, a4, a5, a6, a7, a8, a9⟩ := s_rate (g := g) (m := m) (r := r1) (by rw [e1]; exact w) (by rw [e1]; exact hT) (d := 2) (x := 2) (by decide) rfl (I n)
      rw [e1] at a5 a7
      have P : ∃ r3, putR g m r2 = putR g m r3 ∧ Sq (RS_setF r 6 0) r3 ∧ r3.1 6 = 0 := ⟨r2, rfl, q1.trans a8, a9.trans q2⟩
      cases n with
      | zero =>
        obtain ⟨c, c1, c2⟩ := hwV_pos w hT (d := 2) (by decide) (I 0)
        have hgt : (-1 : Int32) < hwV (r.2 1) (I 0) 2 := by
          rw [c2]
          exact Int32.lt_of_lt_of_le (by decide : (-1 : Int32) < 0) (Int32.zero_le_ofNat_of_lt (by omega))
        unfold x9_bestRate_l11 x9_bestRate_j43_11
        dsimp only
        rw [if_neg (by decide), R_isO, gb_s, a2, cb_s, a3, gb_s, show x9_hoursWith m 0 2 a1 = _ from a5, cb_s, a6, gb_s, a7, cb_s, if_neg (Int32.not_le.mpr hgt), if_pos hgt]
        exact ⟨_, _, rfl, rfl, P⟩
      | succ k =>
        unfold x9_bestRate_l11 x9_bestRate_j43_11
        dsimp only
        rw [if_neg (by rw [show (3 : Int32) = I 3 from rfl, I_lt (by decide) (by omega)]; omega), R_isO, gb_s, a2, cb_s, a3, gb_s, a5, cb_s, a6, gb_s, a7, cb_s, I_succ, brS]
        by_cases hc : hwV (r.2 1) (I (k + 1)) 2 ≤ (brS (r.2 1) k).2
        · rw [if_pos hc, if_neg (Int32.not_lt.mpr hc), if_neg (Int32.not_lt.mpr hc)]
          exact ⟨_, _, rfl, rfl, P⟩
        · rw [if_neg hc, if_pos (Int32.not_le.mp hc), if_pos (Int32.not_le.mp hc)]
          exact ⟨_, _, rfl, rfl, P⟩) (fun s g1 h0 => by
      obtain ⟨rfl, P⟩ := h0
      unfold x9_bestRate_l11
      dsimp only
      rw [if_pos (by decide)]
      exact ⟨_, _, rfl, rfl, P⟩) (by decide) ⟨rfl, _, rfl, Sq.refl, rfl⟩
  obtain ⟨t2, g2, e3, rfl, r3, rfl, q1, q2⟩ := H
  rw [e3, cb_s]
  exact ⟨r3, rfl, Sq.f6.trans q1, q2⟩
end SPred
