/-! the world runs a script -/
/-- what always holds, put together again -/
theorem Iv_mk {w w' : WS} {r r' : RS} {l : List Nat} (hJ : J w' r') (hD : Dr (w'.1 1)) (hS : ∀ j, j < 2 → w.2.2.1 j = r.2 5 j ∧ (¬ r.2 5 j = 0 → Gm (ent (r.2 4) j) (w.1 (9 + j)))) (e1 : w'.2.2.1 = w.2.2.1) (e2 : ∀ j, j < 2 → w'.1 (9 + j) = w.1 (9 + j)) (e3 : ∀ d, d = 4 ∨ d = 5 ∨ d = 10 → r'.2 d = r.2 d) (hT : Tr w'.2.2.2.1 r') (o1 : OC w.2.2.2.2.2.1 l) (o2 : OR r l) (o3 : l.length ≤ 300) (e4 : w'.2.2.2.2.2.1 = w.2.2.2.2.2.1) (e5 : r'.1 20 = r.1 20) : Iv (wR w' r') := by
  refine ⟨hJ, hD, fun j hj => ?_, hT, l, ?_, ⟨e5.trans o2.1, fun i hi => ?_⟩, o3⟩
  · obtain ⟨q1, q2⟩ := hS j hj
    show w'.2.2.1 j = r'.2 5 j ∧ (¬ r'.2 5 j = 0 → Gm (ent (r'.2 4) j) (w'.1 (9 + j)))
    rw [e1, e3 5 (Or.inr (Or.inl rfl)), e3 4 (Or.inl rfl), e2 j hj]
    exact ⟨q1, q2⟩
  · show OC w'.2.2.2.2.2.1 l
    rw [e4]
    exact o1
  · show r'.2 10 i &&& 255 = _
    rw [e3 10 (Or.inr (Or.inr rfl))]
    exact o2.2 i hi
theorem pT_z {gi T : Nat → Int32} {L s : Nat} : pT (pC gi T L s) 1 0 = (gi, tiC (I 0) (I (tk T L s)) (I s) (I (te T L s)), T) := by
  show (gi, upd (tiC (I L) (I (tk T L s)) (I s) (I (te T L s))) 1 0, T) = _
  rw [ti1]
  rfl
section RunW
variable {n : Nat} {w : WS}
theorem Qr_run (H : Iv w) : Qr n w (x8_runScript n) x9_runScript := by
  obtain ⟨HJ, HD, HS', ⟨L, ec, ep, cnt, a, b, c, T, hpar, hL, h9, hT, h14, h15⟩, l, o1, o2, o3⟩ := H
  intro g
  generalize hr : wr w = r at HJ HS' h9 hT h14 h15 o2
  have eW : GS (putW g n w) (n + 303) (giC ec ep cnt, tiC (I L) a b c, T) (n + 306) w.2.2.2.2.1 = putW g n w := by
    rw [GS_W, ← hpar]
    rfl
  -- the base of the reference's reading
  have bT : Tx (stB (RS_setF r 6 0)) T L := hT
  have b9 : (RS_setF r 6 0).1 9 = I L := (RSF_ne (by decide)).trans h9
  have b17 : (stB (RS_setF r 6 0)).1 17 = I ([] : List Cm).length := RSF_at _ _ _
  have bf : ∀ k, k ≠ 6 → k ≠ 12 → k ≠ 14 → k ≠ 15 → k ≠ 17 → (stB (RS_setF r 6 0)).1 k = r.1 k := fun k h6 h1 h2 h3 h4 => (RSF_ne h4).trans ((RSF_ne h1).trans ((RSF_ne h3).trans ((RSF_ne h2).trans (RSF_ne h6))))
  have b6 : (stB (RS_setF r 6 0)).1 6 = 0 := (RSF_ne (by decide)).trans ((RSF_ne (by decide)).trans ((RSF_ne (by decide)).trans ((RSF_ne (by decide)).trans (RSF_at _ _ _))))
  have fin : ∀ (r0' r1 : RS), Rs (stB (RS_setF r 6 0)) r0' → Pq r0' r1 → r1.2 1 = r.2 1 → (∀ k, (k < 9 ∨ 15 < k) → k ≠ 6 → k ≠ 17 → (RS_setF r1 9 0).1 k = r.1 k) ∧ (RS_setF r1 9 0).1 6 = 0 ∧ (∀ d, d ≠ 8 → (RS_setF r1 9 0).2 d = r.2 d) := fun r0' r1 q1 q2 q3 => ⟨fun k h1 h2 h3 => (RSF_ne (by omega)).trans ((q2.1 k h1).trans ((q1.1 k h3).trans (bf k h2 (by omega) (by omega) (by omega) h3))), (RSF_ne (by decide)).trans ((q2.1 6 (by decide)).trans ((q1.1 6 (by decide)).trans b6)), fun d hd => by
    by_cases hd1 : d = 1
    · rw [hd1]; exact q3
    · exact (q2.2 d hd1).trans (q1.2 d hd)⟩
  -- the reference up to the end of its reading
  have ref : ∀ g' m, ∃ r1, x9_runScript m (putR g' m r) = (cb (loopX (x9_runScript_l9 m) 1000 () (putR g' m r1)) fun _ g9 => x9_runScript_j30 m g9) ∧ Po (stB (RS_setF r 6 0)) r1 T L (rn T L 4 0) (r.2 1) := fun g' m => by
    obtain ⟨r1, e1, e2⟩ := s_startText (g := g') (m := m) b9 bT hL
    refine ⟨r1, ?_, e2⟩
    unfold x9_runScript
    rw [R_putI rfl, gb_s, R_isO, gb_s, e1, cb_s]
  have hread := c_readScript (g := putW g n w) (p := n + 303) (q := n + 306) (T := T) (t := w.2.2.2.2.1) (cnt := cnt) (a := a) (b := b) (c := c) (ec := ec) (ep := ep) (Or.inl (by omega)) hL
  rw [eW] at hread
  rcases hread with ⟨cs, e1, e2, s', t', e3, e4, e5, e6⟩ | ⟨c', e, e1, e2, e3, t', e4⟩
  · have hc8 : ∀ i, i < cs.length → (cs.getD i (0, 0, 0)).1 ≤ 8 := fun i hi => scS_ok 31 [] _ cs (fun x hx => absurd hx (by simp)) e1 _ (getD_mem hi)
    rw [GS_W] at e3
    -- the world in which the commands run
    have hJb : J (wP (wS w t') (pT (pK cnt T L s') 1 0)) r := HJ
    obtain ⟨j, w', k1, k2, k3⟩ := run_both (g := g) (n := n) e2 hc8 cs.length 0 (wP (wS w t') (pT (pK cnt T L s') 1 0)) r 1000 (by omega) (by omega) hJb e5 e6
    refine ⟨I j, w', ?_, ?_, fun g' m => ?_⟩
    · unfold x8_runScript
      rw [W_6, gb_s, W_7, gb_s, W_isO0, gb_s, e3, cb_s, W_6, gb_s, W_60, gb_s, W_putT (by decide), gb_s, if_neg (show ¬ (1 : Int32) = 0 by decide)]
      exact k1
    · show w'.2.2.2.2.2.2.1 = _
      rw [k2.1]
      exact hr
    · obtain ⟨r1, p1, p2⟩ := ref g' m
      rcases s_scLoop (g := g') (m := m) hL 31 1000 [] _ _ r1 (by decide) rfl (by decide) bT p2 b17 (fun i hi => absurd hi (Nat.not_lt_zero _)) with ⟨cs', f1, f2, r0', r2, s2, f3, f4, f5, f6, f7⟩ | ⟨c', e, f1, f0, f2, r0', r2, f3, f4, f5⟩
      · have ec : cs' = cs := by rw [f1] at e1; exact Sum.inl.inj e1
        rw [ec] at f5 f6
        obtain ⟨t1, t2, t3⟩ := fin r0' r2 f7 f4.2.2.2.2.2 f4.2.2.2.2.1
        have hg : Rg r (RS_setF r2 9 0) := ⟨t3 1 (by decide), t3 3 (by decide), t3 6 (by decide), t1 5 (by decide) (by decide) (by decide)⟩
        have q14 : (RS_setF r2 9 0).1 14 = 0 := (RSF_ne (by decide)).trans f4.2.1
        have q15 : (RS_setF r2 9 0).1 15 = -1 := (RSF_ne (by decide)).trans f4.2.2.1
        obtain ⟨r', y1, y2, y3⟩ := k3 g' m (RS_setF r2 9 0) hg ((RSF_ne (by decide)).trans ((f4.2.2.2.2.2.1 17 (by decide)).trans f5)) (by
          show SR (r2.2 8) cs
          rw [f4.2.2.2.2.2.2 8 (by decide)]
          exact f6)
        refine ⟨RS_setF r' 6 0, ?_, RSF_at _ _ _, ?_⟩
        · rw [p1, f3, cb_s]
          unfold x9_runScript_j30 x9_runScript_j70 x9_tell
          rw [R_putI rfl, gb_s, R_isO, gb_s, s_fine1 q14, cb_s, if_neg (show ¬ (1 : Int32) = 0 by decide), show loopX (x9_runScript_l46 m) 1000 0 (putR g' m (RS_setF r2 9 0)) = _ from y1, cb_s, R_isO, gb_s, R_putI rfl, gb_s, cb_s]
        · have n6 : ∀ k, k ≠ 6 → (RS_setF r' 6 0).1 k = r'.1 k := fun k hk0 => RSF_ne hk0
          refine Iv_mk (w := w) (r := r) (y2.rg ⟨rfl, rfl, rfl, n6 5 (by decide)⟩) ?_ HS' ?_ (fun j hj => k2.2 (9 + j) (by omega)) (fun d hd => (y3.2 d (by omega) (by omega) (by omega)).trans (t3 d (by omega))) ?_ o1 o2 o3 ?_ ((n6 20 (by decide)).trans ((y3.1 20 (by decide) (by decide)).trans (t1 20 (by decide) (by decide) (by decide))))
          · rw [k2.2 1 (Or.inl rfl)]
            exact HD
          · rw [k2.1]
            rfl
          · rw [k2.1]
            exact ⟨0, 0, -1, cnt, _, _, _, T, pT_z, by decide, (n6 9 (by decide)).trans ((y3.1 9 (by decide) (by decide)).trans (RSF_at _ _ _)), fun i hi => absurd hi (Nat.not_lt_zero _), (n6 14 (by decide)).trans ((y3.1 14 (by decide) (by decide)).trans q14), (n6 15 (by decide)).trans ((y3.1 15 (by decide) (by decide)).trans q15)⟩
          · rw [k2.1]
            rfl
      · rw [f1] at e1
        exact absurd e1 (by simp)
  · rw [GS_W] at e4
    refine ⟨-1, wP (wS w t') (pT (pE (I c') cnt T L e) 1 0), ?_, hr, fun g' m => ?_⟩
    · unfold x8_runScript
      rw [W_6, gb_s, W_7, gb_s, W_isO0, gb_s, e4, cb_s, W_6, gb_s, W_60, gb_s, W_putT (by decide), gb_s, if_pos (show (0 : Int32) = 0 from rfl)]
      rfl
    · obtain ⟨r1, p1, p2⟩ := ref g' m
      rcases s_scLoop (g := g') (m := m) hL 31 1000 [] _ _ r1 (by decide) rfl (by decide) bT p2 b17 (fun i hi => absurd hi (Nat.not_lt_zero _)) with ⟨cs', f1, f2, r0', r2, s2, f3, f4, f5, f6, f7⟩ | ⟨c1, e', f1, f0, f2, r0', r2, f3, f4, f5⟩
      · rw [f1] at e1
        exact absurd e1 (by simp)
      · have ec : (c1, e') = (c', e) := by rw [f1] at e1; exact Sum.inr.inj e1
        obtain ⟨rfl, rfl⟩ := Prod.mk.inj ec
        obtain ⟨z1, z2, z3, z4, z5, z6, z7⟩ := f4
        obtain ⟨t1, t2, t3⟩ := fin r0' r2 f5 z7 z6
        have hg : Rg r (RS_setF r2 9 0) := ⟨t3 1 (by decide), t3 3 (by decide), t3 6 (by decide), t1 5 (by decide) (by decide) (by decide)⟩
        have no : ¬ (RS_setF r2 9 0).1 14 = 0 := fun hc => (show Px r0' r2 T L c1 e' (r.2 1) from ⟨z1, z2, z3, z4, z5, z6, z7⟩).no ((RSF_ne (by decide)).symm.trans hc)
        refine ⟨RS_setF r2 9 0, ?_, t2, ?_⟩
        · rw [p1, f3, cb_s]
          unfold x9_runScript_j30
          rw [R_putI rfl, gb_s, R_isO, gb_s, s_fine0 no, cb_s, if_pos rfl]
        · refine Iv_mk (w := w) (r := r) (J.rg (w := wP (wS w t') (pT (pE (I c1) cnt T L e') 1 0)) HJ hg) HD HS' rfl (fun j hj => rfl) (fun d hd => t3 d (by omega)) ?_ o1 o2 o3 rfl (t1 20 (by decide) (by decide) (by decide))
          exact ⟨0, I c1, I e', cnt, _, _, _, T, pT_z, by decide, RSF_at _ _ _, fun i hi => absurd hi (Nat.not_lt_zero _), (RSF_ne (by decide)).trans z2, (RSF_ne (by decide)).trans z3⟩
end RunW
