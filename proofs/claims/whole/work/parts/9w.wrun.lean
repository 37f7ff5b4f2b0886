/-! the world runs a script -/
section RunW
variable {n : Nat} {w : WS}
theorem Qr_run (H : Iv w) : Qr n w (x8_runScript n) x9_runScript := by
  obtain ⟨HJ, HD, HS', ⟨L, ec, ep, cnt, a, b, c, T, hpar, hL, h9, hT, h14, h15⟩, l, o1, o2, o3⟩ := H
  intro g
  generalize hr : wr w = r at HJ HS' h9 hT h14 h15 o2
  have eW : GS (putW g n w) (n + 303) (giC ec ep cnt, tiC (I L) a b c, T) (n + 306) w.2.2.2.2.1 = putW g n w := by
    rw [GS_W, ← hpar]
    rfl
  -- the base of the reference's reading
  have bT : Tx (stB (RS_setF r 6 0)) T L := hT
  have b9 : (RS_setF r 6 0).1 9 = I L := (RSF_ne (by decide)).trans h9
  have b17 : (stB (RS_setF r 6 0)).1 17 = I ([] : List Cm).length := RSF_at _ _ _
  have bf : ∀ k, k ≠ 6 → k ≠ 12 → k ≠ 14 → k ≠ 15 → k ≠ 17 → (stB (RS_setF r 6 0)).1 k = r.1 k := fun k h6 h1 h2 h3 h4 => (RSF_ne h4).trans ((RSF_ne h1).trans ((RSF_ne h3).trans ((RSF_ne h2).trans (RSF_ne h6))))
  have b6 : (stB (RS_setF r 6 0)).1 6 = 0 := (RSF_ne (by decide)).trans ((RSF_ne (by decide)).trans ((RSF_ne (by decide)).trans ((RSF_ne (by decide)).trans (RSF_at _ _ _))))
  have fin : ∀ (r0' r1 : RS), Rs (stB (RS_setF r 6 0)) r0' → Pq r0' r1 → r1.2 1 = r.2 1 → (∀ k, (k < 9 ∨ 15 < k) → k ≠ 6 → k ≠ 17 → (RS_setF r1 9 0).1 k = r.1 k) ∧ (RS_setF r1 9 0).1 6 = 0 ∧ (∀ d, d ≠ 8 → (RS_setF r1 9 0).2 d = r.2 d) := fun r0' r1 q1 q2 q3 => ⟨fun k h1 h2 h3 => (RSF_ne (by omega)).trans ((q2.1 k h1).trans ((q1.1 k h3).trans (bf k h2 (by omega) (by omega) (by omega) h3))), (RSF_ne (by decide)).trans ((q2.1 6 (by decide)).trans ((q1.1 6 (by decide)).trans b6)), fun d hd => by
    by_cases hd1 : d = 1
    · rw [hd1]; exact q3
    · exact (q2.2 d hd1).trans (q1.2 d hd)⟩
  -- the reference up to the end of its reading
  have ref : ∀ g' m, ∃ r1, x9_runScript m (putR g' m r) = (cb (loopX (x9_runScript_l9 m) 1000 () (putR g' m r1)) fun _ g9 => x9_runScript_j30 m g9) ∧ Po (stB (RS_setF r 6 0)) r1 T L (rn T L 4 0) (r.2 1) := fun g' m => by
    obtain ⟨r1, e1, e2⟩ := s_startText (g := g') (m := m) b9 bT hL
    refine ⟨r1, ?_, e2⟩
    unfold x9_runScript
    rw [R_putI rfl, gb_s, R_isO, gb_s, e1, cb_s]
  have hread := c_readScript (g := putW g n w) (p := n + 303) (q := n + 306) (T := T) (t := w.2.2.2.2.1) (cnt := cnt) (a := a) (b := b) (c := c) (ec := ec) (ep := ep) (Or.inl (by omega)) hL
  rw [eW] at hread
  rcases hread with ⟨cs, e1, e2, s', t', e3, e4, e5, e6⟩ | ⟨c', e, e1, e2, e3, t', e4⟩
  · have hc8 : ∀ i, i < cs.length → (cs.getD i (0, 0, 0)).1 ≤ 8 := fun i hi => scS_ok 31 [] _ cs (fun x hx => absurd hx (by simp)) e1 _ (getD_mem hi)
    rw [GS_W] at e3
    -- the world in which the commands run
    have hJb : J (wP (wS w t') (pT (pK cnt T L s') 1 0)) r := HJ
    obtain ⟨j, w', k1, k2, k3⟩ := run_both (g := g) (n := n) (m := 0) e2 hc8 cs.length 0 (wP (wS w t') (pT (pK cnt T L s') 1 0)) r 1000 (by omega) (by omega) hJb e5 e6
    refine ⟨I j, w', ?_, ?_, fun g' m => ?_⟩
    · unfold x8_runScript
      rw [W_6, gb_s, W_7, gb_s, W_isO0, gb_s, e3, cb_s, W_6, gb_s, W_60, gb_s, W_putT (by decide), gb_s, if_neg (show ¬ (1 : Int32) = 0 by decide)]
      exact k1
    · show w'.2.2.2.2.2.2.1 = _
      rw [k2.1]
      rfl
    · sorry
  · sorry
end RunW
