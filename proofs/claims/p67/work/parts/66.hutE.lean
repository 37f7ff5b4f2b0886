/-! the class's payment for blankets, dawn -/
section HutE
variable {g : AH} {p : Nat} {h : HS} {st : St}
theorem Rel_sh (w : Ws st) (R : Rel st h) {i : Nat} {v : Int32} (hi : i < nH st) (hb : ¬ hk st i 5 = -1) : (upd st (49 + 10 * i + 2) (hk st i 2 + if hk st i 5 = -1 then v else 0)) = st := upd_self (by rw [if_neg hb, Int32.add_zero]; rfl)
theorem c_pot {s0 : St × St} (w : Ws s0.1) (R : Rel s0.1 h) (c : Cv s0.1 h) : ∃ h1, loopX (x3_payForBlankets_l4 p) 1000 (0, 0) (putH g p h) = some ((it d3Step (nH s0.1) (s0.1, s0.2, 0)).2.2, putH g p h1) ∧ Rel (it d3Step (nH s0.1) (s0.1, s0.2, 0)).1 h1 ∧ Cv s0.1 h1 := by
  have hh := w.h.2
  have H := loop_inv (body := x3_payForBlankets_l4 p) (n := nH s0.1) (fuel := 1000) (s := (0, 0)) (g := putH g p h) (fun i s g1 => s = ((it d3Step i (s0.1, s0.2, 0)).2.2, I i) ∧ ∃ h1, g1 = putH g p h1 ∧ Rel (it d3Step i (s0.1, s0.2, 0)).1 h1 ∧ Cv s0.1 h1) (fun t g1 => t = (it d3Step (nH s0.1) (s0.1, s0.2, 0)).2.2 ∧ ∃ h1, g1 = putH g p h1 ∧ Rel (it d3Step (nH s0.1) (s0.1, s0.2, 0)).1 h1 ∧ Cv s0.1 h1) (fun i s g1 hi h0 => by
      obtain ⟨rfl, h1, rfl, R1, c1⟩ := h0
      have k := d3_ag i (by omega) (s0.1, s0.2, 0)
      have hi0 : i < 10 := by omega
      show ∃ s1 g1, _ = some (Sum.inl s1, g1) ∧ s1 = ((d3Step (it d3Step i (s0.1, s0.2, 0)) i).2.2, I (i + 1)) ∧ ∃ h1, g1 = putH g p h1 ∧ Rel (d3Step (it d3Step i (s0.1, s0.2, 0)) i).1 h1 ∧ Cv s0.1 h1
      generalize it d3Step i (s0.1, s0.2, 0) = t at k R1 ⊢
      have wt := k.kp.ws w
      have hit : i < nH t.1 := by rw [Kp_nH k.kp]; exact hi
      have ef : (h1.2.2.1 i 6 + 2) / 3 = fee t.1 i := by
        unfold fee
        rw [c1 i hi, Ag_thk k w hi0]
      obtain ⟨h2, e2, R2, f2, c2⟩ := c_payOut (g := g) (p := p) wt R1 hit (fee t.1 i)
      unfold x3_payForBlankets_l4 x1_feeForBlanket
      dsimp only
      rw [H_getI (by decide), gb_s, c_lt wt R1 hit, H_getR (d := 6) rfl (by decide) (by decide), gb_s, H_hik hi0, gb_s, gb_s, H_hik hi0, gb_s, K_isO hi0, gb_s, K_getI hi0 (by decide), gb_s, cb_s, K_isO hi0, gb_s, ef, e2, cb_s, I_succ]
      exact ⟨_, _, rfl, rfl, h2, rfl, R2, c2 _ c1⟩) (fun s g1 h0 => by
      obtain ⟨rfl, h1, rfl, R1, c1⟩ := h0
      have k := d3_ag (nH s0.1) hh (s0.1, s0.2, 0)
      generalize it d3Step (nH s0.1) (s0.1, s0.2, 0) = t at k R1 ⊢
      unfold x3_payForBlankets_l4
      dsimp only
      rw [H_getI (by decide), gb_s, ← show nH t.1 = nH s0.1 from Kp_nH k.kp, c_ge (k.kp.ws w) R1]
      exact ⟨_, _, rfl, rfl, h1, rfl, R1, c1⟩) (by omega) ⟨rfl, h, rfl, R, c⟩
  obtain ⟨t, g1, e1, rfl, h1, rfl, R1, c1⟩ := H
  exact ⟨h1, e1, R1, c1⟩
theorem c_share {s0 : St × St} {z : St} (w : Ws s0.1) (R : Rel s0.1 h) (c : Cv z h) (pot part : Int32) (wo : Int32) : ∃ h1, x3_payForBlankets_j56 p pot wo part (putH g p h) = some ((), putH g p h1) ∧ Rel (upd (it (shStep part) (nH s0.1) s0).1 6 ((it (shStep part) (nH s0.1) s0).1 6 + (pot - part * wo))) h1 ∧ Cv z h1 := by
  unfold x3_payForBlankets_j56
  obtain ⟨h1, e1, R1, c1⟩ := loop_hut (g := g) (p := p) (body := x3_payForBlankets_l60 p pot wo part) (C := Cv z) (shStep part) (shStep_kp _) w R c (fun i s h hi hn k ws hs R c => by
      have hi0 : i < 10 := by have := ws.h.2; omega
      unfold x3_payForBlankets_l60 x3_payForBlankets_j99_60 shStep
      rw [H_getI (by decide), gb_s, c_lt ws R hi, H_getR (d := 6) rfl (by decide) (by decide), gb_s, H_hik hi0, gb_s, K_getI hi0 (by decide), gb_s, R.2.2.1 i hi 5 (by decide)]
      by_cases hc : hk s.1 i 5 = -1
      · rw [if_pos hc, if_pos hc, gb_s, H_hik hi0, gb_s, K_getI hi0 (by decide), gb_s, R.2.2.1 i hi 2 (by decide), K_putI hi0 (by decide), gb_s, I_succ]
        exact ⟨_, rfl, R.upK ws hi0 (by decide), c.k (by decide)⟩
      · rw [if_neg hc, if_neg hc, I_succ, Int32.add_zero]
        refine ⟨h, rfl, ?_, c⟩
        rw [upd_self (show hk s.1 i 2 = s.1 (49 + 10 * i + 2) from rfl)]
        exact R) (fun s h _ ws R => by
      unfold x3_payForBlankets_l60
      rw [H_getI (by decide), gb_s, c_ge ws R])
  rw [e1, cb_s, H_getI (by decide), gb_s, show h1.1 4 = (it (shStep part) (nH s0.1) s0).1 6 from Rel_at R1 4 (by decide), H_putI (by decide), gb_s]
  exact ⟨_, rfl, R1.upF (k := 4) ((it_kp (shStep_kp _) _ w.h.2 s0).ws w) (by decide), c1.f⟩
theorem c_payForBlankets {s0 : St × St} (w : Ws s0.1) (R : Rel s0.1 h) (c : Cv s0.1 h) : ∃ h1, x3_payForBlankets p (putH g p h) = some ((), putH g p h1) ∧ Rel (shS (it d3Step (nH s0.1) (s0.1, s0.2, 0)).2.2 ((it d3Step (nH s0.1) (s0.1, s0.2, 0)).1, (it d3Step (nH s0.1) (s0.1, s0.2, 0)).2.1)).1 h1 ∧ Cv s0.1 h1 := by
  unfold x3_payForBlankets
  obtain ⟨h1, e1, R1, c1⟩ := c_pot (g := g) (p := p) w R c
  have k := d3_ag (nH s0.1) w.h.2 (s0.1, s0.2, 0)
  rw [e1]
  generalize it d3Step (nH s0.1) (s0.1, s0.2, 0) = t at k R1 ⊢
  have wt := k.kp.ws w
  rw [cb_s, H_isO, gb_s, c_without wt R1, cb_s]
  obtain ⟨q, q1, q2⟩ := cntW_I wt
  unfold shS
  dsimp only
  have hq : (1 : Int32) ≤ cntW t.1 ↔ ¬ cntW t.1 = 0 := by
    rw [q2, show (1 : Int32) = I 1 from rfl, I_le (by decide) (by omega), show (0 : Int32) = I 0 from rfl, I_eq (by omega) (by decide)]
    omega
  by_cases h0 : cntW t.1 = 0
  · rw [if_neg (fun hc => hq.mp hc h0), show shPart t.2.2 (cntW t.1) = 0 from if_pos h0]
    exact c_share (s0 := (t.1, t.2.1)) wt R1 c1 t.2.2 0 (cntW t.1)
  · rw [if_pos (hq.mpr h0), if_neg h0, show shPart t.2.2 (cntW t.1) = t.2.2 / cntW t.1 from if_neg h0]
    exact c_share (s0 := (t.1, t.2.1)) wt R1 c1 t.2.2 _ (cntW t.1)
theorem c_dawn {s0 : St × St} {z : St} (w : Ws s0.1) (wz : Ws z) (a : Ag z s0.1) (R : Rel s0.1 h) (c : Cv z h) : ∃ h1 h2 h3, x3_payForNight p (putH g p h) = some ((), putH g p h1) ∧ x3_payForLogs p (putH g p h1) = some ((), putH g p h2) ∧ x3_payForBlankets p (putH g p h2) = some ((), putH g p h3) ∧ Rel (dawnS s0).1 h3 ∧ Cv (dawnS s0).1 h3 := by
  obtain ⟨h1, e1, R1, c1⟩ := c_payForNight (g := g) (p := p) w R c
  have k1 := it_ag d1_ag (nH s0.1) w.h.2 s0
  have w1 := k1.kp.ws w
  obtain ⟨h2, e2, R2, c2⟩ := c_payForLogs (g := g) (p := p) w1 R1 c1
  have k2 : Ag s0.1 (plS (it d1Step (nH s0.1) s0)).1 := (k1.trans (it_ag (pl_ag _ _) _ w1.h.2 _)).up (by decide) (fun j hj => by omega)
  have w2 := k2.kp.ws w
  obtain ⟨h3, e3, R3, c3⟩ := c_payForBlankets (g := g) (p := p) w2 R2 (Cv_ag (a.trans k2) wz c2)
  have hn : nH (plS (it d1Step (nH s0.1) s0)).1 = nH s0.1 := Kp_nH k2.kp
  rw [hn] at R3
  have k3 := k2.trans (d3_ag (nH s0.1) w.h.2 ((plS (it d1Step (nH s0.1) s0)).1, (plS (it d1Step (nH s0.1) s0)).2, 0))
  refine ⟨h1, h2, h3, e1, e2, e3, R3, ?_⟩
  have k4 : Ag (plS (it d1Step (nH s0.1) s0)).1 (dawnS s0).1 := ((d3_ag (nH s0.1) w.h.2 ((plS (it d1Step (nH s0.1) s0)).1, (plS (it d1Step (nH s0.1) s0)).2, 0)).trans (it_ag (sh_ag _) _ ((k3.kp.ws w).h.2) _)).up (by decide) (fun j hj => by omega)
  exact Cv_ag k4 w2 c3
end HutE


