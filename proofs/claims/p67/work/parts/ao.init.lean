/-! the law's object is made; what holds when a round begins and ends -/
def Ns (k9 : KK) (p K : Nat) (g : AH) : Prop := ∃ A n F f len b w r, A 0 = p ∧ J w r ∧ Kq w ∧ (∀ i, DD 0 b i → ∃ e, g.1 (A i) = some e) ∧ ∀ N, (∀ a e, g.1 a = some e → a < N) → PL (g.1, some N) A k9 n K F f len b w N
theorem s_init {k9 : KK} {p : Nat} (hk9 : k9.1 < p) : ∃ g1 g2, l_init k9 p (hnew ((fun _ => none), some p) p (.inl (10, fun k => defaultValue (tyL k)))) = some ((), g1) ∧ putV 10 g1 p 1 (.ref k9.2.1) = some g2 ∧ Ns k9 p 0 g2 := by
  generalize hf : (hnew ((fun _ => none), some p) p (.inl (10, fun k => defaultValue (tyL k)))).1 = f
  have e0 : hnew ((fun _ => none), some p) p (.inl (10, fun k => defaultValue (tyL k))) = (f, some (p + 1)) := by rw [← hf]; rfl
  have fp : f p = some (.inl (10, fun k => defaultValue (tyL k))) := by rw [← hf]; exact if_pos rfl
  rw [e0]
  obtain ⟨h1, cnt, s', q1, q2⟩ := ini8 (f := f) (n := p + 1) ((fun _ => 0), fun _ => st00)
  generalize hw : wP (wH (w00 ((fun _ => 0), fun _ => st00)) 0 h1) (pT (pK cnt (tT (wl 0)) (wl 0) s') 1 0) = w at q1
  have HJ : J w ((fun _ => 0), fun _ => st00) := by
    rw [← hw]
    exact ⟨q2, fun j hj => if_neg (by omega), 0, 0, rfl, rfl, Hs_none (by decide)⟩
  have HQ : Kq w := by
    rw [← hw]
    exact ⟨hut0_dr, 0, 0, -1, cnt, _, _, _, tT (wl 0), pT_z, by decide⟩
  -- the cells, one after the other
  have x1 : Xw f (p + 1) 312 w = putW (f, some (p + 313)) (p + 1) w := by
    unfold Xw
    rw [show p + 1 + 312 = p + 313 by omega]
  rw [x1] at q1
  have c1 : (putW (f, some (p + 313)) (p + 1) w).1 p = some (.inl (10, fun k => defaultValue (tyL k))) := (put_out (Or.inl (by omega))).trans fp
  generalize hg1 : hset (putW (f, some (p + 313)) (p + 1) w) p (.inl (10, updV (fun k => defaultValue (tyL k)) 0 (.ref (p + 1)))) = g1
  have p1 : putV 10 (putW (f, some (p + 313)) (p + 1) w) p 0 (.ref (p + 1)) = some g1 := by rw [← hg1]; exact putV_of c1
  have g1p : g1.1 p = some (.inl (10, updV (fun k => defaultValue (tyL k)) 0 (.ref (p + 1)))) := by rw [← hg1]; exact hset_at
  have g1z : g1.2 = some (p + 313) := by rw [← hg1]; rfl
  have g1W : ∀ d, d < 312 → g1.1 (p + 1 + d) = some (cellsW (p + 1) w d) := fun d hd => by
    rw [← hg1, hset_ne (by omega)]
    show (if p + 1 ≤ p + 1 + d ∧ p + 1 + d < p + 1 + 312 then some (cellsW (p + 1) w (p + 1 + d - (p + 1))) else _) = _
    rw [if_pos (by omega), Nat.add_sub_cancel_left]
  have n1 : newO 12 tyJx4a65c g1 = some (p + 313, hnew g1 (p + 313) (.inl (12, fun k => defaultValue (tyJx4a65c k)))) := by
    unfold newO
    rw [g1z]
  generalize hg2 : hnew g1 (p + 313) (.inl (12, fun k => defaultValue (tyJx4a65c k))) = g2 at n1
  have g2l : g2.1 (p + 313) = some (.inl (12, fun k => defaultValue (tyJx4a65c k))) := by rw [← hg2]; exact if_pos rfl
  have g2E : ∀ a, a < p + 313 → g2.1 a = g1.1 a := fun a ha => by rw [← hg2]; exact if_neg (by omega)
  have g2z : g2.2 = some (p + 314) := by rw [← hg2]; rfl
  have p2 : putV 12 g2 (p + 313) 0 (.int 0) = some (hset g2 (p + 313) (.inl (12, updV (fun k => defaultValue (tyJx4a65c k)) 0 (.int 0)))) := putV_of g2l
  generalize hg3 : hset g2 (p + 313) (.inl (12, updV (fun k => defaultValue (tyJx4a65c k)) 0 (.int 0))) = g3 at p2
  have g3l : g3.1 (p + 313) = some (.inl (12, updV (fun k => defaultValue (tyJx4a65c k)) 0 (.int 0))) := by rw [← hg3]; exact hset_at
  have p3 : putV 12 g3 (p + 313) 1 (.ref k9.1) = some (hset g3 (p + 313) (.inl (12, updV (updV (fun k => defaultValue (tyJx4a65c k)) 0 (.int 0)) 1 (.ref k9.1)))) := putV_of g3l
  generalize hg4 : hset g3 (p + 313) (.inl (12, updV (updV (fun k => defaultValue (tyJx4a65c k)) 0 (.int 0)) 1 (.ref k9.1))) = g4 at p3
  have g4l : g4.1 (p + 313) = some (.inl (12, updV (updV (fun k => defaultValue (tyJx4a65c k)) 0 (.int 0)) 1 (.ref k9.1))) := by rw [← hg4]; exact hset_at
  have g4E : ∀ a, a < p + 313 → g4.1 a = g1.1 a := fun a ha => by
    rw [← hg4, hset_ne (by omega), ← hg3, hset_ne (by omega)]
    exact g2E a ha
  have g4z : g4.2 = some (p + 314) := by rw [← hg4, ← hg3]; exact g2z
  have g4p : g4.1 p = some (.inl (10, updV (fun k => defaultValue (tyL k)) 0 (.ref (p + 1)))) := (g4E p (by omega)).trans g1p
  have p4 : putV 10 g4 p 3 (.ref (p + 313)) = some (hset g4 p (.inl (10, updV (updV (fun k => defaultValue (tyL k)) 0 (.ref (p + 1))) 3 (.ref (p + 313))))) := putV_of g4p
  -- three rows
  have row : ∀ {gg : AH} {q : Nat} {V : Nat → Value} (k : Nat), gg.2 = some q → p < q → gg.1 p = some (.inl (10, V)) → ∃ ga gb, newA 0 (.inl (fun _ => 0)) gg 12 = some (q, ga) ∧ putV 10 ga p k (.ref q) = some gb ∧ gb.2 = some (q + 1) ∧ gb.1 p = some (.inl (10, updV V k (.ref q))) ∧ gb.1 q = some (.inr (0, 12, .inl (fun _ => 0))) ∧ ∀ a, a ≠ p → a < q → gb.1 a = gg.1 a := by
    intro gg q V k h1 h2 h3
    refine ⟨hnew gg q (.inr (0, 12, .inl (fun _ => 0))), _, ?_, putV_of ((if_neg (by omega)).trans h3), rfl, hset_at, (hset_ne (by omega)).trans (if_pos rfl), fun a a1 a2 => (hset_ne a1).trans (if_neg (by omega))⟩
    unfold newA
    rw [h1]
    dsimp only
    rw [if_neg (by decide)]
    rfl
  obtain ⟨a5, g5, n5, p5, z5, c5, r5, E5⟩ := row (gg := hset g4 p (.inl (10, updV (updV (fun k => defaultValue (tyL k)) 0 (.ref (p + 1))) 3 (.ref (p + 313))))) (q := p + 314) 4 g4z (by omega) hset_at
  obtain ⟨a6, g6, n6, p6, z6, c6, r6, E6⟩ := row (gg := g5) (q := p + 315) 5 z5 (by omega) c5
  obtain ⟨a7, g7, n7, p7, z7, c7, r7, E7⟩ := row (gg := g6) (q := p + 316) 6 z6 (by omega) c6
  have p8 : putV 10 g7 p 1 (.ref k9.2.1) = some (hset g7 p (.inl (10, updV (updV (updV (updV (updV (updV (fun k => defaultValue (tyL k)) 0 (.ref (p + 1))) 3 (.ref (p + 313))) 4 (.ref (p + 314))) 5 (.ref (p + 315))) 6 (.ref (p + 316))) 1 (.ref k9.2.1)))) := putV_of c7
  have low : ∀ a, a ≠ p → a < p + 314 → g7.1 a = g4.1 a := fun a a1 a2 => by rw [E7 a a1 (by omega), E6 a a1 (by omega), E5 a a1 a2, hset_ne a1]
  refine ⟨g7, _, ?_, p8, fun i => if i = 0 then p else p + 312 + i, p + 1, fun _ => 0, (fun _ => 0, fun _ => 0, fun _ => 0), 0, false, w, _, rfl, HJ, HQ, ?_, ?_⟩
  · unfold l_init jx4a65c_init_da8c8 jxc12de_init_da8c8 jxa1e45_init_da8c8
    rw [new8 ((fun _ => 0), fun _ => st00), cb_s, q1, cb_s, p1, gb_s, n1, cb_s, cb_s, p2, gb_s, cb_s, p3, gb_s, cb_s, p4, gb_s, n5, cb_s, p5, gb_s, n6, cb_s, p6, gb_s, n7, cb_s, p7, gb_s]
  · intro i hi
    have hlt : i < 5 := by
      have := hi.1
      have : i ≠ 5 := fun hc => absurd (hi.2 hc) (by decide)
      omega
    match i, hlt with
    | 0, _ => exact ⟨_, hset_at⟩
    | 1, _ => exact ⟨_, (hset_ne (by show p + 312 + 1 ≠ p; omega)).trans ((low _ (by show p + 312 + 1 ≠ p; omega) (by show p + 312 + 1 < _; omega)).trans g4l)⟩
    | 2, _ => exact ⟨_, (hset_ne (by show p + 312 + 2 ≠ p; omega)).trans ((E7 _ (by show p + 312 + 2 ≠ p; omega) (by show p + 312 + 2 < _; omega)).trans ((E6 _ (by show p + 312 + 2 ≠ p; omega) (by show p + 312 + 2 < _; omega)).trans r5))⟩
    | 3, _ => exact ⟨_, (hset_ne (by show p + 312 + 3 ≠ p; omega)).trans ((E7 _ (by show p + 312 + 3 ≠ p; omega) (by show p + 312 + 3 < _; omega)).trans r6)⟩
    | 4, _ => exact ⟨_, (hset_ne (by show p + 312 + 4 ≠ p; omega)).trans r7⟩
  · intro N hN
    have hN7 : p + 316 < N := hN _ _ ((hset_ne (by omega)).trans r7)
    refine ⟨putW_iff.mpr (fun d hd => ?_), fun i j hi hj hij => ?_, fun i hi => ?_, by omega, ⟨by decide, fun _ => rfl, fun (h : false = true) => (by cases h), by omega⟩, fun i hi h1 => ?_, ?_⟩
    · show (hset g7 p _).1 (p + 1 + d) = _
      rw [hset_ne (by omega), low _ (by omega) (by omega), g4E _ (by omega)]
      exact g1W d hd
    · have a1 : i < 6 := hi.1
      have a2 : j < 6 := hj.1
      dsimp only at hij
      by_cases h0 : i = 0
      · by_cases h2 : j = 0
        · omega
        · rw [if_pos h0, if_neg h2] at hij; omega
      · by_cases h2 : j = 0
        · rw [if_neg h0, if_pos h2] at hij; omega
        · rw [if_neg h0, if_neg h2] at hij; omega
    · have a1 : i < 6 := hi.1
      have a5 : i ≠ 5 := fun hc => absurd (hi.2 hc) (by decide)
      dsimp only
      by_cases h0 : i = 0
      · rw [if_pos h0]; omega
      · rw [if_neg h0]; omega
    · have hlt : i < 5 := by
        have := hi.1
        have : i ≠ 5 := fun hc => absurd (hi.2 hc) (by decide)
        omega
      match i, hlt, h1 with
      | 0, _, _ =>
        refine ⟨_, hset_at, _, rfl, rfl, rfl, rfl, ⟨rfl, rfl, rfl, rfl⟩, fun k k1 k2 => ?_⟩
        match k, k1, k2 with
        | 7, _, _ => rfl
        | 8, _, _ => rfl
        | 9, _, _ => rfl
        | 10, _, _ => rfl
        | 11, _, _ => rfl
        | 12, _, _ => rfl
        | 13, _, _ => rfl
        | 14, _, _ => rfl
        | 15, _, _ => rfl
        | 16, _, _ => rfl
        | k + 17, _, h => omega
      | 2, _, _ => exact ⟨_, (hset_ne (by show p + 312 + 2 ≠ p; omega)).trans ((E7 _ (by show p + 312 + 2 ≠ p; omega) (by show p + 312 + 2 < _; omega)).trans ((E6 _ (by show p + 312 + 2 ≠ p; omega) (by show p + 312 + 2 < _; omega)).trans r5)), rfl⟩
      | 3, _, _ => exact ⟨_, (hset_ne (by show p + 312 + 3 ≠ p; omega)).trans ((E7 _ (by show p + 312 + 3 ≠ p; omega) (by show p + 312 + 3 < _; omega)).trans r6), rfl⟩
      | 4, _, _ => exact ⟨_, (hset_ne (by show p + 312 + 4 ≠ p; omega)).trans r7, rfl⟩
    · exact ⟨_, 0, (hset_ne (by show p + 312 + 1 ≠ p; omega)).trans ((low _ (by show p + 312 + 1 ≠ p; omega) (by show p + 312 + 1 < _; omega)).trans g4l), rfl, rfl, rfl⟩
theorem r_loads {k9 : KK} {p K : Nat} {g : AH} (S : Ns k9 p K g) (hK : K < 2 ^ 28) (hL : k9.2.2.1 < 2 ^ 30) {N : Nat} (hN : ∀ a e, g.1 a = some e → a < N) : ∃ g1 A n K1, l_loads k9 p (g.1, some N) = some (1, g1) ∧ A 0 = p ∧ A 5 ≠ k9.1 ∧ K1 ≤ K + 50 ∧ Rn k9 A n K1 0 g1 ∧ k9.1 < n := by
  obtain ⟨A, n, F, f, len, b, w, r, rfl, HJ, HQ, -, h⟩ := S
  have hP := h N hN
  obtain ⟨g1, A1, K1, e1, e2, e3, e4, e5⟩ := s_loads hP rfl HJ HQ hK hL
  exact ⟨g1, A1, n, K1, e1, e2, e3, e4, e5, hP.2.2.2.2.1.2.2.2⟩
theorem Ns_of {k9 : KK} {A : Nat → Nat} {n K T : Nat} {g : AH} (R : Rn k9 A n K T g) (h5 : A 5 ≠ k9.1) (hn : k9.1 < n) : Ns k9 (A 0) K g := by
  obtain ⟨w, r, H, HJ, -, -, -, HQ⟩ := R
  obtain ⟨⟨g0, hg⟩, c2, c3, ⟨c4, c5⟩, c6⟩ := H
  generalize hz : r.2 1 = z at c2 c3 c4 c5 c6
  have dd : ∀ i, DD 0 true i → i < 2 * nH z + 6 := fun i hi => by have := hi.1; omega
  obtain ⟨e2, q2, f2, rfl, -⟩ := c6 2 (by omega)
  obtain ⟨e3, q3, f3, rfl, -⟩ := c6 3 (by omega)
  obtain ⟨e4, q4, f4, rfl, -⟩ := c6 4 (by omega)
  have hW : ∀ d, d < 312 → g.1 (n + d) = some (cellsW n w d) := fun d hd => by
    rw [hg]
    show (if n ≤ n + d ∧ n + d < n + 312 then some (cellsW n w (n + d - n)) else _) = _
    rw [if_pos (by omega), Nat.add_sub_cancel_left]
  refine ⟨A, n, fun k => z (zi k), (f2, f3, f4), nH z, true, w, r, rfl, HJ, HQ, fun i hi => ?_, fun N hN => ?_⟩
  · obtain ⟨e, q, -⟩ := c6 i (dd i hi)
    exact ⟨e, q⟩
  · have hNn := hN _ _ (hW 311 (by decide))
    refine ⟨putW_iff.mpr hW, fun i j hi hj => c2 i j (dd i hi) (dd j hj), fun i hi => ⟨c3 i (dd i hi), ?_⟩, by omega, ⟨c5, fun (h : true = false) => (by cases h), fun _ => h5, hn⟩, fun i hi h1 => ?_, ?_⟩
    · obtain ⟨e, q, -⟩ := c6 i (dd i hi)
      exact hN _ _ q
    · have hlt : i < 6 := hi.1
      match i, hlt, h1 with
      | 0, _, _ =>
        obtain ⟨e, q, V, r1, r2, r3, r4, r5, r6⟩ := c6 0 (by omega)
        exact ⟨e, q, V, r1, r2, r3, r4, r5, r6⟩
      | 2, _, _ => exact ⟨_, q2, rfl⟩
      | 3, _, _ => exact ⟨_, q3, rfl⟩
      | 4, _, _ => exact ⟨_, q4, rfl⟩
      | 5, _, _ =>
        obtain ⟨e, q, E, r1, r2⟩ := c6 5 (by omega)
        exact ⟨e, q, E, r1, fun k hk0 => absurd hk0 (Nat.not_lt_zero k)⟩
    · obtain ⟨e, q, V, mc, r1, r2, r3, r4⟩ := c6 1 (by omega)
      refine ⟨V, mc, by rw [← r1]; exact q, r2, by rw [if_pos rfl]; exact r3, by rw [← c4]; exact r4⟩
theorem Rn_same {k9 : KK} {A : Nat → Nat} {n K T : Nat} {g : AH} (R : Rn k9 A n K T g) : ∃ g1, l_same (A 0) g = some (1, g1) ∧ Rn k9 A n K T g1 := by
  obtain ⟨w, r, H, HJ, Ad, hT, hB, HQ⟩ := R
  obtain ⟨g1, e1, H1⟩ := s_same H HJ.1 Ad hB
  exact ⟨g1, e1, w, r, H1, HJ, Ad, hT, hB, HQ⟩
