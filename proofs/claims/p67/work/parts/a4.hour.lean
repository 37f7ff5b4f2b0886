/-! the law's dawn and hour are those of the array -/
section Hour
variable {g : AH} {A : Nat → Nat} {n s9 : Nat} {nx : Int32} {z : St} {w : WS} {S C D O : Nat}
theorem B0.nn {v : Int32} {m : Nat} (h : B0 v m) (hm : m < 2 ^ 31) : ¬ v < 0 := by
  obtain ⟨x, x1, rfl⟩ := h
  exact nI_pos (by omega)
theorem B0.lt30 {v : Int32} {m : Nat} (h : B0 v m) (hm : m < 2 ^ 30) : ∃ x, x < 2 ^ 30 ∧ v = I x := by
  obtain ⟨x, x1, rfl⟩ := h
  exact ⟨x, by omega, rfl⟩
theorem lpF_lo (am : Nat → Int32) {k : Nat} (h : k < 49) (h6 : k ≠ 6) : ∀ m (z : St), it (lpF am) m z k = z k := by
  intro m
  induction m with
  | zero => intro z; rfl
  | succ m ih =>
    intro z
    show upd (upd (upd (it (lpF am) m z) (49 + 10 * m + 2) _) (49 + 10 * m + 3) _) 6 _ k = _
    rw [upd_ne h6, upd_ne (by omega), upd_ne (by omega)]
    exact ih z
theorem d3_lo {k : Nat} (h : k < 49) : ∀ m (s : St × St × Int32), (it d3Step m s).1 k = s.1 k := by
  intro m
  induction m with
  | zero => intro s; rfl
  | succ m ih =>
    intro s
    show upd (upd (it d3Step m s).1 (49 + 10 * m + 2) _) (49 + 10 * m + 3) _ k = _
    rw [upd_ne (by omega), upd_ne (by omega)]
    exact ih s
theorem sh_lo {part : Int32} {k : Nat} (h : k < 49) : ∀ m (s : St × St), (it (shStep part) m s).1 k = s.1 k := by
  intro m
  induction m with
  | zero => intro s; rfl
  | succ m ih =>
    intro s
    show upd (it (shStep part) m s).1 (49 + 10 * m + 2) _ k = _
    rw [upd_ne (by omega)]
    exact ih s
theorem s_dawns (H : LQ g A n s9 nx z w) (W : Ws z) (h1 : 1 ≤ nH z) (hS : S ≤ 24) (hC : C + 300 < 2 ^ 30) (hD : D + 600 < 2 ^ 30) (B : Bl S C D O z) (du : St) : ∃ g1, l_dawns (A 0) g = some ((), g1) ∧ LQ g1 A n s9 nx (dawnS (z, du)).1 w := by
  have hh := W.h.2
  have e12 := W.h.1
  obtain ⟨s, s1, s2⟩ := B.get0 (k := 5) (x := S) (by decide) rfl
  have hc : 2 * z 5 = I (2 * s) := by rw [s2, show (2 : Int32) = I 2 from rfl, I_mul]
  have hdiv : I (2 * s) / I (nH z) = I (2 * s / nH z) := (Int32.ofNat_div (by omega) (by omega)).symm
  have hmod : I (2 * s) - I (2 * s) / I (nH z) * I (nH z) = I (2 * s % nH z) := mod_I (by omega) (by omega) (by omega)
  have hr : 2 * s % nH z < nH z := Nat.mod_lt _ (by omega)
  have ha : 2 * s / nH z ≤ 48 := Nat.le_trans (Nat.div_le_self _ _) (by omega)
  -- the reference's states
  have k1 := it_kp d1Step_kp (nH z) hh (z, du)
  have w1 := k1.ws W
  have n1 := Kp_nH k1
  have b1 := (Bl.d1 (s := (z, du)) (by omega) (nH z) hh (by omega) B).mono (Nat.le_refl S) (Nat.le_refl C) (show D + 3 * nH z ≤ D + 30 by omega) (Nat.le_refl O)
  have k2 := k1.trans (plS_kp w1)
  have w2 := k2.ws W
  have n2 := Kp_nH k2
  have b2 := Bl.plog w1 (by rw [n1]; exact h1) hS (by omega) (by omega) b1
  have hc3 : ∀ m, m ≤ nH z → ∀ i, i < 10 → ¬ hk (it d3Step m ((plS (it d1Step (nH z) (z, du))).1, (plS (it d1Step (nH z) (z, du))).2, 0)).1 i 2 < 0 := fun m hm i hi => by
    have := (Bl.d3 (s := ((plS (it d1Step (nH z) (z, du))).1, (plS (it d1Step (nH z) (z, du))).2, 0)) w2 (by omega) rfl m (by omega) (by omega) b2).1
    exact (this.fld hi (by decide) (f := 2) rfl).nn (by omega)
  -- the law's
  obtain ⟨g1, p1, H1⟩ := s_d1 H W (2 * z 5)
  have K1 := itK (lpF_kp (fun _ => 3)) (nH z) (by omega) z
  have W1 := K1.ws W
  have N1 := Kp_nH K1
  obtain ⟨g2, p2, H2⟩ := s_d2 (c := 2 * z 5) (v := I (2 * s / nH z)) H1 W1 (by rw [N1]; exact h1) (by rw [hc, N1, hdiv])
  have K2 := K1.trans (itK (lpF_kp (fun _ => I (2 * s / nH z))) (nH (it (lpF (fun _ => 3)) (nH z) z)) (by omega) _)
  have W2 := K2.ws W
  have N2 := Kp_nH K2
  obtain ⟨g3, p3, H3⟩ := s_d3 (c := 2 * z 5) (r := 2 * s % nH z) H2 W2 (by rw [N2]; exact h1) (by rw [N2]; omega) (by rw [hc, N2, hmod])
  rw [N1] at p2 H2 K2 W2 N2 p3 H3
  rw [N2] at p3
  have eq3 := lp_two (z := it (lpF (fun _ => 3)) (nH z) z) (a := 2 * s / nH z) (am := plPart (2 * z 5) (z 12)) (m := nH z) (r := 2 * s % nH z) hh (by omega) (by omega) (fun i hi => by
    have := b1.fld (i := i) (f := 2) (by omega) (by decide) rfl
    rw [d1_lp] at this
    exact this.lt30 (by omega)) (fun i hi => by
    unfold plPart
    rw [hc, e12, hdiv, ← hdiv, hmod, hdiv]
    by_cases hq : i < 2 * s % nH z
    · rw [if_pos hq, if_neg (by rw [I_le (by omega) (by omega)]; omega)]
    · rw [if_neg hq, if_pos (by rw [I_le (by omega) (by omega)]; omega)])
  have e5 : (it d1Step (nH z) (z, du)).1 5 = z 5 := by rw [d1_lp]; exact lpF_lo _ (by decide) (by decide) _ _
  have E3 : E5 (it (lpF (fun _ => 1)) (2 * s % nH z) (it (lpF (fun _ => I (2 * s / nH z))) (nH z) (it (lpF (fun _ => 3)) (nH z) z))) (plS (it d1Step (nH z) (z, du))).1 := fun k hk0 => by
    rw [eq3 k]
    unfold plS
    dsimp only
    rw [upd_ne hk0, n1, e5, k1.1 12 (by decide), pl_lp, d1_lp]
  generalize hz3 : it (lpF (fun _ => 1)) (2 * s % nH z) (it (lpF (fun _ => I (2 * s / nH z))) (nH z) (it (lpF (fun _ => 3)) (nH z) z)) = z3 at H3 E3
  have K3 : Kp z z3 := by
    rw [← hz3]
    exact K2.trans (itK (lpF_kp (fun _ => 1)) _ (by omega) _)
  have W3 := K3.ws W
  have N3 := Kp_nH K3
  have hT : ∀ b, b < nL z3 → B0 (z3 (25 + b)) 9 := fun b hb => by
    have hl := W3.l.2
    rw [E3 (25 + b) (by omega)]
    refine b2.get0 (by omega) ((lim_g (by omega)).trans ?_)
    unfold limG
    split <;> first | omega | skip
    rw [if_neg (by omega), if_pos (by omega)]
  obtain ⟨g4, p4, H4⟩ := s_d4 H3 W3 hT
  rw [N3] at p4 H4
  obtain ⟨q1, q2, q3⟩ := dp4_d3 (du := (plS (it d1Step (nH z) (z, du))).2) E3 hc3 hh (nH z) (Nat.le_refl _)
  have K4 := K3.trans (it4_kp (nH z) hh (z3, 0, 0))
  have W4 := K4.ws W
  have N4 := Kp_nH K4
  have k3 := d3_kp (nH z) hh ((plS (it d1Step (nH z) (z, du))).1, (plS (it d1Step (nH z) (z, du))).2, 0)
  have n3 : nH (it d3Step (nH z) ((plS (it d1Step (nH z) (z, du))).1, (plS (it d1Step (nH z) (z, du))).2, 0)).1 = nH z := (Kp_nH k3).trans n2
  have y5 : (it d3Step (nH z) ((plS (it d1Step (nH z) (z, du))).1, (plS (it d1Step (nH z) (z, du))).2, 0)).1 5 = 0 := (d3_lo (by decide) _ _).trans (show upd (it (plStep (2 * (it d1Step (nH z) (z, du)).1 5) ((it d1Step (nH z) (z, du)).1 12)) (nH (it d1Step (nH z) (z, du)).1) (it d1Step (nH z) (z, du))).1 5 0 5 = 0 from upd_at)
  have cw : cntW (it d3Step (nH z) ((plS (it d1Step (nH z) (z, du))).1, (plS (it d1Step (nH z) (z, du))).2, 0)).1 = (it dp4 (nH z) (z3, 0, 0)).2.2 := by
    rw [q3]
    unfold cntW
    rw [n3]
    exact sm_congr _ (fun i hi => by rw [show hk (it d3Step (nH z) ((plS (it d1Step (nH z) (z, du))).1, (plS (it d1Step (nH z) (z, du))).2, 0)).1 i 5 = hk (plS (it d1Step (nH z) (z, du))).1 i 5 from (k3.2 i (by omega)).2])
  have hb0 : ∀ i, i < nH z → hk (it dp4 (nH z) (z3, 0, 0)).1 i 5 = -1 → ¬ (it dp4 (nH z) (z3, 0, 0)).2.2 = 0 := fun i hi h5 => by
    rw [q3, sm_ite]
    have h5' : hk (plS (it d1Step (nH z) (z, du))).1 i 5 = -1 := by
      rw [q1.k] at h5
      exact ((k3.2 i (by omega)).2).symm.trans h5
    have p := sN_pos (p := fun i => decide (hk (plS (it d1Step (nH z) (z, du))).1 i 5 = -1)) (nH z) i hi (decide_eq_true h5')
    have p2 := sN_le (p := fun i => decide (hk (plS (it d1Step (nH z) (z, du))).1 i 5 = -1)) (nH z)
    intro hc0
    have := (I_eq (by omega) (by decide)).mp (hc0.trans (show (0 : Int32) = I 0 from rfl))
    omega
  have hfin : (dawnS (z, du)).1 = upd (it (shStep (shPart (it dp4 (nH z) (z3, 0, 0)).2.1 (it dp4 (nH z) (z3, 0, 0)).2.2)) (nH z) ((it d3Step (nH z) ((plS (it d1Step (nH z) (z, du))).1, (plS (it d1Step (nH z) (z, du))).2, 0)).1, (it d3Step (nH z) ((plS (it d1Step (nH z) (z, du))).1, (plS (it d1Step (nH z) (z, du))).2, 0)).2.1)).1 6 ((it (shStep (shPart (it dp4 (nH z) (z3, 0, 0)).2.1 (it dp4 (nH z) (z3, 0, 0)).2.2)) (nH z) ((it d3Step (nH z) ((plS (it d1Step (nH z) (z, du))).1, (plS (it d1Step (nH z) (z, du))).2, 0)).1, (it d3Step (nH z) ((plS (it d1Step (nH z) (z, du))).1, (plS (it d1Step (nH z) (z, du))).2, 0)).2.1)).1 6 + ((it dp4 (nH z) (z3, 0, 0)).2.1 - shPart (it dp4 (nH z) (z3, 0, 0)).2.1 (it dp4 (nH z) (z3, 0, 0)).2.2 * (it dp4 (nH z) (z3, 0, 0)).2.2)) := by
    unfold dawnS shS
    dsimp only
    rw [cw, n3, q2]
  generalize it d3Step (nH z) ((plS (it d1Step (nH z) (z, du))).1, (plS (it d1Step (nH z) (z, du))).2, 0) = t3 at q1 y5 hfin
  generalize it dp4 (nH z) (z3, 0, 0) = t4 at H4 p4 q1 K4 W4 N4 hb0 hfin
  obtain ⟨g5, p5, H5⟩ := s_d5 (part := shPart t4.2.1 t4.2.2) H4 W4 t4.2.1 t4.2.2 (fun i hi => hb0 i (by rw [← N4]; exact hi)) (fun hc0 => by unfold shPart; rw [if_neg hc0])
  rw [N4] at p5 H5
  have E5' := sh1_E (du := t3.2.1) (part := shPart t4.2.1 t4.2.2) q1 (nH z)
  have K5 := K4.trans (itK (sh1_kp (shPart t4.2.1 t4.2.2)) (nH z) hh t4.1)
  have W5 := K5.ws W
  have y5' : (it (shStep (shPart t4.2.1 t4.2.2)) (nH z) (t3.1, t3.2.1)).1 5 = 0 := (sh_lo (by decide) _ _).trans y5
  obtain ⟨g6, p6, H6⟩ := H5.putL W5 (k := 16) (by decide) (by decide) (it (sh1 (shPart t4.2.1 t4.2.2)) (nH z) t4.1 6 + (t4.2.1 - shPart t4.2.1 t4.2.2 * t4.2.2))
  have W6 : Ws (upd (it (sh1 (shPart t4.2.1 t4.2.2)) (nH z) t4.1) (zi 16) (it (sh1 (shPart t4.2.1 t4.2.2)) (nH z) t4.1 6 + (t4.2.1 - shPart t4.2.1 t4.2.2 * t4.2.2))) := (Kp.refl.up (by decide) (fun j hj => by show 6 ≠ _ ∧ 6 ≠ _; omega)).ws W5
  obtain ⟨g7, p7, H7⟩ := H6.putL W6 (k := 15) (by decide) (by decide) 0
  refine ⟨g7, ?_, H7.congr ((Kp.refl.up (by decide) (fun j hj => by show 5 ≠ _ ∧ 5 ≠ _; omega)).ws W6) (fun j hj => ?_)⟩
  · unfold l_dawns l_dawns_j315
    rw [H.gl, gb_s, H.isL, gb_s, H.size, cb_s, H.gI (by decide) (by decide), gb_s, show z (zi 15) = z 5 from rfl, p1, cb_s, p2, cb_s, p3, cb_s, p4, cb_s]
    dsimp only
    rw [p5, cb_s, H5.gI (by decide) (by decide), gb_s, show zi 16 = 6 from rfl]
    by_cases hq : t4.2.2 = 0
    · have e : t4.2.1 - shPart t4.2.1 t4.2.2 * t4.2.2 = t4.2.1 := by
        rw [hq, Int32.mul_zero, Int32.sub_zero]
      rw [e] at p6
      rw [if_pos hq, p6, gb_s, p7, gb_s]
    · have e : shPart t4.2.1 t4.2.2 = t4.2.1 / t4.2.2 := by unfold shPart; rw [if_neg hq]
      rw [e] at p6
      rw [if_neg hq, if_neg hq, e, p6, gb_s, p7, gb_s]
  · rw [hfin]
    show (if j = 6 then _ else _) = (if j = 5 then (0 : Int32) else if j = 6 then _ else _)
    by_cases j5 : j = 5
    · subst j5
      rw [if_neg (by decide), if_pos rfl]
      exact y5'
    · rw [if_neg j5]
      by_cases j6 : j = 6
      · subst j6
        rw [if_pos rfl, if_pos rfl, E5' 6 (by decide)]
      · rw [if_neg j6, if_neg j6, E5' j j5]
theorem nt_lo {k : Nat} (h : k < 49) : ∀ m (s : St × St), (it ntStep m s).1 k = s.1 k := by
  intro m
  induction m with
  | zero => intro s; rfl
  | succ m ih =>
    intro s
    show upd (it ntStep m s).1 (49 + 10 * m + (6 + kN (deed (it ntStep m s).1 m))) _ k = _
    rw [upd_ne (by omega)]
    exact ih s
theorem s_hours (H : LQ g A n s9 nx z w) (W : Ws z) (du : St) : ∃ g1, loopX (l_passes_l69 (A 0)) 1000 0 g = some ((), g1) ∧ LQ g1 A n s9 nx (it ntStep (nH z) (z, du)).1 w := by
  have hh := W.h.2
  obtain ⟨t, g1, e1, e2⟩ := loop_inv (n := nH z) (fuel := 1000) (body := l_passes_l69 (A 0)) (P := fun i s g => s = I i ∧ LQ g A n s9 nx (it ntStep i (z, du)).1 w) (Q := fun _ g => LQ g A n s9 nx (it ntStep (nH z) (z, du)).1 w) (fun i s g hi hP => by
    obtain ⟨rfl, H1⟩ := hP
    have K := it_kp ntStep_kp i (by omega) (z, du)
    have W1 := K.ws W
    have hn1 := Kp_nH K
    show ∃ s1 g1, l_passes_l69 (A 0) (I i) g = some (.inl s1, g1) ∧ s1 = I (i + 1) ∧ LQ g1 A n s9 nx (ntStep (it ntStep i (z, du)) i).1 w
    generalize it ntStep i (z, du) = y at H1 K W1 hn1 ⊢
    have hi1 : i < nH y.1 := by rw [hn1]; exact hi
    obtain ⟨d, d1, d2, d3⟩ := deed_I y.1 i
    obtain ⟨g1, p1, H2⟩ := H1.putO W1 hi1 d1 (hk y.1 i (6 + d) + 1)
    refine ⟨_, g1, ?_, rfl, ?_⟩
    · unfold l_passes_l69
      rw [H1.gl, gb_s, H1.isL, gb_s, H1.size, cb_s, hn1, if_neg (le_IN hi (by omega)), H1.gl, gb_s, H1.isL, gb_s, H1.get hi1, cb_s, H1.isK hi1, gb_s, H1.k7 hi1, gb_s, H1.gl, gb_s, H1.isL, gb_s, H1.get hi1, cb_s, H1.isK hi1, gb_s, H1.iO, gb_s, s_does H1 W1 hi1, cb_s, d2, H1.hr hi1 d1, gb_s, p1, gb_s, I_succ]
    · show LQ g1 A n s9 nx (upd y.1 (49 + 10 * i + (6 + kN (deed y.1 i))) (hk y.1 i (6 + kN (deed y.1 i)) + 1)) w
      rw [d3]
      exact H2) (fun s g hP => by
    obtain ⟨rfl, H1⟩ := hP
    have hn1 := Kp_nH (it_kp ntStep_kp (nH z) hh (z, du))
    refine ⟨(), g, ?_, H1⟩
    unfold l_passes_l69
    rw [H1.gl, gb_s, H1.isL, gb_s, H1.size, cb_s, hn1, if_pos (Int32.le_refl _)]) (by omega) (s := 0) (g := g) ⟨rfl, H⟩
  exact ⟨g1, e1, e2⟩
theorem s_passes (H : LQ g A n s9 nx z w) (W : Ws z) (b : Bd z) (hT : nT z + 1 ≤ 9999) (du : St) : ∃ g1, l_passes (A 0) g = some ((), g1) ∧ LQ g1 A n s9 nx (hourS (z, du)).1 w := by
  obtain ⟨b1, b2, b3⟩ := b
  have hh := W.h.2
  have kb := burn_kp z
  have wb := kb.ws W
  have nb1 := Kp_nH kb
  have hm : nT z % 8 < 8 := Nat.mod_lt _ (by decide)
  have c1 := b2.burn (by omega)
  have c2 := (Bl.nt (s := (burnS z, du)) (by omega) (nH (burnS z)) wb.h.2 c1).2
  have kn := kb.trans (ntS_kp (s := (burnS z, du)) wb)
  have wn := kn.ws W
  have nn := Kp_nH kn
  obtain ⟨wt, ht⟩ := tick_ws (s := ntS (burnS z, du)) wn (by rw [Kp_nT kn]; omega)
  have ct : Bl (3 * (nT z % 8) + 3) (99 + 300 * nT z) (600 * nT z) (nT z + 1) (tick (ntS (burnS z, du))).1 := Bl.upN c2 rfl
  have nt0 : nH (tick (ntS (burnS z, du))).1 = nH z := by
    rw [← nn]
    exact congrArg Int32.toNatClampNeg (show upd (ntS (burnS z, du)).1 3 ((ntS (burnS z, du)).1 3 + 1) 12 = (ntS (burnS z, du)).1 12 from upd_ne (by decide))
  -- the law's writes
  obtain ⟨g1, p1, H1⟩ := H.putL W (k := 10) (by decide) (by decide) (z 0 - burnB z)
  have W1 : Ws (upd z 0 (z 0 - burnB z)) := (Kp.refl.up (by decide) (fun j hj => by omega)).ws W
  have H1 : LQ g1 A n s9 nx (upd z 0 (z 0 - burnB z)) w := H1
  obtain ⟨g2, p2, H2⟩ := H1.putL W1 (k := 14) (by decide) (by decide) (z 4 + burnB z)
  have W2 : Ws (upd (upd z 0 (z 0 - burnB z)) 4 (z 4 + burnB z)) := (Kp.refl.up (by decide) (fun j hj => by omega)).ws W1
  have H2 : LQ g2 A n s9 nx (upd (upd z 0 (z 0 - burnB z)) 4 (z 4 + burnB z)) w := H2
  obtain ⟨g3, p3, H3⟩ := H2.putL W2 (k := 15) (by decide) (by decide) (z 5 + burnB z)
  have W3 : Ws (upd (upd (upd z 0 (z 0 - burnB z)) 4 (z 4 + burnB z)) 5 (z 5 + burnB z)) := (Kp.refl.up (by decide) (fun j hj => by omega)).ws W2
  have H3 : LQ g3 A n s9 nx (upd (upd (upd z 0 (z 0 - burnB z)) 4 (z 4 + burnB z)) 5 (z 5 + burnB z)) w := H3
  obtain ⟨g4, p4, H4⟩ := H3.putL W3 (k := 12) (by decide) (by decide) (z 2 / 2 + 4 * burnB z)
  have H4 : LQ g4 A n s9 nx (burnS z) w := H4
  obtain ⟨g5, p5, H5⟩ := s_hours H4 wb du
  have H5 : LQ g5 A n s9 nx (ntS (burnS z, du)).1 w := H5
  obtain ⟨g6, p6, H6⟩ := H5.putL wn (k := 13) (by decide) (by decide) ((ntS (burnS z, du)).1 3 + 1)
  have H6 : LQ g6 A n s9 nx (tick (ntS (burnS z, du))).1 w := H6
  have J : l_passes_j22 (A 0) (burnB z) g = (if (tick (ntS (burnS z, du))).1 3 - (tick (ntS (burnS z, du))).1 3 / 8 * 8 = 0 then gb (isO 10 g6 (A 0)) fun _ => cb (l_dawns (A 0) g6) fun r29 g30 => some ((), g30) else some ((), g6)) := by
    unfold l_passes_j22
    rw [H.gI (by decide) (by decide), gb_s, show z (zi 10) = z 0 from rfl, p1, gb_s, H1.gI (by decide) (by decide), gb_s, show upd z 0 (z 0 - burnB z) (zi 14) = z 4 from rfl, p2, gb_s, H2.gI (by decide) (by decide), gb_s, show upd (upd z 0 (z 0 - burnB z)) 4 (z 4 + burnB z) (zi 15) = z 5 from rfl, p3, gb_s, H3.gI (by decide) (by decide), gb_s, show upd (upd (upd z 0 (z 0 - burnB z)) 4 (z 4 + burnB z)) 5 (z 5 + burnB z) (zi 12) = z 2 from rfl, p4, gb_s, p5, cb_s, H5.gI (by decide) (by decide), gb_s, show (ntS (burnS z, du)).1 (zi 13) = (ntS (burnS z, du)).1 3 from rfl, p6, gb_s, H6.gI (by decide) (by decide), gb_s]
    rfl
  have e0 : l_passes (A 0) g = l_passes_j22 (A 0) (burnB z) g := by
    unfold l_passes burnB
    rw [H.gI (by decide) (by decide), gb_s, H.gI (k := 11) (by decide) (by decide), gb_s]
    show (if z 1 ≤ z 0 then _ else _) = _
    by_cases hq : z 0 < z 1
    · rw [if_neg (Int32.not_le.mpr hq), if_pos hq, gb_s]
      rfl
    · rw [if_pos (Int32.not_lt.mp hq), if_neg hq, gb_s]
      rfl
  rw [e0, J]
  unfold hourS endS
  by_cases hq : (tick (ntS (burnS z, du))).1 3 - (tick (ntS (burnS z, du))).1 3 / 8 * 8 = 0
  · rw [if_pos hq, if_pos hq]
    obtain ⟨g7, p7, H7⟩ := s_dawns H6 wt (by rw [nt0]; exact b1) (by omega) (by omega) (by omega) ct (tick (ntS (burnS z, du))).2
    exact ⟨g7, by rw [H6.iO, gb_s, p7, cb_s], H7⟩
  · rw [if_neg hq, if_neg hq]
    exact ⟨g6, rfl, H6⟩
end Hour
