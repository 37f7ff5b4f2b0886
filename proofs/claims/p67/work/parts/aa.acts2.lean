/-! exchanges, hours that pass, an act -/
theorem deed_cold (z : St) (i : Nat) : deed z i = 0 ↔ cold z i = true := by
  unfold deed
  by_cases hc : cold z i = true
  · rw [if_pos hc]
    exact ⟨fun _ => hc, fun _ => rfl⟩
  · rw [if_neg hc]
    refine ⟨fun h => ?_, fun h => absurd h hc⟩
    split at h
    · exact absurd h (by decide)
    · split at h
      · exact absurd h (by decide)
      · exact absurd h (by decide)
theorem B0_sm {f1 : Nat → Int32} {b : Nat} : ∀ m, (∀ i, i < m → B0 (f1 i) b) → B0 (sm f1 m) (m * b) := by
  intro m
  induction m with
  | zero => intro _; exact ⟨0, by omega, rfl⟩
  | succ m ih =>
    intro h
    obtain ⟨x, x1, x2⟩ := ih (fun i hi => h i (by omega))
    obtain ⟨y, y1, y2⟩ := h m (by omega)
    refine ⟨x + y, by rw [Nat.succ_mul]; omega, ?_⟩
    rw [sm, x2, y2, I_add]
theorem B0_add {u v : Int32} {a b : Nat} (h1 : B0 u a) (h2 : B0 v b) : B0 (u + v) (a + b) := by
  obtain ⟨x, x1, rfl⟩ := h1
  obtain ⟨y, y1, rfl⟩ := h2
  exact ⟨x + y, by omega, I_add _ _⟩
section Hut6
variable {S C D O : Nat}
theorem dawn_6 {s : St × St} (w : Ws s.1) (h1 : 1 ≤ nH s.1) (hS : S ≤ 24) (hC : C + 300 < 2 ^ 30) (hD : D + 600 < 2 ^ 30) (B : Bl S C D O s.1) : ∃ d, B0 d 550 ∧ (dawnS s).1 6 = s.1 6 + d := by
  have hh := w.h.2
  have k1 := it_kp d1Step_kp (nH s.1) hh s
  have w1 := k1.ws w
  have n1 := Kp_nH k1
  have b1 := (Bl.d1 (by omega) (nH s.1) hh (by omega) B).mono (Nat.le_refl S) (Nat.le_refl C) (show D + 3 * nH s.1 ≤ D + 30 by omega) (Nat.le_refl O)
  have k2 := k1.trans (plS_kp w1)
  have w2 := k2.ws w
  have b2 := Bl.plog w1 (by rw [n1]; exact h1) hS (by omega) (by omega) b1
  have b3 := (Bl.d3 (s := ((plS (it d1Step (nH s.1) s)).1, (plS (it d1Step (nH s.1) s)).2, 0)) w2 (by omega) rfl (nH s.1) hh (by omega) b2).2
  have e1 : (it d1Step (nH s.1) s).1 6 = s.1 6 + sm (fun i => payP s.1 i 3) (nH s.1) := by
    rw [d1_lp]
    exact (lp_c (fun _ => 3) s.1 (nH s.1) hh).1
  have d1 : B0 (sm (fun i => payP s.1 i 3) (nH s.1)) (nH s.1 * 3) := B0_sm _ (fun i hi => (B.pay (i := i) (A := 3) (by omega) ⟨3, Nat.le_refl _, rfl⟩ (by omega) (by omega)).1)
  obtain ⟨s5, s51, s52⟩ := b1.get0 (k := 5) (x := S) (by decide) rfl
  have hpl : ∀ i, i < 10 → B0 (plPart (2 * (it d1Step (nH s.1) s).1 5) ((it d1Step (nH s.1) s).1 12) i) 49 := fun i hi => by
    rw [s52, w1.h.1]
    exact plPart_b (by omega) (by rw [n1]; exact h1) w1.h.2 hi
  have e2 : (plS (it d1Step (nH s.1) s)).1 6 = (it d1Step (nH s.1) s).1 6 + sm (fun i => payP (it d1Step (nH s.1) s).1 i (plPart (2 * (it d1Step (nH s.1) s).1 5) ((it d1Step (nH s.1) s).1 12) i)) (nH (it d1Step (nH s.1) s).1) := by
    unfold plS
    dsimp only
    rw [upd_ne (by decide), pl_lp]
    exact (lp_c _ _ _ w1.h.2).1
  have d2 : B0 (sm (fun i => payP (it d1Step (nH s.1) s).1 i (plPart (2 * (it d1Step (nH s.1) s).1 5) ((it d1Step (nH s.1) s).1 12) i)) (nH (it d1Step (nH s.1) s).1)) (nH (it d1Step (nH s.1) s).1 * 49) := B0_sm _ (fun i hi => (b1.pay (i := i) (A := 49) (by omega) (hpl i (by omega)) (by omega) (by omega)).1)
  rw [n1] at d2
  unfold dawnS
  dsimp only
  obtain ⟨c1, c2, c3, c4⟩ := d3_c (nH s.1) ((plS (it d1Step (nH s.1) s)).1, (plS (it d1Step (nH s.1) s)).2, 0) (by rw [show nH (plS (it d1Step (nH s.1) s)).1 = nH s.1 from Kp_nH k2]; exact Nat.le_refl _)
  have k3 := d3_kp (nH s.1) hh ((plS (it d1Step (nH s.1) s)).1, (plS (it d1Step (nH s.1) s)).2, 0)
  have w3 := k3.ws w2
  generalize it d3Step (nH s.1) ((plS (it d1Step (nH s.1) s)).1, (plS (it d1Step (nH s.1) s)).2, 0) = t at b3 c2 w3 ⊢
  obtain ⟨x, x1, x2⟩ := b3
  obtain ⟨y, y1, y2⟩ := cntW_I w3
  have d4 : B0 (t.2.2 - shPart t.2.2 (cntW t.1) * cntW t.1) 30 := by
    unfold shPart
    rw [x2, y2]
    by_cases hy : I y = 0
    · rw [if_pos hy, hy, Int32.mul_zero, Int32.sub_zero]
      exact ⟨x, by omega, rfl⟩
    · have hy0 : 0 < y := by
        rcases Nat.eq_zero_or_pos y with h | h
        · exact absurd (by rw [h]; rfl) hy
        · exact h
      rw [if_neg hy, mod_I (by omega) (by omega) hy0]
      exact ⟨x % y, by have := Nat.mod_le x y; omega, rfl⟩
  refine ⟨_, (B0_add (B0_add d1 d2) d4).mono (by omega), ?_⟩
  unfold shS
  dsimp only
  rw [upd_at, sh_lo (by decide), c2]
  show (plS (it d1Step (nH s.1) s)).1 6 + _ = _
  rw [e2, e1, n1]
  ac_rfl
theorem hour_6 {s : St × St} (w : Ws s.1) (b : Bd s.1) (hT : nT s.1 + 1 ≤ 9999) : ∃ d, B0 d 550 ∧ (hourS s).1 6 = s.1 6 + d := by
  obtain ⟨b1, b2, b3⟩ := b
  have hh := w.h.2
  have kb := burn_kp s.1
  have wb := kb.ws w
  have hm : nT s.1 % 8 < 8 := Nat.mod_lt _ (by decide)
  have c1 := b2.burn (by omega)
  have c2 := (Bl.nt (s := (burnS s.1, s.2)) (by omega) (nH (burnS s.1)) wb.h.2 c1).2
  have kn := kb.trans (ntS_kp (s := (burnS s.1, s.2)) wb)
  have wn := kn.ws w
  obtain ⟨wt, ht⟩ := tick_ws (s := ntS (burnS s.1, s.2)) wn (by rw [Kp_nT kn]; omega)
  have ct : Bl (3 * (nT s.1 % 8) + 3) (99 + 300 * nT s.1) (600 * nT s.1) (nT s.1 + 1) (tick (ntS (burnS s.1, s.2))).1 := Bl.upN c2 rfl
  have nt0 : nH (tick (ntS (burnS s.1, s.2))).1 = nH s.1 := by
    rw [← Kp_nH kn]
    exact nH_up (by decide)
  have e6 : (tick (ntS (burnS s.1, s.2))).1 6 = s.1 6 := by
    show upd (ntS (burnS s.1, s.2)).1 3 ((ntS (burnS s.1, s.2)).1 3 + 1) 6 = _
    rw [upd_ne (by decide)]
    exact (nt_lo (by decide) _ (burnS s.1, s.2)).trans rfl
  unfold hourS endS
  split
  · obtain ⟨d, d1, d2⟩ := dawn_6 wt (by rw [nt0]; exact b1) (by omega) (by omega) (by omega) ct
    exact ⟨d, d1, by rw [d2, e6]⟩
  · exact ⟨0, ⟨0, by omega, rfl⟩, by rw [e6, Int32.add_zero]⟩
theorem many_6 {s : St × St} (w : Ws s.1) (b : Bd s.1) : ∀ m, nT s.1 + m ≤ 9999 → ∃ d, B0 d (550 * m) ∧ (manyS m s).1 6 = s.1 6 + d := by
  intro m
  induction m with
  | zero => intro _; exact ⟨0, ⟨0, by omega, rfl⟩, (Int32.add_zero _).symm⟩
  | succ m ih =>
    intro hm
    obtain ⟨d, d1, d2⟩ := ih (by omega)
    obtain ⟨w1, t1⟩ := manyS_ws w m (by omega)
    obtain ⟨e, e1, e2⟩ := hour_6 w1 (manyS_bd w b m (by omega)) (by omega)
    refine ⟨d + e, (B0_add d1 e1).mono (by omega), ?_⟩
    show (hourS (manyS m s)).1 6 = _
    rw [e2, d2, Int32.add_assoc]
end Hut6
theorem rec_top {r : RS} {a : Nat} (h5 : r.1 5 = I a) (ha : a ≤ 6) (hz : Hz (r.2 1)) : ∃ a1, a1 < 6 ∧ (recS r).1 5 = I (a1 + 1) ∧ ent ((recS r).2 3) a1 = r.2 1 := by
  have e3 : (recS r).2 3 = cpF (r.2 1) (recP r) 0 (149 * kN (recN r)) 149 := RS_at (r := r) (d := 3)
  have e5 : (recS r).1 5 = recN r + 1 := RSF_at _ _ _
  rw [e3, e5]
  by_cases h6 : a = 6
  · have e6 : recN r = 5 := if_pos (by rw [h5, h6]; rfl)
    refine ⟨5, by decide, by rw [e6]; rfl, ?_⟩
    rw [e6, show kN 5 = 5 from rfl, ent_cp hz, if_pos rfl]
  · have e6 : recN r = I a := by
      unfold recN
      rw [if_neg (show ¬ r.1 5 = 6 from fun hc => h6 ((I_eq (by omega) (by decide)).mp (h5.symm.trans (show r.1 5 = I 6 from hc)))), h5]
    refine ⟨a, by omega, by rw [e6, I_succ], ?_⟩
    rw [e6, show kN (I a) = a from I_nat (by omega), ent_cp hz, if_pos rfl]
section Ta2
variable {g : AH} {A : Nat → Nat} {n : Nat} {k9 : KK} {K T i j b q : Nat} {w : WS} {r : RS} {z : St} {s9 : Nat} {nx : Int32}
theorem s_colds (H : LQ g A n s9 nx z w) (W : Ws z) {p2 : Nat} {x : Int32} : loopX (l_act_l341 k9 (A 0) p2 x) 1000 (0, 0) g = some (cntD z 0, g) := by
  have hh := W.h.2
  unfold cntD
  refine loop_sum (n := nH z) (fun i => if deed z i = 0 then 1 else 0) (fun i hi a => ?_) (fun a => ?_) (by omega)
  · unfold l_act_l341 l_act_j379_341
    dsimp only
    rw [H.gl, gb_s, H.isL, gb_s, H.size, cb_s, if_neg (le_IN hi (by omega)), H.gl, gb_s, H.isL, gb_s, H.get hi, cb_s, H.isK hi, gb_s, H.iO, gb_s, s_isCold H W hi, cb_s, I_succ]
    by_cases hc : cold z i = true
    · rw [if_pos ((deed_cold z i).mpr hc), hc, if_neg (by decide)]
    · rw [if_neg (fun h => hc ((deed_cold z i).mp h)), if_pos ((bI_z _).mpr (by simpa using hc))]
  · unfold l_act_l341
    dsimp only
    rw [H.gl, gb_s, H.isL, gb_s, H.size, cb_s, if_pos (Int32.le_refl _)]
theorem s_ta3 (H : LQ g A n k9.2.1 (I K) (r.2 1) w) (J0 : J w r) (Ad : Au (r.2 1)) (hT : nT (r.2 1) ≤ T) (hB : Sz (r.2 1)) (hQ : Kq w) (hi : i < nH (r.2 1)) (hj : j < nH (r.2 1)) : Fin1 k9 A n K (T + 6) (ta_3 k9 (A 0) (A (2 * i + 6)) (A (2 * j + 6)) (I i) (I b) (I q) g) := by
  have Gd0 := J0.1.1
  have W := Gd0.1
  have hh := W.h.2
  have kI : kN (I i) = i := I_nat (by omega)
  have kJ : kN (I j) = j := I_nat (by omega)
  have hf0 : ftOf (r.2 1) 2 (I i) (I j) = if I i = I j then 3 else if hk (r.2 1) i 5 = -1 ∧ hk (r.2 1) j 5 = -1 then 3 else 0 := by
    rw [ft2]
    unfold ftSwap
    rw [if_pos (isH_lt W hi), if_pos (isH_lt W hj), kI, kJ]
  have no : ftOf (r.2 1) 2 (I i) (I j) = 3 → Fin1 k9 A n K (T + 6) (l_act_j292 k9 (A 0) (A (2 * j + 6)) (I i) g) := fun h3 => by
    obtain ⟨g2, e2, H2⟩ := H.no J0 (c := 2) (a := I i) (b := I j) (f := 3) (F := l_swapBlankets n (I i) (I j)) (v := -103) h3 (Or.inr (Or.inr rfl)) swapBlankets_IS
    unfold l_act_j292
    rw [H.gx, gb_s, H.k0 hj, gb_s, e2, cb_s, if_pos rfl]
    exact fin_no H2 J0 Ad hT hB hQ (by omega)
  unfold ta_3
  by_cases hij : i = j
  · subst hij
    rw [if_pos rfl]
    exact no (by rw [hf0, if_pos rfl])
  · rw [if_neg (fun hc => hij (by
      have := H.2.1 _ _ (by omega) (by omega) hc
      omega))]
    have hne : ¬ I i = I j := fun hc => hij ((I_eq (by omega) (by omega)).mp hc)
    have yes : ¬ (hk (r.2 1) i 5 = -1 ∧ hk (r.2 1) j 5 = -1) → Fin1 k9 A n K (T + 6) (l_act_j315 k9 (A 0) (A (2 * i + 6)) (A (2 * j + 6)) (I i) g) := fun hb2 => by
      have G1 := Gd0.ex hij hi hj
      obtain ⟨g1, p1, H1⟩ := H.putK W hi (k := 6) (by decide) (by decide) (hk (r.2 1) j 5)
      have n1 : nH (upd (r.2 1) (49 + 10 * i + (6 - 1)) (hk (r.2 1) j 5)) = nH (r.2 1) := nH_up (by omega)
      have W1 : Ws (upd (r.2 1) (49 + 10 * i + (6 - 1)) (hk (r.2 1) j 5)) := by
        refine Ws_up5 W ?_
        rcases W.bl hj with h | ⟨b1, h1, h2⟩
        · exact Or.inl h
        · exact Or.inr ⟨b1, h1, h2⟩
      obtain ⟨g2, p2, H2⟩ := H1.putK W1 (by rw [n1]; exact hj) (k := 6) (by decide) (by decide) (hk (r.2 1) i 5)
      have H2 : LQ g2 A n k9.2.1 (I K) (exS (r.2 1) i j) w := H2
      obtain ⟨g3, w1, r1, e3, H3, J3, z3, n9, kq⟩ := H2.act J0 (c := 2) (a := I i) (b := I j) (F := l_swapBlankets n (I i) (I j)) (by rw [hf0, if_neg hne, if_neg hb2]) (by rw [pfS2, kI, kJ]) swapBlankets_ok
      have n2 : nH (exS (r.2 1) i j) = nH (r.2 1) := by
        unfold exS
        rw [nH_up (by omega), nH_up (by omega)]
      unfold l_act_j315
      rw [H.k hi (by decide) (by decide), gb_s, H.k hj (by decide) (by decide), gb_s, show hk (r.2 1) i (6 - 1) = hk (r.2 1) i 5 from rfl, show hk (r.2 1) j (6 - 1) = hk (r.2 1) j 5 from rfl, p1, gb_s, p2, gb_s, s_colds H2 G1.1, cb_s, H2.gx, gb_s, H2.k0 (by rw [n2]; exact hj), gb_s, e3, cb_s, if_pos (by rw [pfV2, pfS2, kI, kJ])]
      rw [← z3] at H3
      refine fin_no H3 J3 ?_ ?_ (nB9 n9 hB) (kq hQ) (by omega)
      · rw [z3]
        exact ((Cs.refl.up (by omega) (Or.inr (by omega))).up (by omega) (Or.inr (by omega))).au Ad
      · rw [z3]
        unfold exS nT
        rw [upd_ne (by omega), upd_ne (by omega)]
        exact hT
    rw [H.k hi (by decide) (by decide), gb_s, H.k hj (by decide) (by decide), gb_s, show hk (r.2 1) i (6 - 1) = hk (r.2 1) i 5 from rfl, show hk (r.2 1) j (6 - 1) = hk (r.2 1) j 5 from rfl]
    rcases W.bl hi with h | ⟨b1, h1, h2⟩
    · rw [h, if_neg (by decide)]
      rcases W.bl hj with h' | ⟨b1, h1, h2⟩
      · rw [h', if_neg (by decide)]
        exact no (by rw [hf0, if_neg hne, if_pos ⟨h, h'⟩])
      · have hl := W.l.2
        rw [h2, if_pos (le_I0 (by omega))]
        exact yes (fun hc => I_nm (by omega) (h2.symm.trans hc.2))
    · have hl := W.l.2
      rw [h2, if_pos (le_I0 (by omega))]
      exact yes (fun hc => I_nm (by omega) (h2.symm.trans hc.1))
theorem ftPass0 (W : Ws z) (hq : q < 6) (hT : nT z ≤ 9000) : ftOf z 8 (I (1 + q)) 0 = 0 := by
  rw [ft8]
  unfold ftPass
  rw [if_pos (show bt (I (1 + q)) 1 48 = true from bt_I (x := 1 + q) (lo := 1) (hi := 48) (by omega) (by omega) (by decide)), W.t.1, I_add, if_pos]
  rw [show (9999 : Int32) = I 9999 from rfl, I_le (by omega) (by decide)]
  omega
theorem s_ta11 (H : LQ g A n k9.2.1 (I K) (r.2 1) w) (J0 : J w r) (Ad : Au (r.2 1)) (hT : nT (r.2 1) ≤ T) (hB : Sz (r.2 1)) (hQ : Kq w) (hT2 : T ≤ 9000) (hq : q < 6) : Fin1 k9 A n K (T + 6) (ta_11 k9 (A 0) (A (2 * i + 6)) (A (2 * j + 6)) (I i) (I b) (I q) g) := by
  have Gd0 := J0.1.1
  have W := Gd0.1
  have hh := W.h.2
  have e1q : (1 : Int32) + I q = I (1 + q) := I_add 1 q
  obtain ⟨g0, rfl, hw⟩ := H.world
  obtain ⟨w1, e1, J1, wd1⟩ := act_ok (n := n) J0 (c := 8) (a := I (1 + q)) (b := 0) (r.2 6) (ftPass0 W hq (by omega)) g0
  obtain ⟨d, d1, d2⟩ := many_6 (s := (r.2 1, r.2 6)) W Gd0.2.2.1 (1 + q) (show nT (r.2 1) + (1 + q) ≤ 9999 by omega)
  have ev : pfV (r.2 1, r.2 6) 8 (I (1 + q)) 0 = d := by
    rw [pfV8, show kN (I (1 + q)) = 1 + q from I_nat (by omega), d2]
    show (r.2 1) 6 + d - (r.2 1) 6 = d
    rw [Int32.add_comm, Int32.add_sub_cancel]
  have H1 := hw w1
  obtain ⟨a0, x0, h5, e0, hs0⟩ := J0.2.2
  obtain ⟨a1, a1l, a15, a1e⟩ := rec_top (r := RS_setF r 6 0) (a := a0) ((RSF_ne (by decide)).trans h5) hs0.1 J0.2.1
  obtain ⟨a2, x2, h52, e2, hs2⟩ := J1.2.2
  have h5' : (RD (recS (RS_setF r 6 0)) (pfS (r.2 1, r.2 6) 8 (I (1 + q)) 0) (r.2 6)).1 5 = I (a1 + 1) := a15
  have ea : a2 = a1 + 1 := (I_eq (by have := hs2.1; omega) (by omega)).mp (h52.symm.trans h5')
  subst ea
  obtain ⟨w2, e3, J2, wd2⟩ := L_back (n := n) J1 e2 h52 a1l hs2.2.1 hs2 g0
  have zz : (RS_setF (RS_setA (RD (recS (RS_setF r 6 0)) (pfS (r.2 1, r.2 6) 8 (I (1 + q)) 0) (r.2 6)) 1 (ent ((RD (recS (RS_setF r 6 0)) (pfS (r.2 1, r.2 6) 8 (I (1 + q)) 0) (r.2 6)).2 3) a1)) 5 (I a1)).2 1 = r.2 1 := a1e
  have H2 := hw w2
  rw [← zz] at H2
  unfold ta_11
  rw [e1q, H.gx, gb_s, passHours_ok _ _ _ e1, cb_s, ev, if_neg (d1.nn (by omega)), H1.gx, gb_s, e3, cb_s, if_neg (show ¬ I a1 < 0 from nI_pos (by omega))]
  exact fin_no H2 J2 (by rw [zz]; exact Ad) (by rw [zz]; exact hT) (by rw [zz]; exact hB) ((hQ.wd wd1).wd wd2) (by omega)
theorem s_ta12 (H : LQ g A n k9.2.1 (I K) (r.2 1) w) (J0 : J w r) (Ad : Au (r.2 1)) (hT : nT (r.2 1) ≤ T) (hB : Sz (r.2 1)) (hQ : Kq w) (hT2 : T ≤ 9000) (hq : q < 6) : Fin1 k9 A n K (T + 6) (ta_12 k9 (A 0) (A (2 * i + 6)) (A (2 * j + 6)) (I i) (I b) (I q) g) := by
  have Gd0 := J0.1.1
  have W := Gd0.1
  have hh := W.h.2
  have e1q : (1 : Int32) + I q = I (1 + q) := I_add 1 q
  have ekq : kN (I (1 + q)) = 1 + q := I_nat (by omega)
  obtain ⟨t, g1, e1, H1⟩ := loop_inv (n := 1 + q) (fuel := 1000) (body := l_act_l746 k9 (A 0) (I (1 + q)) ((r.2 1) 6)) (P := fun i s g => s = I i ∧ LQ g A n k9.2.1 (I K) (manyS i (r.2 1, r.2 6)).1 w) (Q := fun _ g => LQ g A n k9.2.1 (I K) (manyS (1 + q) (r.2 1, r.2 6)).1 w) (fun i s g hi hP => by
    obtain ⟨rfl, H1⟩ := hP
    obtain ⟨w1, t1⟩ := manyS_ws (s := (r.2 1, r.2 6)) W i (show nT (r.2 1) + i ≤ 20000 by omega)
    have t1 : nT (manyS i (r.2 1, r.2 6)).1 = nT (r.2 1) + i := t1
    have b1 := manyS_bd (s := (r.2 1, r.2 6)) W Gd0.2.2.1 i (show nT (r.2 1) + i ≤ 20000 by omega)
    obtain ⟨g1, p1, H2⟩ := s_passes H1 w1 b1 (by omega) (manyS i (r.2 1, r.2 6)).2
    refine ⟨_, g1, ?_, rfl, H2⟩
    unfold l_act_l746
    rw [if_neg (le_IN hi (by omega)), H1.iO, gb_s, p1, cb_s, I_succ]) (fun s g hP => by
    obtain ⟨rfl, H1⟩ := hP
    refine ⟨(), g, ?_, H1⟩
    unfold l_act_l746
    rw [if_pos (Int32.le_refl _)]) (by omega) (s := 0) (g := g) ⟨rfl, H⟩
  obtain ⟨g3, w1, r1, e3, H3, J3, z3, n9, kq⟩ := H1.act J0 (c := 8) (a := I (1 + q)) (b := 0) (F := l_passHours n (I (1 + q))) (ftPass0 W hq (by omega)) (by rw [pfS8, ekq]) passHours_ok
  unfold ta_12
  rw [e1q, H.gI (by decide) (by decide), gb_s, show (r.2 1) (zi 16) = (r.2 1) 6 from rfl, e1, cb_s, H1.gx, gb_s, e3, cb_s, H3.gI (by decide) (by decide), gb_s, if_pos (by rw [pfV8, ekq]; rfl)]
  rw [← z3] at H3
  refine ⟨g3, K, rfl, by omega, w1, r1, H3, J3, ?_, ?_, nB9 n9 hB, kq hQ⟩
  · rw [z3]
    exact Au_many (s := (r.2 1, r.2 6)) Ad _
  · rw [z3, (manyS_ws (s := (r.2 1, r.2 6)) W (1 + q) (show nT (r.2 1) + (1 + q) ≤ 20000 by omega)).2]
    show nT (r.2 1) + (1 + q) ≤ T + 6
    omega
/-- one act of the law -/
theorem s_act (R : Rn k9 A n K T g) (hK : K < 2 ^ 28) (hL : k9.2.2.1 < 2 ^ 30) (hT2 : T ≤ 9000) : ∃ g1 K1, l_act k9 (A 0) g = some (1, g1) ∧ K1 ≤ K + 6 ∧ Rn k9 A n K1 (T + 6) g1 := by
  obtain ⟨w, r, H, J0, Ad, hT, hB, hQ⟩ := R
  have Gd0 := J0.1.1
  have W := Gd0.1
  have hh := W.h
  have h1 := Gd0.2.2.1.1
  have hb := W.b
  have hB1 := hB.1
  obtain ⟨i, g1, hi, e1, H1, -⟩ := s_draw H W (by omega) hL (m := nH (r.2 1)) (by omega) (by omega)
  obtain ⟨j, g2, hj, e2, H2, -⟩ := s_draw H1 W (by omega) hL (m := nH (r.2 1)) (by omega) (by omega)
  obtain ⟨b, g3, hb1, e3, H3, -⟩ := s_draw H2 W (by omega) hL (m := nB (r.2 1)) (by omega) (by omega)
  obtain ⟨q, g4, hq, e4, H4, -⟩ := s_draw H3 W (by omega) hL (m := 6) (by omega) (by omega)
  obtain ⟨c, g5, hc, e5, H5, -⟩ := s_draw H4 W (by omega) hL (m := 14) (by omega) (by omega)
  have e4 : l_draw k9 (A 0) 6 g3 = some (I q, g4) := e4
  have e5 : l_draw k9 (A 0) 14 g4 = some (I c, g5) := e5
  have F : Fin1 k9 A n (K + 5) (T + 6) (if I c = 0 then ta_0 k9 (A 0) (A (2 * i + 6)) (A (2 * j + 6)) (I i) (I b) (I q) g5 else if I c = 1 then ta_1 k9 (A 0) (A (2 * i + 6)) (A (2 * j + 6)) (I i) (I b) (I q) g5 else if I c = 2 then ta_2 k9 (A 0) (A (2 * i + 6)) (A (2 * j + 6)) (I i) (I b) (I q) g5 else if I c = 3 then ta_3 k9 (A 0) (A (2 * i + 6)) (A (2 * j + 6)) (I i) (I b) (I q) g5 else if I c = 4 then ta_4 k9 (A 0) (A (2 * i + 6)) (A (2 * j + 6)) (I i) (I b) (I q) g5 else if I c = 5 then ta_5 k9 (A 0) (A (2 * i + 6)) (A (2 * j + 6)) (I i) (I b) (I q) g5 else if I c = 6 then ta_6 k9 (A 0) (A (2 * i + 6)) (A (2 * j + 6)) (I i) (I b) (I q) g5 else if I c = 7 then ta_7 k9 (A 0) (A (2 * i + 6)) (A (2 * j + 6)) (I i) (I b) (I q) g5 else if I c = 8 then ta_8 k9 (A 0) (A (2 * i + 6)) (A (2 * j + 6)) (I i) (I b) (I q) g5 else if I c = 9 then ta_9 k9 (A 0) (A (2 * i + 6)) (A (2 * j + 6)) (I i) (I b) (I q) g5 else if I c = 10 then ta_10 k9 (A 0) (A (2 * i + 6)) (A (2 * j + 6)) (I i) (I b) (I q) g5 else if I c = 11 then ta_11 k9 (A 0) (A (2 * i + 6)) (A (2 * j + 6)) (I i) (I b) (I q) g5 else ta_12 k9 (A 0) (A (2 * i + 6)) (A (2 * j + 6)) (I i) (I b) (I q) g5) := by
    match c, hc with
    | 0, _ =>
      rw [if_pos (by decide)]
      exact s_ta0 (b := b) (j := j) (q := q) H5 J0 Ad hT hB hQ (by omega) hL hi
    | 1, _ =>
      rw [if_neg (by decide), if_pos (by decide)]
      exact s_ta0 (b := b) (j := j) (q := q) H5 J0 Ad hT hB hQ (by omega) hL hi
    | 2, _ =>
      rw [if_neg (by decide), if_neg (by decide), if_pos (by decide)]
      exact s_ta2 H5 J0 Ad hT hB hQ hi
    | 3, _ =>
      rw [if_neg (by decide), if_neg (by decide), if_neg (by decide), if_pos (by decide)]
      exact s_ta3 H5 J0 Ad hT hB hQ hi hj
    | 4, _ =>
      rw [if_neg (by decide), if_neg (by decide), if_neg (by decide), if_neg (by decide), if_pos (by decide)]
      exact s_ta4 (j := j) (q := q) H5 J0 Ad hT hB hQ hi hb1
    | 5, _ =>
      rw [if_neg (by decide), if_neg (by decide), if_neg (by decide), if_neg (by decide), if_neg (by decide), if_pos (by decide)]
      exact s_ta4 (j := j) (q := q) H5 J0 Ad hT hB hQ hi hb1
    | 6, _ =>
      rw [if_neg (by decide), if_neg (by decide), if_neg (by decide), if_neg (by decide), if_neg (by decide), if_neg (by decide), if_pos (by decide)]
      exact s_ta4 (j := j) (q := q) H5 J0 Ad hT hB hQ hi hb1
    | 7, _ =>
      rw [if_neg (by decide), if_neg (by decide), if_neg (by decide), if_neg (by decide), if_neg (by decide), if_neg (by decide), if_neg (by decide), if_pos (by decide)]
      exact s_ta7 H5 J0 Ad hT hB hQ hi
    | 8, _ =>
      rw [if_neg (by decide), if_neg (by decide), if_neg (by decide), if_neg (by decide), if_neg (by decide), if_neg (by decide), if_neg (by decide), if_neg (by decide), if_pos (by decide)]
      exact s_ta8 H5 J0 Ad hT hB hQ (by omega) hL
    | 9, _ =>
      rw [if_neg (by decide), if_neg (by decide), if_neg (by decide), if_neg (by decide), if_neg (by decide), if_neg (by decide), if_neg (by decide), if_neg (by decide), if_neg (by decide), if_pos (by decide)]
      exact s_ta9 H5 J0 Ad hT hB hQ hq
    | 10, _ =>
      rw [if_neg (by decide), if_neg (by decide), if_neg (by decide), if_neg (by decide), if_neg (by decide), if_neg (by decide), if_neg (by decide), if_neg (by decide), if_neg (by decide), if_neg (by decide), if_pos (by decide)]
      exact s_ta10 H5 J0 Ad hT hB hQ hi hq
    | 11, _ =>
      rw [if_neg (by decide), if_neg (by decide), if_neg (by decide), if_neg (by decide), if_neg (by decide), if_neg (by decide), if_neg (by decide), if_neg (by decide), if_neg (by decide), if_neg (by decide), if_neg (by decide), if_pos (by decide)]
      exact s_ta11 H5 J0 Ad hT hB hQ hT2 hq
    | 12, _ =>
      rw [if_neg (by decide), if_neg (by decide), if_neg (by decide), if_neg (by decide), if_neg (by decide), if_neg (by decide), if_neg (by decide), if_neg (by decide), if_neg (by decide), if_neg (by decide), if_neg (by decide), if_neg (by decide)]
      exact s_ta12 H5 J0 Ad hT hB hQ hT2 hq
    | 13, _ =>
      rw [if_neg (by decide), if_neg (by decide), if_neg (by decide), if_neg (by decide), if_neg (by decide), if_neg (by decide), if_neg (by decide), if_neg (by decide), if_neg (by decide), if_neg (by decide), if_neg (by decide), if_neg (by decide)]
      exact s_ta12 H5 J0 Ad hT hB hQ hT2 hq
  obtain ⟨g6, K1, f1, f2, f3⟩ := F
  refine ⟨g6, K1, ?_, by omega, f3⟩
  rw [← f1]
  unfold l_act
  rw [H.gl, gb_s, gb_s, H.isL, gb_s, H.size, cb_s, H.iO, gb_s, e1, cb_s, H1.isL, gb_s, H1.get hi, cb_s, H1.isK hi, gb_s, H1.gl, gb_s, gb_s, H1.isL, gb_s, H1.size, cb_s, H1.iO, gb_s, e2, cb_s, H2.isL, gb_s, H2.get hj, cb_s, H2.isK hj, gb_s, H2.k0 hi, gb_s, H2.gI (by decide) (by decide), gb_s, show (r.2 1) (zi 7) = I (nB (r.2 1)) from hb.1, H2.iO, gb_s, e3, cb_s, H3.iO, gb_s, e4, cb_s, H4.iO, gb_s, e5, cb_s]
  rfl
end Ta2
