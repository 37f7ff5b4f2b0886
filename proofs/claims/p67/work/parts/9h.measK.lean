/-! measuring keeps the rest of the hut -/
def Mk (h h1 : HS) : Prop := h1.1 = h.1 ∧ (∀ d, d ≠ 5 → h1.2.1 d = h.2.1 d) ∧ (∀ i f, f < 6 → h1.2.2.1 i f = h.2.2.1 i f) ∧ h1.2.2.2 = h.2.2.2
theorem Mk.refl {h : HS} : Mk h h := ⟨rfl, fun _ _ => rfl, fun _ _ _ => rfl, rfl⟩
def Rk (h0 : HS) (st : St) (h : HS) : Prop := Rel st h ∧ Mk h0 h
theorem Rk.k67 {h0 h : HS} {st : St} (R : Rk h0 st h) {i k : Nat} {v : Int32} (hk0 : 6 ≤ k) : Rk h0 st (hK h i k v) := ⟨R.1.k67 hk0, R.2.1, R.2.2.1, fun q f hf => (hK_ne (Or.inr (by omega))).trans (R.2.2.2.1 q f hf), R.2.2.2.2⟩
theorem Rk.a5 {h0 h : HS} {st : St} (R : Rk h0 st h) {z : Nat → Int32} : Rk h0 st (hAr h 5 z) := ⟨R.1.a5, R.2.1, fun d hd => (show (if d = 5 then z else h.2.1 d) = h0.2.1 d by rw [if_neg hd]; exact R.2.2.1 d hd), R.2.2.2.1, R.2.2.2.2⟩
section MeasK
variable {g : AH} {p : Nat} {st : St} {h : HS}
theorem c_measureK (w : Ws st) (u : Un st) (R0 : Rel st h) : ∃ h1, x3_measure p (putH g p h) = some ((), putH g p h1) ∧ Rel st h1 ∧ Meas st h1 ∧ Mk h h1 := by
  have R : Rk h st h := ⟨R0, Mk.refl⟩
  have hh := w.h.2
  unfold x3_measure
  rw [H_isO, gb_s, c_inside w R.1, cb_s]
  -- the snores are put to 0
  have L1 : ∃ t g1, loopX (x3_measure_l7 p (ins st)) 1000 0 (putH g p h) = some (t, g1) ∧ ∃ h1, g1 = putH g p h1 ∧ Rk h st h1 ∧ ∀ j, j < 16 → h1.2.1 5 j = 0 := by
    refine loop_inv (n := 16) (fun i s g1 => s = I i ∧ ∃ h1, g1 = putH g p h1 ∧ Rk h st h1 ∧ ∀ j, j < i → h1.2.1 5 j = 0) (fun _ g1 => ∃ h1, g1 = putH g p h1 ∧ Rk h st h1 ∧ ∀ j, j < 16 → h1.2.1 5 j = 0) ?_ ?_ (by decide) ⟨rfl, h, rfl, R, fun j hj => by omega⟩
    · rintro i s g1 hi ⟨rfl, h1, rfl, R1, hz⟩
      unfold x3_measure_l7
      rw [H_getR (d := 5) rfl (by decide) (by decide), gb_s, H_alen (by decide) (by decide), gb_s, if_neg (by rw [show I (hLen 5) = I 16 from rfl, I_le (by decide) (by omega)]; omega), gb_s, H_ast (d := 5) (k := i) (by decide) (by decide) rfl hi, gb_s]
      refine ⟨_, _, rfl, I_succ i, _, rfl, R1.a5, fun j hj => ?_⟩
      show upd (h1.2.1 5) i 0 j = 0
      by_cases hji : j = i
      · rw [hji, upd_at]
      · rw [upd_ne hji]
        exact hz j (by omega)
    · rintro s g1 ⟨rfl, h1, rfl, R1, hz⟩
      unfold x3_measure_l7
      rw [H_getR (d := 5) rfl (by decide) (by decide), gb_s, H_alen (by decide) (by decide), gb_s, if_pos (by decide)]
      exact ⟨_, _, rfl, h1, rfl, R1, hz⟩
  obtain ⟨t, g1, e1, h1, rfl, R1, hz⟩ := L1
  rw [e1, cb_s]
  have L2 : ∃ t g1, loopX (x3_measure_l31 p (ins st)) 1000 0 (putH g p h1) = some (t, g1) ∧ ∃ h2, g1 = putH g p h2 ∧ Rk h st h2 ∧ Meas st h2 := by
    refine loop_inv (n := nH st) (fun i s g1 => s = I i ∧ ∃ h1, g1 = putH g p h1 ∧ Rk h st h1 ∧ MeasN st i h1) (fun _ g1 => ∃ h1, g1 = putH g p h1 ∧ Rk h st h1 ∧ Meas st h1) ?_ ?_ (by omega) ⟨rfl, h1, rfl, R1, fun j hj => by omega, fun j hj => by rw [if_neg (fun hc => by omega)]; exact hz j hj⟩
    · rintro i s g1 hi ⟨rfl, h1, rfl, R1, M1⟩
      have hi0 : i < 10 := by omega
      have hR : Rk h st (hK (hK h1 i 6 (thk st i)) i 7 (wN st i)) := (R1.k67 (by decide)).k67 (by decide)
      have hM : ∀ q, q < i + 1 → (hK (hK h1 i 6 (thk st i)) i 7 (wN st i)).2.2.1 q 6 = thk st q ∧ (hK (hK h1 i 6 (thk st i)) i 7 (wN st i)).2.2.1 q 7 = wN st q := by
        intro q hq
        by_cases hqi : q = i
        · rw [hqi, hK_at, hK_ne (Or.inr (by decide)), hK_at]
          exact ⟨rfl, rfl⟩
        · rw [hK_ne (Or.inl hqi), hK_ne (Or.inl hqi), hK_ne (Or.inl hqi), hK_ne (Or.inl hqi)]
          exact M1.1 q (by omega)
      -- the second half
      have e71 : ∃ h2, x3_measure_j71_31 p (ins st) (I i) (p + (7 + 2 * i)) (thk st i) (p + (7 + 2 * i)) (putH g p h1) = some (.inl (I (i + 1)), putH g p h2) ∧ Rk h st h2 ∧ MeasN st (i + 1) h2 := by
        have Ra : Rk h st (hK h1 i 6 (thk st i)) := R1.k67 (by decide)
        unfold x3_measure_j71_31 x3_measure_j126_31
        rw [K_putI hi0 (by decide), gb_s, K_getI hi0 (by decide), gb_s, hK_at, K_getI hi0 (by decide), gb_s, Ra.1.2.2.1 i hi 4 (by decide), H_isO, gb_s]
        by_cases hb : hk st i 4 = -1
        · have ew : (ins st + thk st i) + 0 = wN st i := by
            unfold wN wB
            rw [if_pos hb, Int32.add_zero]
          rw [hb, c_warmthOfNone Ra.1, cb_s, ew, K_putI hi0 (by decide), gb_s, K_getI hi0 (by decide), gb_s, hR.1.2.2.1 i hi 4 (by decide), hb, H_isO, gb_s, c_hasBunk hR.1, cb_s, if_pos ((bI_z _).mpr (has_neg _)), I_succ]
          refine ⟨_, rfl, hR, hM, fun j hj => ?_⟩
          show h1.2.1 5 j = _
          rw [M1.2 j hj]
          by_cases hc : hk st i 4 = I j - 2
          · have : inB st (I j - 2) = -1 := by rw [← hc, hb]; exact inB_neg w
            rw [if_neg (fun h => h.1 this), if_neg (fun h => h.1 this)]
          · simp only [inB_lt w hc]
        · obtain ⟨b, b1, b2, b3, b4⟩ := w.bunk hi0 hb
          have hib := inB_of w u hi hb
          have ew : (ins st + thk st i) + ((st (13 + b) + near st (I b - 1)) + near st (I b + 1)) = wN st i := by
            unfold wN wB
            rw [if_neg hb, b3, show kN (I b) = b from I_nat (by omega)]
            ac_rfl
          have hnb : nB st < 2 ^ 31 := by have := w.b.2; omega
          rw [b3] at hib
          have hne : ∀ j, j < 16 → j ≠ b + 2 → hk st i 4 ≠ I j - 2 := by
            intro j hj hjb hc
            rw [b3] at hc
            have h5 : I b + 2 = I j := by rw [hc, Int32.sub_add_cancel]
            rw [show (2 : Int32) = I 2 from rfl, I_add, I_eq (by omega) (by omega)] at h5
            omega
          rw [b3, c_warmthOfBunk w Ra.1 b2, cb_s, ew, K_putI hi0 (by decide), gb_s, K_getI hi0 (by decide), gb_s, hR.1.2.2.1 i hi 4 (by decide), b3, H_isO, gb_s, c_hasBunk hR.1, cb_s, w.b.1, if_neg (by rw [bI_z, has_I hnb b2]; decide), K_isO hi0, gb_s, c_isCold hi hi0 hR.1, cb_s, hK_at]
          show ∃ h2, (if bI (cold st i) = 0 then _ else _) = _ ∧ _
          by_cases hcd : cold st i = true
          · rw [if_neg (by rw [bI_z, hcd]; decide), I_succ]
            refine ⟨_, rfl, hR, hM, fun j hj => ?_⟩
            show h1.2.1 5 j = _
            rw [M1.2 j hj]
            by_cases hjb : j = b + 2
            · have es : sn st (I j - 2) = 0 := by
                rw [hjb, I_m0]
                unfold sn
                rw [hib, if_neg (I_ne_neg (by omega)), show kN (I i) = i from I_nat (by omega), if_pos hcd]
              rw [es]
              split <;> split <;> rfl
            · simp only [inB_lt w (hne j hj hjb)]
          · rw [if_pos ((bI_z _).mpr (by simpa using hcd)), H_getR (d := 5) rfl (by decide) (by decide), gb_s, K_getI hi0 (by decide), gb_s, hR.1.2.2.1 i hi 4 (by decide), b3, K_getI hi0 (by decide), gb_s, hR.1.2.2.1 i hi 1 (by decide), H_ast (d := 5) (k := b + 2) (x := I b + 2) (by decide) (by decide) (I_add b 2) (by show _ < 16; omega), gb_s, I_succ]
            refine ⟨_, rfl, hR.a5, hM, fun j hj => ?_⟩
            show upd (h1.2.1 5) (b + 2) (hk st i 1) j = _
            by_cases hjb : j = b + 2
            · have es : sn st (I j - 2) = hk st i 1 := by
                rw [hjb, I_m0]
                unfold sn
                rw [hib, if_neg (I_ne_neg (by omega)), show kN (I i) = i from I_nat (by omega), if_neg hcd]
              rw [es, hjb, upd_at, I_m0, hib, if_pos ⟨I_ne_neg (by omega), by rw [show kN (I i) = i from I_nat (by omega)]; omega⟩]
            · rw [upd_ne hjb, M1.2 j hj]
              simp only [inB_lt w (hne j hj hjb)]
      obtain ⟨h2, e2, R2, M2⟩ := e71
      refine ⟨_, _, ?_, rfl, h2, rfl, R2, M2⟩
      unfold x3_measure_l31
      rw [H_getI (by decide), gb_s, R1.1.1.2.2.2.2.2.2.2.2.2.2.2.2, w.h.1, if_neg (by rw [I_le (by omega) (by omega)]; omega), H_getR (d := 6) rfl (by decide) (by decide), gb_s, H_hik hi0, gb_s, K_getI hi0 (by decide), gb_s, R1.1.2.2.1 i hi 5 (by decide), H_isO, gb_s, c_hasBlanket R1.1, cb_s]
      by_cases hb : hk st i 5 = -1
      · rw [hb, if_pos ((bI_z _).mpr (has_neg _))]
        rw [show thk st i = 0 from if_pos hb] at e2
        exact e2
      · obtain ⟨b, b1, b2', b3, b4⟩ := w.blan hi0 hb
        have b2 := b2' hi
        have hnl : nL st < 2 ^ 31 := by have := w.l.2; omega
        rw [b3, w.l.1, if_neg (by rw [bI_z, has_I hnl b2]; decide), H_getR (d := 2) rfl (by decide) (by decide), gb_s, K_getI hi0 (by decide), gb_s, R1.1.2.2.1 i hi 5 (by decide), b3, H_ald (d := 2) (k := b) (x := I b) (by decide) (by decide) rfl (by show _ < 12; omega), gb_s, R1.1.2.1.2.1 _ b2]
        rw [show thk st i = st (25 + b) by unfold thk; rw [if_neg hb, b4]] at e2
        exact e2
    · rintro s g1 ⟨rfl, h1, rfl, R1, M1⟩
      unfold x3_measure_l31
      rw [H_getI (by decide), gb_s, R1.1.1.2.2.2.2.2.2.2.2.2.2.2.2, w.h.1, if_pos ((I_le (by omega) (by omega)).mpr (Nat.le_refl _))]
      exact ⟨_, _, rfl, h1, rfl, R1, measN_all w M1⟩
  obtain ⟨t2, g2, e2, h2, rfl, R2, M2⟩ := L2
  rw [e2, cb_s]
  exact ⟨h2, rfl, R2.1, M2, R2.2⟩
theorem Dr.mk {h h1 : HS} (d : Dr h) (m : Mk h h1) : Dr h1 := by
  obtain ⟨d1, d2, d3, d4⟩ := d
  obtain ⟨m1, m2, m3, m4⟩ := m
  refine ⟨by rw [m1]; exact d1, fun i hi => ?_, by rw [m4]; exact d3, fun j hj => by rw [m2 4 (by decide)]; exact d4 j hj⟩
  rw [m3 i 3 (by decide), m3 i 4 (by decide), m3 i 5 (by decide)]
  exact d2 i hi
theorem Dr.su {h : HS} {u : Su} (d : Dr h) : Dr (suH h u) := (((((((((d.f (Or.inl rfl)).a (by decide)).f (Or.inr (by decide))).a (by decide)).f (Or.inr (by decide))).a (by decide)).f (Or.inr (by decide))).v u.2.2.2.2).f (Or.inr (by decide)))
theorem c_openK {u : Su} (b : suB u) (hA : ∀ j, j < 149 → st j = zA u j) (d : Dr h) : ∃ h1, x3_open p (putH g p (suH h u)) = some ((), putH g p h1) ∧ Rel st h1 ∧ Meas st h1 ∧ Gd st ∧ Dr h1 := by
  have G := Gd_set b hA
  have e7 : upd st 7 (I (sumC u.2.2.2.2)) = st := funext fun j => by
    show (if j = 7 then I (sumC u.2.2.2.2) else st j) = st j
    by_cases hj : j = 7
    · rw [if_pos hj, hj, hA 7 (by decide)]; rfl
    · rw [if_neg hj]
  have W7 : Ws (upd st 7 ((hF (suH h u) 8 (I u.1)).1 7)) := (Kp.refl.up (by decide) (fun j hj => by omega) : Kp st _).ws G.1
  have R0 := Rel_set (x := (hF (suH h u) 8 (I u.1)).1 7) b hA d
  have e0 : hF (hF (suH h u) 8 (I u.1)) 7 ((hF (suH h u) 8 (I u.1)).1 7) = hF (suH h u) 8 (I u.1) := by
    unfold hF
    rw [upd_self rfl]
  rw [e0] at R0
  have R1 := Rel_set (x := I (sumC u.2.2.2.2)) b hA d
  rw [e7] at R1
  obtain ⟨h1, m1, m2, m3, m4⟩ := c_measureK (g := g) (p := p) G.1 G.2.1 R1
  unfold x3_open
  rw [H_getI (by decide), gb_s, H_putI (by decide), gb_s, H_isO, gb_s, show (suH h u).1 1 = I u.1 from rfl, c_sumOfCoins W7 R0, cb_s, H_putI (by decide), gb_s, sumF_set b hA, H_isO, gb_s, m1, cb_s]
  exact ⟨h1, rfl, m2, m3, G, ((d.su.f (Or.inr (by decide))).f (Or.inr (by decide))).mk m4⟩
end MeasK


