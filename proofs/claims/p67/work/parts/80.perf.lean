/-! the class does a command -/
def Gd (st : St) : Prop := Ws st ∧ Un st ∧ Bd st ∧ nT st ≤ 9999
theorem bt_ex {v : Int32} {lo hi : Nat} (h1 : lo < 2 ^ 31) (h2 : hi < 2 ^ 31) (h : bt v (I lo) (I hi) = true) : ∃ x, lo ≤ x ∧ x ≤ hi ∧ v = I x ∧ kN v = x := by
  unfold bt at h
  simp only [Bool.and_eq_true, Bool.not_eq_true', decide_eq_false_iff_not] at h
  have h0 : 0 ≤ v := Int32.le_trans (Int32.zero_le_ofNat_of_lt h1) (Int32.not_lt.mp h.1)
  have hv : v = I (kN v) := (Int32.ofNat_toNatClampNeg _ h0).symm
  have hk0 := Int32.toNatClampNeg_lt v
  have h3 := h.1
  have h4 := h.2
  rw [hv] at h3 h4
  rw [I_lt (by omega) (by omega)] at h3 h4
  exact ⟨kN v, by omega, by omega, hv, rfl⟩
section Perf
variable {g : AH} {p : Nat} {h : HS} {st : St}
theorem Bd.up (b : Bd st) {k : Nat} {v : Int32} (h1 : k ≠ 3 ∧ k ≠ 10 ∧ k ≠ 12 ∧ ¬ (25 ≤ k ∧ k < 37)) (hv : ∀ x, lim (3 * (nT st % 8)) (99 + 300 * nT st) (600 * nT st) (nT st) k = some x → B0 v x) (w : Ws st) : Bd (upd st k v) := by
  obtain ⟨b1, b2, b3⟩ := b
  have eH : nH (upd st k v) = nH st := by unfold nH; rw [upd_ne (by omega)]
  have eL : nL (upd st k v) = nL st := by unfold nL; rw [upd_ne (by omega)]
  have eT : nT (upd st k v) = nT st := by unfold nT; rw [upd_ne (by omega)]
  have := w.l.2
  refine ⟨by rw [eH]; exact b1, by rw [eT]; exact b2.up hv, fun q hq => ?_⟩
  rw [eL] at hq
  rw [upd_ne (by omega)]
  exact b3 q hq
theorem Bd.upF (b : Bd st) (w : Ws st) {i f : Nat} {v : Int32} (hf : f < 10) (hl : ∀ x, limF (99 + 300 * nT st) (600 * nT st) (nT st) f = some x → B0 v x) : Bd (upd st (49 + 10 * i + f) v) :=
  b.up (by omega) (fun x hx => hl x (by rw [← hx]; exact (lim_h hf).symm)) w
theorem Bd.rd (b : Bd st) {k x : Nat} (hk0 : k < 49) (hl : limG (3 * (nT st % 8)) k = some x) : B0 (st k) x := b.2.1.get0 (by omega) ((lim_g hk0).trans hl)
theorem Meas.kk (M : Meas st h) {i k : Nat} {v : Int32} (hk0 : k < 6) : Meas st (hK h i k v) := ⟨fun q hq => by rw [hK_ne (Or.inr (by omega)), hK_ne (Or.inr (by omega))]; exact M.1 q hq, M.2⟩
theorem c_payBack2 (w : Ws st) (R : Rel st h) (M : Meas st h) {i : Nat} (hi : i < nH st) (v : Int32) : ∃ h1, x3_payBack p (I i) v (putH g p h) = some (hk st i 3 + -v, putH g p h1) ∧ Rel (pbS st i v) h1 ∧ Meas (pbS st i v) h1 := by
  have hi0 : i < 10 := by have := w.h.2; omega
  have R1 := R.upK (i := i) (f := 2) (v := hk st i 2 + -v) w hi0 (by decide)
  have w1 : Ws (upd st (49 + 10 * i + 2) (hk st i 2 + -v)) := (Kp.refl.up (by omega) (fun j hj => by omega) : Kp st _).ws w
  have R2 := R1.upK (i := i) (f := 3) (v := hk st i 3 + -v) w1 hi0 (by decide)
  have w2 : Ws (upd (upd st (49 + 10 * i + 2) (hk st i 2 + -v)) (49 + 10 * i + 3) (hk st i 3 + -v)) := (Kp.refl.up (by omega) (fun j hj => by omega) : Kp (upd st (49 + 10 * i + 2) (hk st i 2 + -v)) _).ws w1
  have R3 := R2.upF (k := 4) (v := st 6 + v) w2 (by decide)
  have a : Ag st (pbS st i v) := ((Ag.refl.up (by omega) (fun j hj => by omega)).up (by omega) (fun j hj => by omega)).up (by decide) (fun j hj => by omega)
  unfold x3_payBack
  rw [H_getR (d := 6) rfl (by decide) (by decide), gb_s, H_hik hi0, gb_s, K_getI hi0 (by decide), gb_s, R.2.2.1 i hi 2 (by decide), Int32.sub_eq_add_neg, K_putI hi0 (by decide), gb_s, H_getR (d := 6) rfl (by decide) (by decide), gb_s, H_hik hi0, gb_s, K_getI hi0 (by decide), gb_s, hK_ne (Or.inr (by decide)), R.2.2.1 i hi 3 (by decide), Int32.sub_eq_add_neg, K_putI hi0 (by decide), gb_s, H_getI (by decide), gb_s, show (hK (hK h i 2 (hk st i 2 + -v)) i 3 (hk st i 3 + -v)).1 4 = st 6 from Rel_at R 4 (by decide), H_putI (by decide), gb_s, H_getR (d := 6) rfl (by decide) (by decide), gb_s, H_hik hi0, gb_s, K_getI hi0 (by decide), gb_s]
  refine ⟨hF (hK (hK h i 2 (hk st i 2 + -v)) i 3 (hk st i 3 + -v)) 4 (st 6 + v), ?_, R3, ?_⟩
  · rw [show (hF (hK (hK h i 2 (hk st i 2 + -v)) i 3 (hk st i 3 + -v)) 4 (st 6 + v)).2.2.1 i 3 = hk st i 3 + -v from hK_at]
  · have M1 : Meas st (hF (hK (hK h i 2 (hk st i 2 + -v)) i 3 (hk st i 3 + -v)) 4 (st 6 + v)) := (M.kk (by decide)).kk (by decide)
    exact Meas_ag a w M1
theorem Gd.up5 (G : Gd st) {i : Nat} {v : Int32} (hv : v = -1 ∨ ∃ b, b < nL st ∧ v = I b) (hu : v = -1 ∨ ∀ k, k < nH st → hk st k 5 ≠ v) : Gd (upd st (49 + 10 * i + 5) v) := by
  obtain ⟨w, u, b, t⟩ := G
  exact ⟨Ws_up5 w hv, Un_up5 u hu, b.upF w (by decide) (fun x hx => by cases hx), by unfold nT; rw [upd_ne (by omega)]; exact t⟩
theorem Gd.up4 (G : Gd st) {i : Nat} {v : Int32} (hv : v = -1 ∨ ∃ b, b < nB st ∧ v = I b) (hu : v = -1 ∨ ∀ k, k < nH st → k ≠ i → hk st k 4 ≠ v) : Gd (upd st (49 + 10 * i + 4) v) := by
  obtain ⟨w, u, b, t⟩ := G
  exact ⟨Ws_up4 w hv, Un_up4 u hu, b.upF w (by decide) (fun x hx => by cases hx), by unfold nT; rw [upd_ne (by omega)]; exact t⟩
theorem Gd.ex (G : Gd st) {i j : Nat} (hij : i ≠ j) (hi : i < nH st) (hj : j < nH st) : Gd (exS st i j) := by
  obtain ⟨w, u, b, t⟩ := G
  have hh := w.h.2
  have w1 : Ws (upd st (49 + 10 * i + 5) (hk st j 5)) := Ws_up5 w (w.bl hj)
  have hl : nL (upd st (49 + 10 * i + 5) (hk st j 5)) = nL st := by unfold nL; rw [upd_ne (by omega)]
  refine ⟨Ws_up5 w1 (by rw [hl]; exact w.bl hi), Un_ex w u hij hi hj, (b.upF w (by decide) (fun x hx => by cases hx)).upF w1 (by decide) (fun x hx => by cases hx), ?_⟩
  unfold exS nT
  rw [upd_ne (by omega), upd_ne (by omega)]
  exact t
theorem Gd.many {s : St × St} (G : Gd s.1) {n : Nat} (hn : nT s.1 + n ≤ 9999) : Gd (manyS n s).1 := by
  obtain ⟨w, u, b, t⟩ := G
  obtain ⟨w1, t1⟩ := manyS_ws w n (by omega)
  exact ⟨w1, manyS_un w u n (by omega), manyS_bd w b n (by omega), by omega⟩
theorem Gd.upG (G : Gd st) {k : Nat} {v : Int32} (hk0 : k < 9 ∧ k ≠ 3) (hv : ∀ x, limG (3 * (nT st % 8)) k = some x → B0 v x) : Gd (upd st k v) := by
  obtain ⟨w, u, b, t⟩ := G
  have kp : Kp st (upd st k v) := Kp_upF hk0.1 hk0.2
  refine ⟨kp.ws w, kp.un w u, b.up (by omega) (fun x hx => hv x (by rw [← hx]; exact (lim_g (by omega)).symm)) w, ?_⟩
  unfold nT
  rw [upd_ne (by omega)]
  exact t
theorem ft_one {P : Prop} [Decidable P] {x y : Int32} (h : (if P then x else y) = 0) (hy : ¬ y = 0) : P ∧ x = 0 := by
  by_cases hp : P
  · rw [if_pos hp] at h; exact ⟨hp, h⟩
  · rw [if_neg hp] at h; exact absurd h hy
theorem ft_two {P : Prop} [Decidable P] {x y : Int32} (h : (if P then x else y) = 0) (hx : ¬ x = 0) : ¬ P ∧ y = 0 := by
  by_cases hp : P
  · rw [if_pos hp] at h; exact absurd h hx
  · rw [if_neg hp] at h; exact ⟨hp, h⟩
theorem c_perform {s : St × St} (G : Gd s.1) (R : Rel s.1 h) (M : Meas s.1 h) {c a b : Int32} (hf : ftOf s.1 c a b = 0) : ∃ h1, x3_perform p c a b (putH g p h) = some (pfV s c a b, putH g p h1) ∧ Rel (pfS s c a b) h1 ∧ Meas (pfS s c a b) h1 ∧ Gd (pfS s c a b) := by
  have w := G.1
  have u := G.2.1
  have hh := w.h.2
  unfold ftOf at hf
  unfold x3_perform pfV
  by_cases c0 : c = 0
  · have eS : pfS s c a b = upd s.1 (49 + 10 * kN a + 5) b := by unfold pfS; rw [if_pos c0]
    rw [if_pos c0] at hf
    rw [if_pos c0, if_pos c0, eS]
    unfold ftTake at hf
    obtain ⟨f1, hf⟩ := ft_one hf (by decide)
    obtain ⟨f2, hf⟩ := ft_one hf (by decide)
    obtain ⟨f3, -⟩ := ft_one hf (by decide)
    obtain ⟨i, i1, i2, i3, i4⟩ := isH_ex w f1
    obtain ⟨j, j1, j2, j3, j4⟩ := isL_ex w f2
    have G1 : Gd (upd s.1 (49 + 10 * i + 5) b) := G.up5 (Or.inr ⟨j, j1, j3⟩) (Or.inr (hw_no hh f3))
    obtain ⟨h1, e1, R1, M1⟩ := c_giveBlanket (g := g) (p := p) (v := b) w R i1 G1.1 G1.2.1
    have hn : nH (upd s.1 (49 + 10 * i + 5) b) = nH s.1 := by unfold nH; rw [upd_ne (by omega)]
    rw [i4, i3, H_isO, gb_s, e1, cb_s, H_getR (d := 6) rfl (by decide) (by decide), gb_s, H_hik i2, gb_s, K_getI i2 (by decide), gb_s, (M1.1 i (by rw [hn]; exact i1)).2]
    exact ⟨h1, rfl, R1, M1, G1⟩
  rw [if_neg c0] at hf
  rw [if_neg c0, if_neg c0]
  by_cases c1 : c = 1
  · have eS : pfS s c a b = upd s.1 (49 + 10 * kN a + 5) (-1) := by unfold pfS; rw [if_neg c0, if_pos c1]
    rw [if_pos c1] at hf
    rw [if_pos c1, if_pos c1, eS]
    unfold ftReturn at hf
    obtain ⟨f1, hf⟩ := ft_one hf (by decide)
    obtain ⟨i, i1, i2, i3, i4⟩ := isH_ex w f1
    have G1 : Gd (upd s.1 (49 + 10 * i + 5) (-1)) := G.up5 (Or.inl rfl) (Or.inl rfl)
    obtain ⟨h1, e1, R1, M1⟩ := c_giveBlanket (g := g) (p := p) (v := -1) w R i1 G1.1 G1.2.1
    rw [i4, i3, H_isO, gb_s, e1, cb_s]
    exact ⟨h1, rfl, R1, M1, G1⟩
  rw [if_neg c1] at hf
  rw [if_neg c1, if_neg c1]
  by_cases c2 : c = 2
  · have eS : pfS s c a b = exS s.1 (kN a) (kN b) := by unfold pfS; rw [if_neg c0, if_neg c1, if_pos c2]
    rw [if_pos c2] at hf
    rw [if_pos c2, if_pos c2, eS]
    unfold ftSwap at hf
    obtain ⟨f1, hf⟩ := ft_one hf (by decide)
    obtain ⟨f2, hf⟩ := ft_one hf (by decide)
    obtain ⟨f3, hf⟩ := ft_two hf (by decide)
    obtain ⟨i, i1, i2, i3, i4⟩ := isH_ex w f1
    obtain ⟨j, j1, j2, j3, j4⟩ := isH_ex w f2
    have hij : i ≠ j := fun hc => f3 (by rw [i3, j3, hc])
    have G1 := G.ex hij i1 j1
    obtain ⟨h1, e1, R1, M1⟩ := c_exchange (g := g) (p := p) w R i1 j1 G1.2.1
    rw [i4, j4, i3, j3, H_isO, gb_s, e1, cb_s, H_isO, gb_s, c_coldCount G1.1 R1 M1, cb_s]
    exact ⟨h1, rfl, R1, M1, G1⟩
  rw [if_neg c2] at hf
  rw [if_neg c2, if_neg c2]
  by_cases c3 : c = 3
  · have eS : pfS s c a b = upd s.1 (49 + 10 * kN a + 4) b := by unfold pfS; rw [if_neg c0, if_neg c1, if_neg c2, if_pos c3]
    rw [if_pos c3] at hf
    rw [if_pos c3, if_pos c3, eS]
    unfold ftLie at hf
    obtain ⟨f1, hf⟩ := ft_one hf (by decide)
    obtain ⟨f2, hf⟩ := ft_one hf (by decide)
    obtain ⟨f3, -⟩ := ft_one hf (by decide)
    obtain ⟨i, i1, i2, i3, i4⟩ := isH_ex w f1
    obtain ⟨j, j1, j2, j3, j4⟩ := isB_ex w f2
    have hv : b = -1 ∨ ∃ q, q < nB s.1 ∧ b = I q := Or.inr ⟨j, j1, j3⟩
    have G1 : Gd (upd s.1 (49 + 10 * i + 4) b) := G.up4 hv (Or.inr fun k hk0 _ => inB_no2 f2 f3 k hk0)
    obtain ⟨h1, e1, R1, M1⟩ := c_moveTo (g := g) (p := p) w u R i1 hv G1.2.1
    have hn : nB (upd s.1 (49 + 10 * i + 4) b) = nB s.1 := by unfold nB; rw [upd_ne (by omega)]
    rw [i4, i3, H_isO, gb_s, e1, cb_s, H_isO, gb_s]
    conv => congr; ext h1; congr; lhs; rw [j3]
    rw [c_noiseAt G1.1 R1 M1 (by rw [hn]; exact j1), cb_s, ← j3]
    exact ⟨h1, rfl, R1, M1, G1⟩
  rw [if_neg c3] at hf
  rw [if_neg c3, if_neg c3]
  by_cases c4 : c = 4
  · have eS : pfS s c a b = upd s.1 (49 + 10 * kN a + 4) (-1) := by unfold pfS; rw [if_neg c0, if_neg c1, if_neg c2, if_neg c3, if_pos c4]
    rw [if_pos c4] at hf
    rw [if_pos c4, if_pos c4, eS]
    unfold ftRise at hf
    obtain ⟨f1, hf⟩ := ft_one hf (by decide)
    obtain ⟨i, i1, i2, i3, i4⟩ := isH_ex w f1
    have G1 : Gd (upd s.1 (49 + 10 * i + 4) (-1)) := G.up4 (Or.inl rfl) (Or.inl rfl)
    obtain ⟨h1, e1, R1, M1⟩ := c_moveTo (g := g) (p := p) w u R i1 (Or.inl rfl) G1.2.1
    rw [i4, i3, H_isO, gb_s, e1, cb_s]
    exact ⟨h1, rfl, R1, M1, G1⟩
  rw [if_neg c4] at hf
  rw [if_neg c4, if_neg c4]
  by_cases c5 : c = 5
  · have eS : pfS s c a b = upd s.1 1 a := by unfold pfS; rw [if_neg c0, if_neg c1, if_neg c2, if_neg c3, if_neg c4, if_pos c5]
    rw [if_pos c5] at hf
    rw [if_pos c5, if_pos c5, eS]
    obtain ⟨f1, -⟩ := ft_one hf (by decide)
    obtain ⟨x, x1, x2, x3, x4⟩ := bt_ex (lo := 0) (hi := 3) (by decide) (by decide) f1
    obtain ⟨h1, e1, R1, rfl⟩ := c_changeRate (g := g) (p := p) w R a
    have G1 : Gd (upd s.1 1 a) := G.upG (by decide) (fun y hy => by cases hy; exact ⟨x, x2, x3⟩)
    rw [H_isO, gb_s, e1, cb_s]
    exact ⟨_, rfl, R1, Meas_ag (Ag.refl.up (by decide) (fun j hj => by omega)) w M, G1⟩
  rw [if_neg c5] at hf
  rw [if_neg c5, if_neg c5]
  by_cases c6 : c = 6
  · have eS : pfS s c a b = upd (upd s.1 0 (s.1 0 + a)) 8 (s.1 8 + a) := by unfold pfS; rw [if_neg c0, if_neg c1, if_neg c2, if_neg c3, if_neg c4, if_neg c5, if_pos c6]
    rw [if_pos c6] at hf
    rw [if_pos c6, if_pos c6, eS]
    unfold ftFetch at hf
    obtain ⟨f1, hf⟩ := ft_one hf (by decide)
    obtain ⟨f2, -⟩ := ft_one hf (by decide)
    obtain ⟨x, x1, x2, x3, x4⟩ := bt_ex (lo := 1) (hi := 50) (by decide) (by decide) f1
    obtain ⟨y, y1, y2⟩ := G.2.2.1.rd (k := 0) (x := 99) (by decide) rfl
    have hxy : y + x ≤ 99 := by
      rw [y2, x3, I_add, show (99 : Int32) = I 99 from rfl, I_le (by omega) (by decide)] at f2
      exact f2
    obtain ⟨h1, e1, R1, rfl⟩ := c_addLogs (g := g) (p := p) w R a
    have G1 : Gd (upd s.1 0 (s.1 0 + a)) := G.upG (by decide) (fun z hz => by cases hz; exact ⟨y + x, hxy, by rw [y2, x3, I_add]⟩)
    have G2 : Gd (upd (upd s.1 0 (s.1 0 + a)) 8 (s.1 8 + a)) := G1.upG (by decide) (fun z hz => by cases hz)
    rw [H_isO, gb_s, e1, cb_s]
    exact ⟨_, rfl, R1, Meas_ag ((Ag.refl.up (by decide) (fun j hj => by omega)).up (by decide) (fun j hj => by omega)) w M, G2⟩
  rw [if_neg c6] at hf
  rw [if_neg c6, if_neg c6]
  by_cases c7 : c = 7
  · have eS : pfS s c a b = pbS s.1 (kN a) b := by unfold pfS; rw [if_neg c0, if_neg c1, if_neg c2, if_neg c3, if_neg c4, if_neg c5, if_neg c6, if_pos c7]
    rw [if_pos c7] at hf
    rw [if_pos c7, if_pos c7, eS]
    unfold ftPay at hf
    obtain ⟨f1, hf⟩ := ft_one hf (by decide)
    obtain ⟨f2, hf⟩ := ft_one hf (by decide)
    obtain ⟨f3, hf⟩ := ft_two hf (by decide)
    obtain ⟨f4, -⟩ := ft_one hf (by decide)
    obtain ⟨i, i1, i2, i3, i4⟩ := isH_ex w f1
    obtain ⟨x, x1, x2, x3, x4⟩ := bt_ex (lo := 1) (hi := 99) (by decide) (by decide) f2
    have hT := G.2.2.2
    obtain ⟨y, y1, y2⟩ := G.2.2.1.2.1.fld (i := i) (f := 2) i2 (by decide) rfl
    obtain ⟨z, z1, z2⟩ := G.2.2.1.2.1.fld (i := i) (f := 3) i2 (by decide) rfl
    rw [i4, y2, x3, I_lt (by omega) (by omega)] at f3
    rw [i4, z2, x3, I_le (by omega) (by omega)] at f4
    have e2 : hk s.1 i 2 + -b = I (y - x) := by rw [y2, x3, ← Int32.sub_eq_add_neg, I_sub (by omega)]
    have e3 : hk s.1 i 3 + -b = I (z - x) := by rw [z2, x3, ← Int32.sub_eq_add_neg, I_sub f4]
    have nT1 : ∀ f v, nT (upd s.1 (49 + 10 * i + f) v) = nT s.1 := fun f v => by unfold nT; rw [upd_ne (by omega)]
    have w1 : Ws (upd s.1 (49 + 10 * i + 2) (hk s.1 i 2 + -b)) := (Kp.refl.up (by omega) (fun j hj => by omega) : Kp s.1 _).ws w
    have k2 : Kp s.1 (upd (upd s.1 (49 + 10 * i + 2) (hk s.1 i 2 + -b)) (49 + 10 * i + 3) (hk s.1 i 3 + -b)) := (Kp.refl.up (by omega) (fun j hj => by omega) : Kp s.1 _).up (by omega) (fun j hj => by omega)
    have b1 : Bd (upd s.1 (49 + 10 * i + 2) (hk s.1 i 2 + -b)) := G.2.2.1.upF w (by decide) (fun v hv => by cases hv; exact ⟨y - x, by omega, e2⟩)
    have b2 : Bd (upd (upd s.1 (49 + 10 * i + 2) (hk s.1 i 2 + -b)) (49 + 10 * i + 3) (hk s.1 i 3 + -b)) := b1.upF w1 (by decide) (fun v hv => by rw [nT1] at hv; cases hv; exact ⟨z - x, by omega, e3⟩)
    have G2 : Gd (upd (upd s.1 (49 + 10 * i + 2) (hk s.1 i 2 + -b)) (49 + 10 * i + 3) (hk s.1 i 3 + -b)) := ⟨k2.ws w, k2.un w u, b2, by rw [Kp_nT k2]; exact hT⟩
    have G3 : Gd (pbS s.1 i b) := G2.upG (by decide) (fun v hv => by cases hv)
    obtain ⟨h1, e1, R1, M1⟩ := c_payBack2 (g := g) (p := p) w R M i1 b
    rw [i4, i3, H_isO, gb_s, e1, cb_s]
    exact ⟨h1, rfl, R1, M1, G3⟩
  rw [if_neg c7] at hf
  rw [if_neg c7, if_neg c7]
  have eS : pfS s c a b = (manyS (kN a) s).1 := by unfold pfS; rw [if_neg c0, if_neg c1, if_neg c2, if_neg c3, if_neg c4, if_neg c5, if_neg c6, if_neg c7]
  rw [eS]
  unfold ftPass at hf
  obtain ⟨f1, hf⟩ := ft_one hf (by decide)
  obtain ⟨f2, -⟩ := ft_one hf (by decide)
  obtain ⟨x, x1, x2, x3, x4⟩ := bt_ex (lo := 1) (hi := 48) (by decide) (by decide) f1
  have hT := G.2.2.2
  rw [w.t.1, x3, I_add, show (9999 : Int32) = I 9999 from rfl, I_le (by omega) (by decide)] at f2
  obtain ⟨h1, e1, R1, M1⟩ := c_passTime (g := g) (p := p) (n := x) w u (by omega) (by omega) R
  rw [x4, x3, H_isO, gb_s, e1, cb_s]
  exact ⟨h1, rfl, R1, M1, G.many f2⟩
end Perf


