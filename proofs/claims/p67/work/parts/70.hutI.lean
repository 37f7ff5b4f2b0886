/-! the class's small actions -/
section HutI
variable {g : AH} {p : Nat} {h : HS} {st : St}
theorem inB_up5 (i : Nat) (v b : Int32) : inB (upd st (49 + 10 * i + 5) v) b = inB st b := by
  have hp : hwp (upd st (49 + 10 * i + 5) v) 4 b = hwp st 4 b := funext fun q => by unfold hwp; rw [upd_ne (by omega)]
  have hn : nH (upd st (49 + 10 * i + 5) v) = nH st := by unfold nH; rw [upd_ne (by omega)]
  unfold inB isB hw
  rw [upd_ne (by omega), hn, hp]
theorem Rel.up5 (w : Ws st) (R : Rel st h) {i : Nat} {v : Int32} (hi : i < 10) : Rel (upd st (49 + 10 * i + 5) v) (hK h i 5 v) := by
  have e : ∀ q, q < 49 → upd st (49 + 10 * i + 5) v q = st q := fun q hq => upd_ne (by omega)
  have hn : nH (upd st (49 + 10 * i + 5) v) = nH st := by unfold nH; rw [e 12 (by decide)]
  have hh := w.h.2
  refine ⟨Rel_fm fun j hj => ?_, ⟨fun b hb => ?_, fun b hb => ?_, fun b hb => ?_⟩, fun q hq x hx => ?_, fun q hq x hx => ?_, fun j hj => ?_⟩
  · have : ∀ k, k < 13 → fm k < 13 := by decide
    have h1 := this j hj
    rw [e _ (by omega)]
    exact Rel_at R j hj
  · have hb2 : b < nB st := by unfold nB at hb ⊢; rw [← e 9 (by decide)]; exact hb
    rw [e _ (by have := w.b.2; omega)]; exact R.2.1.1 b hb2
  · have hb2 : b < nL st := by unfold nL at hb ⊢; rw [← e 10 (by decide)]; exact hb
    rw [e _ (by have := w.l.2; omega)]; exact R.2.1.2.1 b hb2
  · have hb2 : b < nF st := by unfold nF at hb ⊢; rw [← e 11 (by decide)]; exact hb
    rw [e _ (by have := w.f.2; omega)]; exact R.2.1.2.2 b hb2
  · rw [hn] at hq
    unfold hk
    by_cases hc : q = i ∧ x = 5
    · rw [hc.1, hc.2, hK_at, upd_at]
    · rw [hK_ne (by omega), upd_ne (by omega)]
      exact R.2.2.1 q hq x hx
  · rw [hn] at hq
    unfold hk
    rw [upd_ne (by omega)]
    exact R.2.2.2.1 q hq x hx
  · rw [inB_up5]
    exact R.2.2.2.2 j hj
theorem c_giveBlanket (w : Ws st) (R : Rel st h) {i : Nat} {v : Int32} (hi : i < nH st) (w1 : Ws (upd st (49 + 10 * i + 5) v)) (u1 : Un (upd st (49 + 10 * i + 5) v)) : ∃ h1, x3_giveBlanket p (I i) v (putH g p h) = some (hk st i 5, putH g p h1) ∧ Rel (upd st (49 + 10 * i + 5) v) h1 ∧ Meas (upd st (49 + 10 * i + 5) v) h1 := by
  have hi0 : i < 10 := by have := w.h.2; omega
  obtain ⟨h1, e1, R1, M1⟩ := c_measure (g := g) (p := p) w1 u1 (R.up5 (v := v) w hi0)
  unfold x3_giveBlanket
  rw [H_getR (d := 6) rfl (by decide) (by decide), gb_s, H_hik hi0, gb_s, K_getI hi0 (by decide), gb_s, R.2.2.1 i hi 5 (by decide), gb_s, H_hik hi0, gb_s, K_putI hi0 (by decide), gb_s, H_isO, gb_s, e1, cb_s]
  exact ⟨h1, rfl, R1, M1⟩
theorem c_changeRate (w : Ws st) (R : Rel st h) (v : Int32) : ∃ h1, x3_changeRate p v (putH g p h) = some (st 1, putH g p h1) ∧ Rel (upd st 1 v) h1 ∧ h1 = hF h 3 v := by
  unfold x3_changeRate
  rw [H_getI (by decide), gb_s, show h.1 3 = st 1 from Rel_at R 3 (by decide), H_putI (by decide), gb_s]
  exact ⟨_, rfl, R.upF (k := 3) w (by decide), rfl⟩
theorem c_addLogs (w : Ws st) (R : Rel st h) (v : Int32) : ∃ h1, x3_addLogs p v (putH g p h) = some (st 0 + v, putH g p h1) ∧ Rel (upd (upd st 0 (st 0 + v)) 8 (st 8 + v)) h1 ∧ h1 = hF (hF h 1 (st 0 + v)) 8 (st 8 + v) := by
  have R1 := R.upF (k := 1) (v := st 0 + v) w (by decide)
  have w1 := (Kp_upF (k := fm 1) (v := st 0 + v) (by decide) (by decide)).ws w
  unfold x3_addLogs
  rw [H_getI (by decide), gb_s, show h.1 1 = st 0 from Rel_at R 1 (by decide), H_putI (by decide), gb_s, H_getI (by decide), gb_s, show (hF h 1 (st 0 + v)).1 8 = st 8 from Rel_at R 8 (by decide), H_putI (by decide), gb_s, H_getI (by decide), gb_s]
  refine ⟨hF (hF h 1 (st 0 + v)) 8 (st 8 + v), rfl, R1.upF (k := 8) w1 (by decide), rfl⟩
def pbS (st : St) (i : Nat) (v : Int32) : St := upd (upd (upd st (49 + 10 * i + 2) (hk st i 2 + -v)) (49 + 10 * i + 3) (hk st i 3 + -v)) 6 (st 6 + v)
theorem c_payBack (w : Ws st) (R : Rel st h) {i : Nat} (hi : i < nH st) (v : Int32) : ∃ h1, x3_payBack p (I i) v (putH g p h) = some (hk st i 3 + -v, putH g p h1) ∧ Rel (pbS st i v) h1 ∧ h1.2.1 = h.2.1 ∧ ∀ z, Cv z h → Cv z h1 := by
  have hi0 : i < 10 := by have := w.h.2; omega
  have R1 := R.upK (i := i) (f := 2) (v := hk st i 2 + -v) w hi0 (by decide)
  have w1 : Ws (upd st (49 + 10 * i + 2) (hk st i 2 + -v)) := (Kp.refl.up (by omega) (fun j hj => by omega) : Kp st _).ws w
  have R2 := R1.upK (i := i) (f := 3) (v := hk st i 3 + -v) w1 hi0 (by decide)
  have w2 : Ws (upd (upd st (49 + 10 * i + 2) (hk st i 2 + -v)) (49 + 10 * i + 3) (hk st i 3 + -v)) := (Kp.refl.up (by omega) (fun j hj => by omega) : Kp (upd st (49 + 10 * i + 2) (hk st i 2 + -v)) _).ws w1
  have R3 := R2.upF (k := 4) (v := st 6 + v) w2 (by decide)
  unfold x3_payBack
  rw [H_getR (d := 6) rfl (by decide) (by decide), gb_s, H_hik hi0, gb_s, K_getI hi0 (by decide), gb_s, R.2.2.1 i hi 2 (by decide), Int32.sub_eq_add_neg, K_putI hi0 (by decide), gb_s, H_getR (d := 6) rfl (by decide) (by decide), gb_s, H_hik hi0, gb_s, K_getI hi0 (by decide), gb_s, hK_ne (Or.inr (by decide)), R.2.2.1 i hi 3 (by decide), Int32.sub_eq_add_neg, K_putI hi0 (by decide), gb_s, H_getI (by decide), gb_s, show (hK (hK h i 2 (hk st i 2 + -v)) i 3 (hk st i 3 + -v)).1 4 = st 6 from Rel_at R 4 (by decide), H_putI (by decide), gb_s, H_getR (d := 6) rfl (by decide) (by decide), gb_s, H_hik hi0, gb_s, K_getI hi0 (by decide), gb_s]
  refine ⟨hF (hK (hK h i 2 (hk st i 2 + -v)) i 3 (hk st i 3 + -v)) 4 (st 6 + v), ?_, R3, rfl, fun z c => ((c.k (by decide)).k (by decide)).f⟩
  rw [show (hF (hK (hK h i 2 (hk st i 2 + -v)) i 3 (hk st i 3 + -v)) 4 (st 6 + v)).2.2.1 i 3 = hk st i 3 + -v from hK_at]
end HutI


