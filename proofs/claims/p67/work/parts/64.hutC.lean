/-! the class's hours: burning and paying -/
/-- the covers are those of z -/
def Cv (z : St) (h : HS) : Prop := ∀ i, i < nH z → h.2.2.1 i 6 = thk z i
section HutC
variable {g : AH} {p : Nat} {h : HS} {st : St}
theorem Cv.f {z : St} (c : Cv z h) {k : Nat} {v : Int32} : Cv z (hF h k v) := c
theorem Cv.k {z : St} (c : Cv z h) {i k : Nat} {v : Int32} (hk0 : k < 6) : Cv z (hK h i k v) := fun q hq => by rw [hK_ne (Or.inr (by omega))]; exact c q hq
theorem Kp_upF {z : St} {k : Nat} {v : Int32} (hk0 : k < 9) (h3 : k ≠ 3) : Kp z (upd z k v) := Kp.refl.up (by omega) (fun j hj => by omega)
theorem hF_at {k : Nat} {v : Int32} : (hF h k v).1 k = v := upd_at
theorem c_burnLogs (w : Ws st) (R : Rel st h) : ∃ h1, x3_burnLogs p (putH g p h) = some ((), putH g p h1) ∧ Rel (burnS st) h1 ∧ ∀ z, Cv z h → Cv z h1 := by
  have e : ∀ s0 : Int32, s0 = burnB st → ∃ h1, x3_burnLogs_j22 p s0 (putH g p h) = some ((), putH g p h1) ∧ Rel (burnS st) h1 ∧ ∀ z, Cv z h → Cv z h1 := by
    intro s0 hs0
    unfold x3_burnLogs_j22
    have R1 := R.upF (k := 1) (v := st 0 - s0) w (by decide)
    have w1 : Ws (upd st (fm 1) (st 0 - s0)) := (Kp_upF (by decide) (by decide)).ws w
    have R2 := R1.upF (k := 5) (v := st 4 + s0) w1 (by decide)
    have w2 := (Kp_upF (k := fm 5) (v := st 4 + s0) (by decide) (by decide)).ws w1
    have R3 := R2.upF (k := 6) (v := st 5 + s0) w2 (by decide)
    have w3 := (Kp_upF (k := fm 6) (v := st 5 + s0) (by decide) (by decide)).ws w2
    have R4 := R3.upF (k := 2) (v := st 2 / 2 + 4 * s0) w3 (by decide)
    rw [H_getI (by decide), gb_s, R.1.2.1, H_putI (by decide), gb_s, H_getI (by decide), gb_s, show (hF h 1 (st 0 - s0)).1 5 = st 4 from R.1.2.2.2.2.2.1, H_putI (by decide), gb_s, H_getI (by decide), gb_s, show (hF (hF h 1 (st 0 - s0)) 5 (st 4 + s0)).1 6 = st 5 from R.1.2.2.2.2.2.2.1, H_putI (by decide), gb_s, H_getI (by decide), gb_s, show (hF (hF (hF h 1 (st 0 - s0)) 5 (st 4 + s0)) 6 (st 5 + s0)).1 2 = st 2 from R.1.2.2.1, H_putI (by decide), gb_s]
    refine ⟨_, rfl, ?_, fun z c => c⟩
    unfold burnS
    rw [← hs0]
    exact R4
  unfold x3_burnLogs
  rw [H_getI (by decide), gb_s, H_getI (by decide), gb_s, R.1.2.2.2.1, R.1.2.1]
  by_cases hc : st 0 ≤ st 1
  · rw [if_pos hc, gb_s]
    refine e _ ?_
    unfold burnB
    by_cases hc2 : st 0 < st 1
    · rw [if_pos hc2]
    · rw [if_neg hc2]
      exact Int32.le_antisymm hc (Int32.not_lt.mp hc2)
  · rw [if_neg hc, gb_s]
    refine e _ ?_
    unfold burnB
    rw [if_neg (fun h1 => hc (Int32.le_of_lt h1))]
theorem payS_ws (w : Ws st) {i : Nat} {a : Int32} (hi : i < 10) : Ws (payS st i a) := (pay_kp hi).ws w
theorem c_payOut (w : Ws st) (R : Rel st h) {i : Nat} (hi : i < nH st) (a : Int32) : ∃ h1, x1_payOut (p + (7 + 2 * i)) a (putH g p h) = some (payP st i a, putH g p h1) ∧ Rel (payS st i a) h1 ∧ h1.1 = h.1 ∧ ∀ z, Cv z h → Cv z h1 := by
  have hi0 : i < 10 := by have := w.h.2; omega
  have e : ∀ s0 : Int32, s0 = payP st i a → ∃ h1, x1_payOut_j16 (p + (7 + 2 * i)) a s0 (putH g p h) = some (payP st i a, putH g p h1) ∧ Rel (payS st i a) h1 ∧ h1.1 = h.1 ∧ ∀ z, Cv z h → Cv z h1 := by
    intro s0 hs0
    unfold x1_payOut_j16
    have R1 := R.upK (i := i) (f := 2) (v := hk st i 2 + -s0) w hi0 (by decide)
    have w1 : Ws (upd st (49 + 10 * i + 2) (hk st i 2 + -s0)) := (Kp.refl.up (by omega) (fun j hj => by omega) : Kp st _).ws w
    have R2 := R1.upK (i := i) (f := 3) (v := hk st i 3 + (a - s0)) w1 hi0 (by decide)
    rw [K_getI hi0 (by decide), gb_s, R.2.2.1 i hi 2 (by decide), Int32.sub_eq_add_neg, K_putI hi0 (by decide), gb_s, K_getI hi0 (by decide), gb_s, hK_ne (Or.inr (by decide)), R.2.2.1 i hi 3 (by decide), K_putI hi0 (by decide), gb_s]
    refine ⟨hK (hK h i 2 (hk st i 2 + -s0)) i 3 (hk st i 3 + (a - s0)), by rw [hs0], ?_, rfl, fun z c => (c.k (by decide)).k (by decide)⟩
    unfold payS
    rw [← hs0]
    exact R2
  unfold x1_payOut
  rw [K_getI hi0 (by decide), gb_s, R.2.2.1 i hi 2 (by decide)]
  by_cases hc : hk st i 2 ≤ a
  · rw [if_pos hc, gb_s]
    refine e _ ?_
    unfold payP
    by_cases hc2 : hk st i 2 < a
    · rw [if_pos hc2]
    · rw [if_neg hc2]
      exact Int32.le_antisymm hc (Int32.not_lt.mp hc2)
  · rw [if_neg hc]
    refine e _ ?_
    unfold payP
    rw [if_neg (fun h1 => hc (Int32.le_of_lt h1))]
/-- a loop over the hikers in the hut -/
theorem loop_hut {body : Int32 → AH → Option ((Int32 ⊕ Unit) × AH)} {C : HS → Prop} (step : St × St → Nat → St × St) (hk1 : ∀ s i, i < 10 → Kp s.1 (step s i).1) {s0 : St × St} (w : Ws s0.1) (R : Rel s0.1 h) (c : C h)
    (hs : ∀ i s h, i < nH s.1 → nH s.1 = nH s0.1 → Kp s0.1 s.1 → Ws s.1 → s = it step i s0 → Rel s.1 h → C h → ∃ h1, body (I i) (putH g p h) = some (.inl (I (i + 1)), putH g p h1) ∧ Rel (step s i).1 h1 ∧ C h1)
    (he : ∀ (s : St × St) h, nH s.1 = nH s0.1 → Ws s.1 → Rel s.1 h → body (I (nH s.1)) (putH g p h) = some (.inr (), putH g p h)) :
    ∃ h1, loopX body 1000 0 (putH g p h) = some ((), putH g p h1) ∧ Rel (it step (nH s0.1) s0).1 h1 ∧ C h1 := by
  have hh := w.h.2
  have H := loop_inv (body := body) (n := nH s0.1) (fuel := 1000) (s := 0) (g := putH g p h) (fun i s g1 => s = I i ∧ ∃ h1, g1 = putH g p h1 ∧ Rel (it step i s0).1 h1 ∧ C h1) (fun _ g1 => ∃ h1, g1 = putH g p h1 ∧ Rel (it step (nH s0.1) s0).1 h1 ∧ C h1) (fun i s g1 hi h0 => by
      obtain ⟨rfl, h1, rfl, R1, c1⟩ := h0
      have k := it_kp hk1 i (by omega) s0
      obtain ⟨h2, e2, R2, c2⟩ := hs i _ h1 (by rw [Kp_nH k]; exact hi) (Kp_nH k) k (k.ws w) rfl R1 c1
      exact ⟨_, _, e2, rfl, h2, rfl, R2, c2⟩) (fun s g1 h0 => by
      obtain ⟨rfl, h1, rfl, R1, c1⟩ := h0
      have k := it_kp hk1 (nH s0.1) hh s0
      have e2 := he _ h1 (Kp_nH k) (k.ws w) R1
      rw [Kp_nH k] at e2
      exact ⟨_, _, e2, h1, rfl, R1, c1⟩) (by omega) ⟨rfl, h, rfl, R, c⟩
  obtain ⟨t, g1, e1, h1, rfl, R1, c1⟩ := H
  exact ⟨h1, e1, R1, c1⟩
theorem c_lt (w : Ws st) (R : Rel st h) {α : Type} {i : Nat} (hi : i < nH st) (A B : Option (α × AH)) : (if h.1 12 ≤ I i then A else B) = B := hd_lt w (Rel_at R 12 (by decide)) i hi A B
theorem c_ge (w : Ws st) (R : Rel st h) {α : Type} (A B : Option (α × AH)) : (if h.1 12 ≤ I (nH st) then A else B) = A := hd_ge w (Rel_at R 12 (by decide)) A B
theorem c_payForNight {s0 : St × St} {z : St} (w : Ws s0.1) (R : Rel s0.1 h) (c : Cv z h) : ∃ h1, x3_payForNight p (putH g p h) = some ((), putH g p h1) ∧ Rel (it d1Step (nH s0.1) s0).1 h1 ∧ Cv z h1 := by
  unfold x3_payForNight
  obtain ⟨h1, e1, R1, c1⟩ := loop_hut (g := g) (p := p) (body := x3_payForNight_l2 p) (C := Cv z) d1Step d1Step_kp w R c (fun i s h hi _ _ ws _ R c => by
      have hi0 : i < 10 := by have := ws.h.2; omega
      unfold x3_payForNight_l2
      obtain ⟨h2, e2, R2, f2, c2⟩ := c_payOut (g := g) (p := p) ws R hi 3
      have w2 := payS_ws (a := 3) ws hi0
      rw [H_getI (by decide), gb_s, c_lt ws R hi, H_getI (by decide), gb_s, H_getR (d := 6) rfl (by decide) (by decide), gb_s, H_hik hi0, gb_s, K_isO hi0, gb_s, e2, cb_s, H_putI (by decide), gb_s, I_succ, R.1.2.2.2.2.1]
      exact ⟨_, rfl, R2.upF (k := 4) w2 (by decide), (c2 z c).f⟩) (fun s h _ ws R => by
      unfold x3_payForNight_l2
      rw [H_getI (by decide), gb_s, c_ge ws R])
  rw [e1, cb_s]
  exact ⟨h1, rfl, R1, c1⟩
end HutC


