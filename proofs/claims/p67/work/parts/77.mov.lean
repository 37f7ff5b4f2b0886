/-! the class's moving of a hiker -/
section Mov
variable {g : AH} {p : Nat} {h : HS} {st : St}
theorem Ws_up4 (w : Ws st) {i : Nat} {v : Int32} (hv : v = -1 ∨ ∃ b, b < nB st ∧ v = I b) : Ws (upd st (49 + 10 * i + 4) v) := by
  have e : ∀ q, q < 49 → upd st (49 + 10 * i + 4) v q = st q := fun q hq => upd_ne (by omega)
  obtain ⟨w1, w2, w3, w4, w5, w6, w7⟩ := w
  refine ⟨?_, ?_, ?_, ?_, ?_, ?_, ?_⟩
  · unfold nH at *; rw [e 12 (by decide)]; exact w1
  · unfold nB at *; rw [e 9 (by decide)]; exact w2
  · unfold nL at *; rw [e 10 (by decide)]; exact w3
  · unfold nF at *; rw [e 11 (by decide)]; exact w4
  · unfold nT at *; rw [e 3 (by decide)]; exact w5
  · unfold nB at *
    rw [e 9 (by decide)]
    intro k hk0
    by_cases hki : k = i
    · rw [hki, upd_at]; exact hv
    · rw [upd_ne (by omega)]; exact w6 k hk0
  · unfold nL nH at *; rw [e 10 (by decide), e 12 (by decide)]; exact fun k hk0 => by rw [upd_ne (by omega)]; exact w7 k hk0
theorem inB_eq (w : Ws st) (u : Un st) {k : Nat} {c : Int32} (h1 : k < nH st) (hc : ¬ c = -1) (h2 : hk st k 4 = c) : inB st c = I k := by
  rw [← h2]
  exact inB_of w u h1 (by rw [h2]; exact hc)
theorem inB_no {c : Int32} (h1 : ∀ k, k < nH st → hk st k 4 ≠ c) : inB st c = -1 := by
  unfold inB
  by_cases h : isB st c = true
  · rw [if_pos h]
    rcases hw_cases (st := st) 4 c with h2 | ⟨k, h2, h3, h4⟩
    · exact h2
    · exact absurd h4 (h1 k h2)
  · rw [if_neg h]
theorem inB_no2 {c : Int32} (h1 : isB st c = true) (h2 : inB st c = -1) : ∀ k, k < nH st → hk st k 4 ≠ c := by
  intro k hk0 hc
  unfold inB hw at h2
  rw [if_pos h1] at h2
  cases hf : ff (hwp st 4 c) (nH st) with
  | none =>
    have := ff_none hf k hk0
    simp [hwp] at this
    exact this hc
  | some j =>
    rw [hf] at h2
    obtain ⟨h3, h4, -⟩ := ff_some hf
    have : j < 2 ^ 31 := by
      have := Int32.toNatClampNeg_lt (st 12)
      unfold nH at h3
      omega
    exact I_ne_neg this h2
theorem Rel.up4 (w : Ws st) (R : Rel st h) {i : Nat} {v : Int32} {Z : Nat → Int32} (hi : i < 10) (hZ : ∀ j, j < 16 → Z j = inB (upd st (49 + 10 * i + 4) v) (I j - 2)) : Rel (upd st (49 + 10 * i + 4) v) (hK (hAr h 4 Z) i 4 v) := by
  have e : ∀ q, q < 49 → upd st (49 + 10 * i + 4) v q = st q := fun q hq => upd_ne (by omega)
  have hn : nH (upd st (49 + 10 * i + 4) v) = nH st := by unfold nH; rw [e 12 (by decide)]
  have hh := w.h.2
  refine ⟨Rel_fm fun j hj => ?_, ⟨fun b hb => ?_, fun b hb => ?_, fun b hb => ?_⟩, fun q hq x hx => ?_, fun q hq x hx => ?_, fun j hj => ?_⟩
  · have : ∀ k, k < 13 → fm k < 13 := by decide
    have h1 := this j hj
    rw [e _ (by omega)]
    exact Rel_at R j hj
  · have hb2 : b < nB st := by unfold nB at hb ⊢; rw [← e 9 (by decide)]; exact hb
    rw [e _ (by have := w.b.2; omega)]; exact R.2.1.1 b hb2
  · have hb2 : b < nL st := by unfold nL at hb ⊢; rw [← e 10 (by decide)]; exact hb
    rw [e _ (by have := w.l.2; omega)]; exact R.2.1.2.1 b hb2
  · have hb2 : b < nF st := by unfold nF at hb ⊢; rw [← e 11 (by decide)]; exact hb
    rw [e _ (by have := w.f.2; omega)]; exact R.2.1.2.2 b hb2
  · rw [hn] at hq
    unfold hk
    by_cases hc : q = i ∧ x = 4
    · rw [hc.1, hc.2, hK_at, upd_at]
    · rw [hK_ne (by omega), upd_ne (by omega)]
      exact R.2.2.1 q hq x hx
  · rw [hn] at hq
    unfold hk
    rw [upd_ne (by omega)]
    exact R.2.2.2.1 q hq x hx
  · show Z j = _
    exact hZ j hj
def mvA (z : Nat → Int32) (b x : Int32) : Nat → Int32 := if b = -1 then z else upd z (kN b + 2) x
theorem hAr_self {d : Nat} : hAr h d (h.2.1 d) = h := by
  refine Prod.ext rfl (Prod.ext (funext fun j => ?_) rfl)
  show (if j = d then h.2.1 d else h.2.1 j) = h.2.1 j
  by_cases hj : j = d
  · rw [if_pos hj, hj]
  · rw [if_neg hj]
theorem hAr_two {d : Nat} {z y : Nat → Int32} : hAr (hAr h d z) d y = hAr h d y := by
  refine Prod.ext rfl (Prod.ext (funext fun j => ?_) rfl)
  show (if j = d then y else if j = d then z else h.2.1 j) = if j = d then y else h.2.1 j
  by_cases hj : j = d
  · rw [if_pos hj, if_pos hj]
  · rw [if_neg hj, if_neg hj, if_neg hj]
theorem hAr_at {d : Nat} {z : Nat → Int32} : (hAr h d z).2.1 d = z := if_pos rfl
theorem c_hasBunk0 (v : Int32) : x3_hasBunk p v (putH g p h) = some (bI (hasN (h.1 9) v), putH g p h) := by
  unfold x3_hasBunk
  refine c_has ?_
  (repeat first | rw [gb_s] | rw [cb_s] | rw [H_isO] | rw [H_getI (by decide)] | rw [H_getR (d := 1) rfl (by decide) (by decide)] | rw [H_getR (d := 2) rfl (by decide) (by decide)] | rw [H_getR (d := 3) rfl (by decide) (by decide)] | rw [H_getR (d := 4) rfl (by decide) (by decide)] | rw [H_getR (d := 5) rfl (by decide) (by decide)] | rw [H_getR (d := 6) rfl (by decide) (by decide)])
theorem c_mv27 (w : Ws st) (h9 : h.1 9 = st 9) {i : Nat} {v x : Int32} {z : Nat → Int32} (hi : i < 10) (hv : v = -1 ∨ ∃ b, b < nB st ∧ v = I b) : x3_moveTo_j27 p (I i) v x (putH g p (hAr h 4 z)) = cb (x3_measure p (putH g p (hK (hAr h 4 (mvA z v (I i))) i 4 v))) (fun _ g8 => some (x, g8)) := by
  have e44 : ∀ y : Nat → Int32, x3_moveTo_j44 p (I i) v x (putH g p (hAr h 4 y)) = cb (x3_measure p (putH g p (hK (hAr h 4 y) i 4 v))) (fun _ g8 => some (x, g8)) := by
    intro y
    unfold x3_moveTo_j44
    rw [H_getR (d := 6) rfl (by decide) (by decide), gb_s, H_hik hi, gb_s, K_putI hi (by decide), gb_s, H_isO, gb_s]
  unfold x3_moveTo_j27
  rw [H_isO, gb_s, c_hasBunk0, cb_s, show (hAr h 4 z).1 9 = st 9 from h9]
  have hb0 := w.b.2
  rcases hv with rfl | ⟨b, hb, rfl⟩
  · rw [if_pos ((bI_z _).mpr (has_neg _)), e44]
    rfl
  · rw [w.b.1, if_neg (by rw [bI_z, has_I (by omega) hb]; decide), H_getR (d := 4) rfl (by decide) (by decide), gb_s, H_ast (d := 4) (k := b + 2) (x := I b + 2) (by decide) (by decide) (I_add b 2) (by show _ < 16; omega), gb_s, hAr_two, hAr_at, e44]
    unfold mvA
    rw [if_neg (I_ne_neg (by omega)), show kN (I b) = b from I_nat (by omega)]
theorem c_moveTo (w : Ws st) (u : Un st) (R : Rel st h) {i : Nat} {v : Int32} (hi : i < nH st) (hv : v = -1 ∨ ∃ b, b < nB st ∧ v = I b) (u1 : Un (upd st (49 + 10 * i + 4) v)) : ∃ h1, x3_moveTo p (I i) v (putH g p h) = some (hk st i 4, putH g p h1) ∧ Rel (upd st (49 + 10 * i + 4) v) h1 ∧ Meas (upd st (49 + 10 * i + 4) v) h1 := by
  have hi0 : i < 10 := by have := w.h.2; omega
  have hb0 := w.b.2
  have w1 := Ws_up4 (i := i) w hv
  have e : ∀ q, q < 49 → upd st (49 + 10 * i + 4) v q = st q := fun q hq => upd_ne (by omega)
  have hn : nH (upd st (49 + 10 * i + 4) v) = nH st := by unfold nH; rw [e 12 (by decide)]
  have eB : ∀ c, isB (upd st (49 + 10 * i + 4) v) c = isB st c := fun c => by unfold isB; rw [e 9 (by decide)]
  have hki : hk (upd st (49 + 10 * i + 4) v) i 4 = v := upd_at
  have hkn : ∀ k, k ≠ i → hk (upd st (49 + 10 * i + 4) v) k 4 = hk st k 4 := fun k hk0 => upd_ne (by omega)
  have inj : ∀ j b, j < 16 → b < 12 → I j - 2 = I b → j = b + 2 := by
    intro j b hj hb hc
    have h5 : I b + 2 = I j := by rw [← hc, Int32.sub_add_cancel]
    rw [show (2 : Int32) = I 2 from rfl, I_add, I_eq (by omega) (by omega)] at h5
    omega
  have hZ : ∀ j, j < 16 → mvA (mvA (h.2.1 4) (hk st i 4) (-1)) v (I i) j = inB (upd st (49 + 10 * i + 4) v) (I j - 2) := by
    intro j hj
    by_cases h1 : ∃ b, b < nB st ∧ v = I b ∧ j = b + 2
    · obtain ⟨b, b1, b2, b3⟩ := h1
      have hne : ¬ v = -1 := by rw [b2]; exact I_ne_neg (by omega)
      unfold mvA
      rw [if_neg hne, show kN v = b by rw [b2]; exact I_nat (by omega), b3, upd_at, I_m0, ← b2]
      exact (inB_eq w1 u1 (by rw [hn]; exact hi) hne hki).symm
    · have hz1 : mvA (mvA (h.2.1 4) (hk st i 4) (-1)) v (I i) j = mvA (h.2.1 4) (hk st i 4) (-1) j := by
        show (if v = -1 then mvA (h.2.1 4) (hk st i 4) (-1) else upd (mvA (h.2.1 4) (hk st i 4) (-1)) (kN v + 2) (I i)) j = _
        rcases hv with hv | ⟨b, b1, b2⟩
        · rw [if_pos hv]
        · rw [if_neg (by rw [b2]; exact I_ne_neg (by omega)), show kN v = b by rw [b2]; exact I_nat (by omega), upd_ne (fun hc => h1 ⟨b, b1, b2, hc⟩)]
      have hcv : isB st (I j - 2) = true → I j - 2 ≠ v := by
        intro hb hc
        rcases hv with hv | ⟨b, b1, b2⟩
        · rw [hc, hv, isB_has w, has_neg] at hb
          cases hb
        · exact h1 ⟨b, b1, b2, inj j b hj (by omega) (hc.trans b2)⟩
      rw [hz1]
      by_cases h2 : ∃ b, b < 12 ∧ hk st i 4 = I b ∧ j = b + 2
      · obtain ⟨b, b1, b2, b3⟩ := h2
        have hne : ¬ hk st i 4 = -1 := by rw [b2]; exact I_ne_neg (by omega)
        unfold mvA
        rw [if_neg hne, show kN (hk st i 4) = b by rw [b2]; exact I_nat (by omega), b3, upd_at, I_m0]
        refine (inB_no fun k hk0 hc => ?_).symm
        rw [hn] at hk0
        by_cases hki2 : k = i
        · rw [hki2, hki] at hc
          rw [b3, I_m0] at hcv
          refine hcv ?_ hc.symm
          rw [isB_has w, w.b.1]
          have := w.bunk hi0 hne
          obtain ⟨b', b4, b5, b6, -⟩ := this
          have : b = b' := (I_eq (by omega) (by omega)).mp (b2.symm.trans b6)
          exact has_I (by omega) (by omega)
        · rw [hkn k hki2] at hc
          exact (u i k hi hk0 (fun hc2 => hki2 hc2.symm)).1 hne (b2.trans hc.symm)
      · have hz2 : mvA (h.2.1 4) (hk st i 4) (-1) j = inB st (I j - 2) := by
          rw [← R.2.2.2.2 j hj]
          unfold mvA
          by_cases hb : hk st i 4 = -1
          · rw [if_pos hb]
          · obtain ⟨b, b1, b2, b3, b4⟩ := w.bunk hi0 hb
            rw [if_neg hb, b4, upd_ne (fun hc => h2 ⟨b, b1, b3, hc⟩)]
        rw [hz2]
        by_cases hb : isB st (I j - 2) = true
        · rcases inB_cases w (I j - 2) with h3 | ⟨k, h3, h4, h5, h6⟩
          · rw [h3]
            refine (inB_no fun k hk0 hc => ?_).symm
            rw [hn] at hk0
            by_cases hki2 : k = i
            · rw [hki2, hki] at hc
              exact hcv hb hc.symm
            · rw [hkn k hki2] at hc
              exact inB_no2 hb h3 k hk0 hc
          · rw [h4]
            have hki2 : k ≠ i := by
              intro hc
              rw [hc] at h6
              have hne : ¬ hk st i 4 = -1 := by
                intro h7
                rw [← h6, h7, isB_has w, has_neg] at hb
                cases hb
              obtain ⟨b, b1, b2, b3, b4⟩ := w.bunk hi0 hne
              exact h2 ⟨b, b1, b3, inj j b hj b1 (h6.symm.trans b3)⟩
            refine (inB_eq w1 u1 (by rw [hn]; exact h3) (fun hc => ?_) (by rw [hkn k hki2]; exact h6)).symm
            rw [hc, isB_has w, has_neg] at hb
            cases hb
        · unfold inB
          rw [eB, if_neg hb, if_neg hb]
  obtain ⟨h1, e1, R1, M1⟩ := c_measure (g := g) (p := p) w1 u1 (R.up4 (v := v) w hi0 hZ)
  have h9 : h.1 9 = st 9 := Rel_at R 9 (by decide)
  unfold x3_moveTo
  rw [H_getR (d := 6) rfl (by decide) (by decide), gb_s, H_hik hi0, gb_s, K_getI hi0 (by decide), gb_s, R.2.2.1 i hi 4 (by decide), H_isO, gb_s, c_hasBunk0, cb_s, h9]
  by_cases hb : hk st i 4 = -1
  · rw [hb] at e1 ⊢
    rw [if_pos ((bI_z _).mpr (has_neg _))]
    have e2 := c_mv27 (g := g) (p := p) (x := -1) (z := h.2.1 4) w h9 hi0 hv
    rw [hAr_self] at e2
    rw [e2]
    rw [show mvA (h.2.1 4) (-1) (-1) = h.2.1 4 from if_pos rfl] at e1
    rw [e1, cb_s]
    exact ⟨h1, rfl, R1, M1⟩
  · obtain ⟨b, b1, b2, b3, b4⟩ := w.bunk hi0 hb
    rw [b3] at e1 ⊢
    rw [w.b.1, if_neg (by rw [bI_z, has_I (by omega) b2]; decide), H_getR (d := 4) rfl (by decide) (by decide), gb_s, H_ast (d := 4) (k := b + 2) (x := I b + 2) (by decide) (by decide) (I_add b 2) (by show _ < 16; omega), gb_s, c_mv27 w h9 hi0 hv]
    rw [show mvA (h.2.1 4) (I b) (-1) = upd (h.2.1 4) (b + 2) (-1) by unfold mvA; rw [if_neg (I_ne_neg (by omega)), show kN (I b) = b from I_nat (by omega)]] at e1
    rw [e1, cb_s]
    exact ⟨h1, rfl, R1, M1⟩
end Mov


