/-! the class's exchange of blankets -/
section HutK
variable {g : AH} {p : Nat} {h : HS} {st : St}
theorem Ws_up5 (w : Ws st) {i : Nat} {v : Int32} (hv : v = -1 ∨ ∃ b, b < nL st ∧ v = I b) : Ws (upd st (49 + 10 * i + 5) v) := by
  have e : ∀ q, q < 49 → upd st (49 + 10 * i + 5) v q = st q := fun q hq => upd_ne (by omega)
  obtain ⟨w1, w2, w3, w4, w5, w6, w7⟩ := w
  refine ⟨?_, ?_, ?_, ?_, ?_, ?_, ?_⟩
  · unfold nH at *; rw [e 12 (by decide)]; exact w1
  · unfold nB at *; rw [e 9 (by decide)]; exact w2
  · unfold nL at *; rw [e 10 (by decide)]; exact w3
  · unfold nF at *; rw [e 11 (by decide)]; exact w4
  · unfold nT at *; rw [e 3 (by decide)]; exact w5
  · unfold nB at *; rw [e 9 (by decide)]; exact fun k hk0 => by rw [upd_ne (by omega)]; exact w6 k hk0
  · have hl12 := w3.2
    unfold nL nH at *
    rw [e 10 (by decide), e 12 (by decide)]
    intro k hk0
    by_cases hki : k = i
    · rw [hki, upd_at]
      rcases hv with hv | ⟨b, h1, h2⟩
      · exact Or.inl hv
      · exact Or.inr ⟨b, by omega, fun _ => h1, h2⟩
    · rw [upd_ne (by omega)]; exact w7 k hk0
def exS (st : St) (i j : Nat) : St := upd (upd st (49 + 10 * i + 5) (hk st j 5)) (49 + 10 * j + 5) (hk st i 5)
theorem c_exchange (w : Ws st) (R : Rel st h) {i j : Nat} (hi : i < nH st) (hj : j < nH st) (u1 : Un (exS st i j)) : ∃ h1, x3_exchangeBlankets p (I i) (I j) (putH g p h) = some ((), putH g p h1) ∧ Rel (exS st i j) h1 ∧ Meas (exS st i j) h1 := by
  have hi0 : i < 10 := by have := w.h.2; omega
  have hj0 : j < 10 := by have := w.h.2; omega
  have w1 : Ws (upd st (49 + 10 * i + 5) (hk st j 5)) := Ws_up5 w (w.bl hj)
  have hl : nL (upd st (49 + 10 * i + 5) (hk st j 5)) = nL st := by unfold nL; rw [upd_ne (by omega)]
  have w2 : Ws (exS st i j) := Ws_up5 w1 (by rw [hl]; exact w.bl hi)
  obtain ⟨h1, e1, R1, M1⟩ := c_measure (g := g) (p := p) w2 u1 ((R.up5 (v := hk st j 5) w hi0).up5 (v := hk st i 5) w1 hj0)
  unfold x3_exchangeBlankets
  rw [H_getR (d := 6) rfl (by decide) (by decide), gb_s, H_hik hi0, gb_s, K_getI hi0 (by decide), gb_s, R.2.2.1 i hi 5 (by decide), gb_s, H_hik hi0, gb_s, gb_s, H_hik hj0, gb_s, K_getI hj0 (by decide), gb_s, R.2.2.1 j hj 5 (by decide), K_putI hi0 (by decide), gb_s, H_getR (d := 6) rfl (by decide) (by decide), gb_s, H_hik hj0, gb_s, K_putI hj0 (by decide), gb_s, H_isO, gb_s, e1, cb_s]
  exact ⟨h1, rfl, R1, M1⟩
end HutK


