/-! the class's many hours -/
section HutG
variable {g : AH} {p : Nat} {h : HS} {st : St}
theorem Un_of {z z1 : St} (e : ∀ k, k = 12 ∨ (∃ i, i < 10 ∧ (k = 49 + 10 * i + 4 ∨ k = 49 + 10 * i + 5)) → z1 k = z k) (w : Ws z) (u : Un z) : Un z1 := by
  have hn : nH z1 = nH z := by unfold nH; rw [e 12 (Or.inl rfl)]
  have hh := w.h.2
  intro i j hi hj hij
  rw [hn] at hi hj
  have := u i j hi hj hij
  unfold hk at this ⊢
  rw [e _ (Or.inr ⟨i, by omega, Or.inl rfl⟩), e _ (Or.inr ⟨i, by omega, Or.inr rfl⟩), e _ (Or.inr ⟨j, by omega, Or.inl rfl⟩), e _ (Or.inr ⟨j, by omega, Or.inr rfl⟩)]
  exact this
theorem endS_un {s : St × St} (w : Ws s.1) (hT : nT s.1 + 1 ≤ 20000) (u : Un s.1) : Un (endS s).1 := by
  have ut : Un (tick s).1 := Un_of (fun k hk0 => upd_ne (by
    rcases hk0 with h | ⟨i, h1, h2⟩
    · omega
    · omega)) w u
  obtain ⟨w1, -⟩ := tick_ws w hT
  unfold endS
  by_cases hc : (tick s).1 3 - (tick s).1 3 / 8 * 8 = 0
  · rw [if_pos hc]
    exact (dawnS_kp w1).un w1 ut
  · rw [if_neg hc]
    exact ut
theorem hourS_un {s : St × St} (w : Ws s.1) (hT : nT s.1 + 1 ≤ 20000) (u : Un s.1) : Un (hourS s).1 := by
  have k := (burn_kp s.1).trans (ntS_kp (s := (burnS s.1, s.2)) ((burn_kp s.1).ws w))
  exact endS_un (s := ntS (burnS s.1, s.2)) (k.ws w) (by rw [Kp_nT k]; exact hT) (k.un w u)
theorem manyS_un {s : St × St} (w : Ws s.1) (u : Un s.1) : ∀ n, nT s.1 + n ≤ 20000 → Un (manyS n s).1 := by
  intro n
  induction n with
  | zero => intro _; exact u
  | succ n ih =>
    intro hn
    obtain ⟨h1, h2⟩ := manyS_ws w n (by omega)
    exact hourS_un (s := manyS n s) h1 (by omega) (ih (by omega))
theorem c_passTime {s0 : St × St} (w : Ws s0.1) (u : Un s0.1) {n : Nat} (hT : nT s0.1 + n ≤ 20000) (hn : n < 1000) (R : Rel s0.1 h) : ∃ h1, x3_passTime p (I n) (putH g p h) = some ((manyS n s0).1 6 - s0.1 6, putH g p h1) ∧ Rel (manyS n s0).1 h1 ∧ Meas (manyS n s0).1 h1 := by
  unfold x3_passTime
  rw [H_getI (by decide), gb_s, show h.1 4 = s0.1 6 from Rel_at R 4 (by decide)]
  have H := loop_inv (body := x3_passTime_l7 p (I n) (s0.1 6)) (n := n) (fuel := 1000) (s := 0) (g := putH g p h) (fun i s g1 => s = I i ∧ ∃ h1, g1 = putH g p h1 ∧ Rel (manyS i s0).1 h1) (fun _ g1 => ∃ h1, g1 = putH g p h1 ∧ Rel (manyS n s0).1 h1) (fun i s g1 hi h0 => by
      obtain ⟨rfl, h1, rfl, R1⟩ := h0
      obtain ⟨w1, t1⟩ := manyS_ws w i (by omega)
      have u1 := manyS_un w u i (by omega)
      obtain ⟨a1, a2, a3, a4, e1, e2, e3, e4, R4, -⟩ := c_hour (g := g) (p := p) w1 u1 (by omega) R1
      unfold x3_passTime_l7
      rw [if_neg (by rw [I_le (by omega) (by omega)]; omega), H_isO, gb_s, e1, cb_s, H_isO, gb_s, e2, cb_s, H_isO, gb_s, e3, cb_s, H_isO, gb_s, e4, cb_s, I_succ]
      exact ⟨_, _, rfl, rfl, a4, rfl, R4⟩) (fun s g1 h0 => by
      obtain ⟨rfl, h1, rfl, R1⟩ := h0
      unfold x3_passTime_l7
      rw [if_pos (by rw [I_le (by omega) (by omega)]; omega)]
      exact ⟨_, _, rfl, h1, rfl, R1⟩) (by omega) ⟨rfl, h, rfl, R⟩
  obtain ⟨t, g1, e1, h1, rfl, R1⟩ := H
  obtain ⟨w1, -⟩ := manyS_ws w n hT
  obtain ⟨h2, e2, R2, M2⟩ := c_measure (g := g) (p := p) w1 (manyS_un w u n hT) R1
  rw [e1, cb_s, H_isO, gb_s, e2, cb_s, H_getI (by decide), gb_s, show h2.1 4 = (manyS n s0).1 6 from Rel_at R2 4 (by decide)]
  exact ⟨h2, rfl, R2, M2⟩
end HutG


