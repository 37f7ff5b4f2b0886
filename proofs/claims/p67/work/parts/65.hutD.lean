/-! the class's dawn and hour -/
section HutD
variable {g : AH} {p : Nat} {h : HS} {st : St}
theorem pay_ag {z : St} {i : Nat} {a : Int32} (hi : i < 10) : Ag z (payS z i a) := (Ag.refl.up (by omega) (fun j hj => by omega)).up (by omega) (fun j hj => by omega)
theorem it_ag {step : St × St → Nat → St × St} (hs : ∀ s i, i < 10 → Ag s.1 (step s i).1) : ∀ n, n ≤ 10 → ∀ s, Ag s.1 (it step n s).1 := by
  intro n
  induction n with
  | zero => intro _ s; exact Ag.refl
  | succ n ih => intro hn s; exact (ih (by omega) s).trans (hs _ n (by omega))
theorem d1_ag (s : St × St) (i : Nat) (hi : i < 10) : Ag s.1 (d1Step s i).1 := (pay_ag hi).up (by decide) (fun j hj => by omega)
theorem pl_ag (c N : Int32) (s : St × St) (i : Nat) (hi : i < 10) : Ag s.1 (plStep c N s i).1 := (pay_ag hi).up (by decide) (fun j hj => by omega)
theorem sh_ag (v : Int32) (s : St × St) (i : Nat) (hi : i < 10) : Ag s.1 (shStep v s i).1 := Ag.refl.up (by omega) (fun j hj => by omega)
theorem d3_ag : ∀ n, n ≤ 10 → ∀ s : St × St × Int32, Ag s.1 (it d3Step n s).1 := by
  intro n
  induction n with
  | zero => intro _ s; exact Ag.refl
  | succ n ih => intro hn s; exact (ih (by omega) s).trans (pay_ag (by omega))
theorem pl_5 (c N : Int32) (s : St × St) : ∀ n, n ≤ 10 → (it (plStep c N) n s).1 5 = s.1 5 := by
  intro n
  induction n with
  | zero => intro _; rfl
  | succ n ih =>
    intro hn
    rw [← ih (by omega)]
    rw [it]
    unfold plStep payS
    dsimp only
    rw [upd_ne (by decide)]
    rw [upd_ne (by omega), upd_ne (by omega)]
theorem Cv_ag {z z1 : St} (a : Ag z z1) (w : Ws z) (c : Cv z h) : Cv z1 h := fun i hi => by
  rw [Kp_nH a.kp] at hi
  rw [Ag_thk a w (by have := w.h.2; omega)]
  exact c i hi
theorem c_partOfLogs (w : Ws st) (R : Rel st h) {i : Nat} (hi : i < nH st) : x3_partOfLogs p (I i) (putH g p h) = some (plPart (2 * st 5) (st 12) i, putH g p h) := by
  have hh := w.h.2
  have h0 : ¬ st 12 = 0 := by
    rw [w.h.1]
    intro h
    have h6 : I (nH st) = I 0 := h
    rw [I_eq (by omega) (by decide)] at h6
    omega
  have h1 : (1 : Int32) ≤ st 12 := by
    rw [w.h.1, show (1 : Int32) = I 1 from rfl, I_le (by decide) (by omega)]
    omega
  unfold x3_partOfLogs x3_partOfLogs_j32 plPart
  rw [H_getI (by decide), gb_s, show h.1 12 = st 12 from Rel_at R 12 (by decide), if_pos h1, H_getI (by decide), gb_s, show h.1 6 = st 5 from Rel_at R 6 (by decide), gb_s, if_neg h0]
  by_cases hc : (2 * st 5 - 2 * st 5 / st 12 * st 12) ≤ I i
  · rw [if_pos hc, if_pos hc, gb_s, if_neg h0]
  · rw [if_neg hc, if_neg hc, gb_s, if_neg h0]
theorem c_payForLogs {s0 : St × St} {z : St} (w : Ws s0.1) (R : Rel s0.1 h) (c : Cv z h) : ∃ h1, x3_payForLogs p (putH g p h) = some ((), putH g p h1) ∧ Rel (plS s0).1 h1 ∧ Cv z h1 := by
  unfold x3_payForLogs
  obtain ⟨h1, e1, R1, c1⟩ := loop_hut (g := g) (p := p) (body := x3_payForLogs_l2 p) (C := Cv z) (plStep (2 * s0.1 5) (s0.1 12)) (plStep_kp _ _) w R c (fun i s h hi hn k ws hs R c => by
      have hi0 : i < 10 := by have := ws.h.2; omega
      unfold x3_payForLogs_l2
      have e5 : s.1 5 = s0.1 5 := by rw [hs]; exact pl_5 _ _ _ i (by omega)
      have ep := c_partOfLogs (g := g) (p := p) ws R hi
      rw [e5, k.1 12 (by decide)] at ep
      obtain ⟨h2, e2, R2, f2, c2⟩ := c_payOut (g := g) (p := p) ws R hi (plPart (2 * s0.1 5) (s0.1 12) i)
      have w2 := payS_ws (a := plPart (2 * s0.1 5) (s0.1 12) i) ws hi0
      rw [H_getI (by decide), gb_s, c_lt ws R hi, H_getI (by decide), gb_s, H_getR (d := 6) rfl (by decide) (by decide), gb_s, H_hik hi0, gb_s, H_isO, gb_s, ep, cb_s, K_isO hi0, gb_s, e2, cb_s, H_putI (by decide), gb_s, I_succ, R.1.2.2.2.2.1]
      exact ⟨_, rfl, R2.upF (k := 4) w2 (by decide), (c2 z c).f⟩) (fun s h _ ws R => by
      unfold x3_payForLogs_l2
      rw [H_getI (by decide), gb_s, c_ge ws R])
  rw [e1, cb_s, H_putI (by decide), gb_s]
  exact ⟨_, rfl, R1.upF (k := 6) ((it_kp (plStep_kp _ _) _ w.h.2 s0).ws w) (by decide), c1.f⟩
theorem c_without (w : Ws st) (R : Rel st h) : x3_hikersWithoutBlanket p (putH g p h) = some (cntW st, putH g p h) := by
  have hh := w.h.2
  unfold x3_hikersWithoutBlanket cntW
  have hs : ∀ i, i < nH st → ∀ a, x3_hikersWithoutBlanket_l4 p (a, I i) (putH g p h) = some (.inl (a + (if hk st i 5 = -1 then 1 else 0), I (i + 1)), putH g p h) := by
    intro i hi a
    have hi0 : i < 10 := by omega
    unfold x3_hikersWithoutBlanket_l4 x3_hikersWithoutBlanket_j28_4
    dsimp only
    rw [H_getI (by decide), gb_s, c_lt w R hi, H_getR (d := 6) rfl (by decide) (by decide), gb_s, H_hik hi0, gb_s, K_getI hi0 (by decide), gb_s, R.2.2.1 i hi 5 (by decide)]
    by_cases hc : hk st i 5 = -1
    · rw [if_pos hc, if_pos hc, I_succ]
    · rw [if_neg hc, if_neg hc, I_succ, Int32.add_zero]
  have he : ∀ a, x3_hikersWithoutBlanket_l4 p (a, I (nH st)) (putH g p h) = some (.inr a, putH g p h) := by
    intro a
    unfold x3_hikersWithoutBlanket_l4
    dsimp only
    rw [H_getI (by decide), gb_s, c_ge w R]
  rw [loop_sum (fun i => if hk st i 5 = -1 then 1 else 0) hs he (by omega), cb_s]
theorem sm01 (q : Nat → Bool) : ∀ n, ∃ k, k ≤ n ∧ sm (fun i => if q i = true then 1 else 0) n = I k := by
  intro n
  induction n with
  | zero => exact ⟨0, Nat.le_refl _, rfl⟩
  | succ n ih =>
    obtain ⟨k, h1, h2⟩ := ih
    rw [sm, h2]
    by_cases h3 : q n = true
    · rw [if_pos h3]; exact ⟨k + 1, by omega, I_succ k⟩
    · rw [if_neg h3]; exact ⟨k, by omega, Int32.add_zero _⟩
theorem cntW_I (w : Ws st) : ∃ k, k ≤ 10 ∧ cntW st = I k := by
  obtain ⟨k, h1, h2⟩ := sm01 (fun i => decide (hk st i 5 = -1)) (nH st)
  refine ⟨k, by have := w.h.2; omega, ?_⟩
  rw [← h2]
  unfold cntW
  congr 1
  funext i
  by_cases hc : hk st i 5 = -1
  · rw [if_pos hc, if_pos (by simpa using hc)]
  · rw [if_neg hc, if_neg (by simpa using hc)]
theorem upd_self {f : Nat → Int32} {k : Nat} {v : Int32} (h : v = f k) : upd f k v = f := by
  funext j
  by_cases hj : j = k
  · rw [hj, upd_at, h]
  · rw [upd_ne hj]
end HutD


