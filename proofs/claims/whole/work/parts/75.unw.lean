/-! the hours of predictions, in which nothing is noted -/
def hf (k : Nat) : Prop := ∃ i f, 6 ≤ f ∧ f < 10 ∧ k = 49 + 10 * i + f
def Eh (z z1 : St) : Prop := ∀ k, ¬ hf k → z1 k = z k
theorem hf_lo {k : Nat} (h : k < 49) : ¬ hf k := fun ⟨i, f, h1, h2, h3⟩ => by omega
theorem hf_in {i f : Nat} (h : f < 6) : ¬ hf (49 + 10 * i + f) := fun ⟨j, e, h1, h2, h3⟩ => by omega
theorem Eh.refl {z : St} : Eh z z := fun _ _ => rfl
theorem Eh.trans {z z1 z2 : St} (h : Eh z z1) (h1 : Eh z1 z2) : Eh z z2 := fun k hk0 => (h1 k hk0).trans (h k hk0)
theorem Eh.up {z z1 : St} (e : Eh z z1) {k : Nat} {v v1 : Int32} (hv : v1 = v) : Eh (upd z k v) (upd z1 k v1) := fun j hj => by
  rw [hv]
  by_cases h : j = k
  · rw [h, upd_at, upd_at]
  · rw [upd_ne h, upd_ne h]
    exact e j hj
theorem Eh.lo {z z1 : St} (e : Eh z z1) {k : Nat} (h : k < 49) : z1 k = z k := e k (hf_lo h)
theorem Eh.h6 {z z1 : St} (e : Eh z z1) {i f : Nat} (h : f < 6) : hk z1 i f = hk z i f := e _ (hf_in h)
theorem Eh.kp {z z1 : St} (e : Eh z z1) : Kp z z1 := ⟨fun k hk0 => e.lo (by omega), fun i hi => ⟨e.h6 (i := i) (f := 4) (by decide), e.h6 (i := i) (f := 5) (by decide)⟩⟩
theorem Eh.ag {z z1 : St} (e : Eh z z1) : Ag z z1 := ⟨fun k hk0 => e.lo (by omega), fun i hi f hf0 => e.h6 (i := i) (f := f) (by omega)⟩
theorem Eh.burn {z z1 : St} (e : Eh z z1) : Eh (burnS z) (burnS z1) := by
  have hb : burnB z1 = burnB z := by
    unfold burnB
    rw [e.lo (k := 0) (by decide), e.lo (k := 1) (by decide)]
  unfold burnS
  rw [hb]
  exact (((e.up (by rw [e.lo (k := 0) (by decide)])).up (by rw [e.lo (k := 4) (by decide)])).up (by rw [e.lo (k := 5) (by decide)])).up (by rw [e.lo (k := 2) (by decide)])
theorem Eh.pP {z z1 : St} (e : Eh z z1) (i : Nat) (a : Int32) : payP z1 i a = payP z i a := by
  unfold payP
  rw [e.h6 (f := 2) (by decide)]
theorem Eh.pay {z z1 : St} (e : Eh z z1) (i : Nat) (a : Int32) : Eh (payS z i a) (payS z1 i a) := by
  unfold payS
  rw [e.pP]
  exact (e.up (by rw [e.h6 (f := 2) (by decide)])).up (by rw [e.h6 (f := 3) (by decide)])
def E2 (s s1 : St × St) : Prop := Eh s.1 s1.1 ∧ s1.2 = s.2
theorem E2_it {step : St × St → Nat → St × St} (hs : ∀ s s1 i, E2 s s1 → E2 (step s i) (step s1 i)) : ∀ n s s1, E2 s s1 → E2 (it step n s) (it step n s1) := by
  intro n
  induction n with
  | zero => intro s s1 h; exact h
  | succ n ih => intro s s1 h; exact hs _ _ _ (ih s s1 h)
theorem Eh.nh {z z1 : St} (e : Eh z z1) : nH z1 = nH z := Kp_nH e.kp
theorem E2_d1 (s s1 : St × St) (i : Nat) (h : E2 s s1) : E2 (d1Step s i) (d1Step s1 i) := by
  obtain ⟨e, h2⟩ := h
  unfold d1Step
  rw [h2]
  exact ⟨(e.pay i 3).up (by rw [e.lo (k := 6) (by decide), e.pP]), rfl⟩
theorem E2_pl (c N : Int32) (s s1 : St × St) (i : Nat) (h : E2 s s1) : E2 (plStep c N s i) (plStep c N s1 i) := by
  obtain ⟨e, h2⟩ := h
  unfold plStep
  rw [h2]
  exact ⟨(e.pay i _).up (by rw [e.lo (k := 6) (by decide), e.pP]), rfl⟩
theorem E2_sh (v : Int32) (s s1 : St × St) (i : Nat) (h : E2 s s1) : E2 (shStep v s i) (shStep v s1 i) := by
  obtain ⟨e, h2⟩ := h
  unfold shStep
  exact ⟨e.up (by rw [e.h6 (f := 2) (by decide), e.h6 (f := 5) (by decide)]), h2⟩
theorem E2_plS {s s1 : St × St} (h : E2 s s1) : E2 (plS s) (plS s1) := by
  have e := h.1
  unfold plS
  rw [e.lo (k := 5) (by decide), e.lo (k := 12) (by decide), e.nh]
  have h1 := E2_it (E2_pl (2 * s.1 5) (s.1 12)) (nH s.1) s s1 h
  exact ⟨h1.1.up rfl, h1.2⟩
theorem sm_congr {f f1 : Nat → Int32} : ∀ n, (∀ i, i < n → f1 i = f i) → sm f1 n = sm f n := by
  intro n
  induction n with
  | zero => intro _; rfl
  | succ n ih =>
    intro h
    rw [sm, sm, ih (fun i hi => h i (by omega)), h n (by omega)]
theorem Eh.cw {z z1 : St} (e : Eh z z1) : cntW z1 = cntW z := by
  have hn := e.nh
  show sm _ (nH z1) = sm _ (nH z)
  rw [hn]
  exact sm_congr _ fun i _ => by rw [e.h6 (f := 5) (by decide)]
theorem E2_shS {pot : Int32} {s s1 : St × St} (h : E2 s s1) : E2 (shS pot s) (shS pot s1) := by
  have e := h.1
  unfold shS
  rw [e.cw, e.nh]
  have h1 := E2_it (E2_sh (shPart pot (cntW s.1))) (nH s.1) s s1 h
  exact ⟨h1.1.up (by rw [h1.1.lo (k := 6) (by decide)]), h1.2⟩
def E3 (s s1 : St × St × Int32) : Prop := Eh s.1 s1.1 ∧ s1.2 = s.2
theorem E3_it : ∀ n, n ≤ 10 → ∀ s s1 : St × St × Int32, Ws s.1 → E3 s s1 → E3 (it d3Step n s) (it d3Step n s1) := by
  intro n
  induction n with
  | zero => intro _ s s1 _ h; exact h
  | succ n ih =>
    intro hn s s1 w h
    obtain ⟨e, h2⟩ := ih (by omega) s s1 w h
    have wk := (d3_kp n (by omega) s).ws w
    show E3 (d3Step (it d3Step n s) n) (d3Step (it d3Step n s1) n)
    generalize it d3Step n s = y at e h2 wk ⊢
    generalize it d3Step n s1 = y1 at e h2 ⊢
    have hf0 : fee y1.1 n = fee y.1 n := by
      unfold fee
      rw [Ag_thk e.ag wk (by omega)]
    unfold d3Step
    rw [h2, hf0, e.pP]
    exact ⟨e.pay n _, rfl⟩
theorem E2_dawn {s s1 : St × St} (w : Ws s.1) (h : E2 s s1) : E2 (dawnS s) (dawnS s1) := by
  have k1 := it_kp d1Step_kp (nH s.1) w.h.2 s
  have k2 := k1.trans (plS_kp (k1.ws w))
  have h1 := E2_plS (E2_it E2_d1 (nH s.1) s s1 h)
  have h3 := E3_it (nH s.1) w.h.2 ((plS (it d1Step (nH s.1) s)).1, (plS (it d1Step (nH s.1) s)).2, 0) ((plS (it d1Step (nH s.1) s1)).1, (plS (it d1Step (nH s.1) s1)).2, 0) (k2.ws w) ⟨h1.1, by dsimp only; rw [h1.2]⟩
  unfold dawnS
  dsimp only
  rw [h.1.nh, h3.2]
  exact E2_shS ⟨h3.1, rfl⟩
theorem E2_end {s s1 : St × St} (w : Ws s.1) (hT : nT s.1 + 1 ≤ 20000) (h : E2 s s1) : E2 (endS s) (endS s1) := by
  have ht : E2 (tick s) (tick s1) := ⟨h.1.up (by rw [h.1.lo (k := 3) (by decide)]), h.2⟩
  obtain ⟨w1, -⟩ := tick_ws w hT
  unfold endS
  rw [ht.1.lo (k := 3) (by decide)]
  by_cases hc : (tick s).1 3 - (tick s).1 3 / 8 * 8 = 0
  · rw [if_pos hc, if_pos hc]
    exact E2_dawn w1 ht
  · rw [if_neg hc, if_neg hc]
    exact ht
theorem ntStep_eq {s : St × St} {i d : Nat} (h : kN (deed s.1 i) = d) : ntStep s i = (upd s.1 (49 + 10 * i + (6 + d)) (hk s.1 i (6 + d) + 1), s.2) := by
  unfold ntStep
  rw [h]
theorem E2_nt : ∀ n, n ≤ 10 → ∀ s : St × St, E2 s (it ntStep n s) := by
  intro n
  induction n with
  | zero => intro _ s; exact ⟨Eh.refl, rfl⟩
  | succ n ih =>
    intro hn s
    obtain ⟨e, h2⟩ := ih (by omega) s
    show E2 s (ntStep (it ntStep n s) n)
    obtain ⟨d, h1, -, h3⟩ := deed_I (it ntStep n s).1 n
    rw [ntStep_eq h3]
    exact ⟨e.trans (fun k hk0 => upd_ne (fun hc => hk0 ⟨n, 6 + d, by omega, by omega, hc⟩)), h2⟩
def hourU (s : St × St) : St × St := endS (burnS s.1, s.2)
def manyU (n : Nat) (s : St × St) : St × St := it (fun s _ => hourU s) n s
theorem hourU_ws {s : St × St} (w : Ws s.1) (h : nT s.1 + 1 ≤ 20000) : Ws (hourU s).1 ∧ nT (hourU s).1 = nT s.1 + 1 := by
  have k := burn_kp s.1
  have e : nT (burnS s.1) = nT s.1 := Kp_nT k
  have h1 := endS_ws (s := (burnS s.1, s.2)) (k.ws w) (by show nT (burnS s.1) + 1 ≤ 20000; rw [e]; exact h)
  exact ⟨h1.1, h1.2.trans (by show nT (burnS s.1) + 1 = _; rw [e])⟩
theorem manyU_ws {s : St × St} (w : Ws s.1) : ∀ n, nT s.1 + n ≤ 20000 → Ws (manyU n s).1 ∧ nT (manyU n s).1 = nT s.1 + n := by
  intro n
  induction n with
  | zero => intro _; exact ⟨w, rfl⟩
  | succ n ih =>
    intro hn
    obtain ⟨h1, h2⟩ := ih (by omega)
    have h3 := hourU_ws h1 (by omega)
    exact ⟨h3.1, h3.2.trans (by omega)⟩
theorem E2_hour {s s1 : St × St} (w : Ws s.1) (w1 : Ws s1.1) (hT : nT s.1 + 1 ≤ 20000) (h : E2 s s1) : E2 (hourU s) (hourS s1) := by
  have k := burn_kp s.1
  have e : nT (burnS s.1) = nT s.1 := Kp_nT k
  have hb : E2 (burnS s.1, s.2) (burnS s1.1, s1.2) := ⟨h.1.burn, h.2⟩
  have wb1 := (burn_kp s1.1).ws w1
  have hn := E2_nt (nH (burnS s1.1)) wb1.h.2 (burnS s1.1, s1.2)
  exact E2_end (s := (burnS s.1, s.2)) (k.ws w) (by show nT (burnS s.1) + 1 ≤ 20000; rw [e]; exact hT) ⟨hb.1.trans hn.1, hn.2.trans hb.2⟩
theorem E2_many {s : St × St} (w : Ws s.1) : ∀ n, nT s.1 + n ≤ 20000 → E2 (manyU n s) (manyS n s) := by
  intro n
  induction n with
  | zero => intro _; exact ⟨Eh.refl, rfl⟩
  | succ n ih =>
    intro hn
    have h := ih (by omega)
    obtain ⟨w1, t1⟩ := manyU_ws w n (by omega)
    obtain ⟨w2, t2⟩ := manyS_ws w n (by omega)
    exact E2_hour (s := manyU n s) (s1 := manyS n s) w1 w2 (by rw [t1]; omega) h
section Unw
variable {g : AH} {p : Nat} {h : HS} {st : St}
theorem c_passTimeU {s0 : St × St} (w : Ws s0.1) {n : Nat} (hT : nT s0.1 + n ≤ 20000) (hn : n < 1000) (R : Rel s0.1 h) (c : Cv s0.1 h) : ∃ h1, x3_passTimeUnwatched p (I n) (putH g p h) = some ((), putH g p h1) ∧ Rel (manyU n s0).1 h1 ∧ Cv (manyU n s0).1 h1 := by
  unfold x3_passTimeUnwatched
  have H := loop_inv (body := x3_passTimeUnwatched_l2 p (I n)) (n := n) (fuel := 1000) (s := 0) (g := putH g p h) (fun i s g1 => s = I i ∧ ∃ h1, g1 = putH g p h1 ∧ Rel (manyU i s0).1 h1 ∧ Cv (manyU i s0).1 h1) (fun _ g1 => ∃ h1, g1 = putH g p h1 ∧ Rel (manyU n s0).1 h1 ∧ Cv (manyU n s0).1 h1) (fun i s g1 hi h0 => by
      obtain ⟨rfl, h1, rfl, R1, c1⟩ := h0
      obtain ⟨w1, t1⟩ := manyU_ws w i (by omega)
      obtain ⟨a1, e1, R2, c2⟩ := c_burnLogs (g := g) (p := p) w1 R1
      have k := burn_kp (manyU i s0).1
      have e : nT (burnS (manyU i s0).1) = nT (manyU i s0).1 := Kp_nT k
      obtain ⟨a2, e2, R3, c3⟩ := c_endHour (g := g) (p := p) (s0 := (burnS (manyU i s0).1, (manyU i s0).2)) (k.ws w1) (by show nT (burnS (manyU i s0).1) + 1 ≤ 20000; omega) R2 (c2 _ (burn_cv w1 c1))
      unfold x3_passTimeUnwatched_l2
      rw [if_neg (by rw [I_le (by omega) (by omega)]; omega), H_isO, gb_s, e1, cb_s, H_isO, gb_s, e2, cb_s, I_succ]
      exact ⟨_, _, rfl, rfl, a2, rfl, R3, c3⟩) (fun s g1 h0 => by
      obtain ⟨rfl, h1, rfl, R1⟩ := h0
      unfold x3_passTimeUnwatched_l2
      rw [if_pos (by rw [I_le (by omega) (by omega)]; omega)]
      exact ⟨_, _, rfl, h1, rfl, R1⟩) (by omega) ⟨rfl, h, rfl, R, c⟩
  obtain ⟨t, g1, e1, h1, rfl, R1⟩ := H
  rw [e1, cb_s]
  exact ⟨h1, rfl, R1⟩
end Unw
