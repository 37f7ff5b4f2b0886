/-! the hours of predictions, in which nothing is noted -/
def hf (k : Nat) : Prop := ∃ i f, 6 ≤ f ∧ f < 10 ∧ k = 49 + 10 * i + f
def Eh (z z1 : St) : Prop := ∀ k, ¬ hf k → z1 k = z k
theorem hf_lo {k : Nat} (h : k < 49) : ¬ hf k := fun ⟨i, f, h1, h2, h3⟩ => by omega
theorem hf_in {i f : Nat} (h : f < 6) : ¬ hf (49 + 10 * i + f) := fun ⟨j, e, h1, h2, h3⟩ => by omega
theorem Eh.refl {z : St} : Eh z z := fun _ _ => rfl
theorem Eh.trans {z z1 z2 : St} (h : Eh z z1) (h1 : Eh z1 z2) : Eh z z2 := fun k hk0 => (h1 k hk0).trans (h k hk0)
theorem Eh.up {z z1 : St} (e : Eh z z1) {k : Nat} {v v1 : Int32} (hv : v1 = v) : Eh (upd z k v) (upd z1 k v1) := fun j hj => by
  rw [hv]
  by_cases h : j = k
  · rw [h, upd_at, upd_at]
  · rw [upd_ne h, upd_ne h]
    exact e j hj
theorem Eh.lo {z z1 : St} (e : Eh z z1) {k : Nat} (h : k < 49) : z1 k = z k := e k (hf_lo h)
theorem Eh.h6 {z z1 : St} (e : Eh z z1) {i f : Nat} (h : f < 6) : hk z1 i f = hk z i f := e _ (hf_in h)
theorem Eh.kp {z z1 : St} (e : Eh z z1) : Kp z z1 := ⟨fun k hk0 => e.lo (by omega), fun i hi => ⟨e.h6 (i := i) (f := 4) (by decide), e.h6 (i := i) (f := 5) (by decide)⟩⟩
theorem Eh.burn {z z1 : St} (e : Eh z z1) : Eh (burnS z) (burnS z1) := by
  have hb : burnB z1 = burnB z := by
    unfold burnB
    rw [e.lo (k := 0) (by decide), e.lo (k := 1) (by decide)]
  unfold burnS
  rw [hb]
  exact (((e.up (by rw [e.lo (k := 0) (by decide)])).up (by rw [e.lo (k := 4) (by decide)])).up (by rw [e.lo (k := 5) (by decide)])).up (by rw [e.lo (k := 2) (by decide)])
theorem Eh.pP {z z1 : St} (e : Eh z z1) (i : Nat) (a : Int32) : payP z1 i a = payP z i a := by
  unfold payP
  rw [e.h6 (f := 2) (by decide)]
theorem Eh.pay {z z1 : St} (e : Eh z z1) (i : Nat) (a : Int32) : Eh (payS z i a) (payS z1 i a) := by
  unfold payS
  rw [e.pP]
  exact (e.up (by rw [e.h6 (f := 2) (by decide)])).up (by rw [e.h6 (f := 3) (by decide)])
def E2 (s s1 : St × St) : Prop := Eh s.1 s1.1 ∧ s1.2 = s.2
theorem sm_congr {f f1 : Nat → Int32} : ∀ n, (∀ i, i < n → f1 i = f i) → sm f1 n = sm f n := by
  intro n
  induction n with
  | zero => intro _; rfl
  | succ n ih =>
    intro h
    rw [sm, sm, ih (fun i hi => h i (by omega)), h n (by omega)]
theorem ntStep_eq {s : St × St} {i d : Nat} (h : kN (deed s.1 i) = d) : ntStep s i = (upd s.1 (49 + 10 * i + (6 + d)) (hk s.1 i (6 + d) + 1), s.2) := by
  unfold ntStep
  rw [h]
theorem E2_nt : ∀ n, n ≤ 10 → ∀ s : St × St, E2 s (it ntStep n s) := by
  intro n
  induction n with
  | zero => intro _ s; exact ⟨Eh.refl, rfl⟩
  | succ n ih =>
    intro hn s
    obtain ⟨e, h2⟩ := ih (by omega) s
    show E2 s (ntStep (it ntStep n s) n)
    obtain ⟨d, h1, -, h3⟩ := deed_I (it ntStep n s).1 n
    rw [ntStep_eq h3]
    exact ⟨e.trans (fun k hk0 => upd_ne (fun hc => hk0 ⟨n, 6 + d, by omega, by omega, hc⟩)), h2⟩
section Unw
variable {g : AH} {p : Nat} {h : HS} {st : St}
end Unw


