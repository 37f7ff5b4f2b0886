/-! predictions: what they rest on -/
theorem it_f1 {step : St × St → Nat → St × St} (h : ∀ s s1 : St × St, ∀ i, s1.1 = s.1 → (step s1 i).1 = (step s i).1) : ∀ n (s s1 : St × St), s1.1 = s.1 → (it step n s1).1 = (it step n s).1 := by
  intro n
  induction n with
  | zero => intro s s1 e; exact e
  | succ n ih => intro s s1 e; exact h _ _ _ (ih s s1 e)
theorem d3_f1 : ∀ n (s s1 : St × St × Int32), s1.1 = s.1 → s1.2.2 = s.2.2 → (it d3Step n s1).1 = (it d3Step n s).1 ∧ (it d3Step n s1).2.2 = (it d3Step n s).2.2 := by
  intro n
  induction n with
  | zero => intro s s1 e e2; exact ⟨e, e2⟩
  | succ n ih =>
    intro s s1 e e2
    obtain ⟨h1, h2⟩ := ih s s1 e e2
    show (d3Step (it d3Step n s1) n).1 = (d3Step (it d3Step n s) n).1 ∧ (d3Step (it d3Step n s1) n).2.2 = (d3Step (it d3Step n s) n).2.2
    generalize it d3Step n s = y at h1 h2 ⊢
    generalize it d3Step n s1 = y1 at h1 h2 ⊢
    unfold d3Step
    dsimp only
    rw [h1, h2]
    exact ⟨rfl, rfl⟩
theorem plS_f1 (s s1 : St × St) (e : s1.1 = s.1) : (plS s1).1 = (plS s).1 := by
  have h := it_f1 (step := plStep (2 * s.1 5) (s.1 12)) (fun a b i h => by unfold plStep; dsimp only; rw [h]) (nH s.1) s s1 e
  unfold plS
  dsimp only
  rw [e, h]
theorem shS_f1 (p : Int32) (s s1 : St × St) (e : s1.1 = s.1) : (shS p s1).1 = (shS p s).1 := by
  have h := it_f1 (step := shStep (shPart p (cntW s.1))) (fun a b i h => by unfold shStep; dsimp only; rw [h]) (nH s.1) s s1 e
  unfold shS
  dsimp only
  rw [e, h]
theorem dawn_f1 (s s1 : St × St) (e : s1.1 = s.1) : (dawnS s1).1 = (dawnS s).1 := by
  have h1 := it_f1 (step := d1Step) (fun a b i h => by unfold d1Step; dsimp only; rw [h]) (nH s.1) s s1 e
  have h2 := plS_f1 _ _ h1
  have h3 := d3_f1 (nH s.1) ((plS (it d1Step (nH s.1) s)).1, (plS (it d1Step (nH s.1) s)).2, 0) ((plS (it d1Step (nH s.1) s1)).1, (plS (it d1Step (nH s.1) s1)).2, 0) h2 rfl
  unfold dawnS
  dsimp only
  rw [e, h3.2]
  exact shS_f1 _ _ _ h3.1
theorem end_f1 (s s1 : St × St) (e : s1.1 = s.1) : (endS s1).1 = (endS s).1 := by
  have ht : (tick s1).1 = (tick s).1 := by
    show upd s1.1 3 (s1.1 3 + 1) = upd s.1 3 (s.1 3 + 1)
    rw [e]
  unfold endS
  rw [ht]
  by_cases hc : (tick s).1 3 - (tick s).1 3 / 8 * 8 = 0
  · rw [if_pos hc, if_pos hc]
    exact dawn_f1 _ _ ht
  · rw [if_neg hc, if_neg hc]
    exact ht
theorem hour_f1 (s s1 : St × St) (e : s1.1 = s.1) : (hourS s1).1 = (hourS s).1 := by
  have hn : (ntS (burnS s1.1, s1.2)).1 = (ntS (burnS s.1, s.2)).1 := by
    unfold ntS
    dsimp only
    rw [e]
    exact it_f1 (fun a b i h => by unfold ntStep; dsimp only; rw [h]) _ _ _ rfl
  exact end_f1 _ _ hn
theorem many_f1 (n : Nat) (s s1 : St × St) (e : s1.1 = s.1) : (manyS n s1).1 = (manyS n s).1 := by
  induction n with
  | zero => exact e
  | succ n ih => exact hour_f1 (manyS n s) (manyS n s1) ih
def manyZ (n : Nat) (st : St) : St := (manyS n (st, fun _ => 0)).1
theorem manyZ_eq (n : Nat) (st du : St) : (manyS n (st, du)).1 = manyZ n st := many_f1 n (st, fun _ => 0) (st, du) rfl
/-- what the stove and the coins change -/
def mi (k : Nat) : Prop := k < 7 ∨ ∃ i, k = 49 + 10 * i + 2 ∨ k = 49 + 10 * i + 3
def Ch (z z1 : St) : Prop := ∀ k, ¬ mi k → z1 k = z k
theorem Ch.refl {z : St} : Ch z z := fun _ _ => rfl
theorem Ch.trans {z z1 z2 : St} (h : Ch z z1) (h1 : Ch z1 z2) : Ch z z2 := fun k hk0 => (h1 k hk0).trans (h k hk0)
theorem Ch.up {z z1 : St} (h : Ch z z1) {k : Nat} {v : Int32} (hk0 : mi k) : Ch z (upd z1 k v) := fun j hj => by
  rw [upd_ne (fun hc : j = k => hj (by rw [hc]; exact hk0))]
  exact h j hj
theorem mi_lo {k : Nat} (h : k < 7) : mi k := Or.inl h
theorem Ch.burn {z : St} : Ch z (burnS z) := (((Ch.refl.up (mi_lo (by decide))).up (mi_lo (by decide))).up (mi_lo (by decide))).up (mi_lo (by decide))
theorem Ch.pay {z : St} {i : Nat} {a : Int32} : Ch z (payS z i a) := (Ch.refl.up (Or.inr ⟨i, Or.inl rfl⟩)).up (Or.inr ⟨i, Or.inr rfl⟩)
theorem Ch.its {step : St × St → Nat → St × St} (hs : ∀ s i, Ch s.1 (step s i).1) : ∀ n s, Ch s.1 (it step n s).1 := by
  intro n
  induction n with
  | zero => intro s; exact Ch.refl
  | succ n ih => intro s; exact (ih s).trans (hs _ n)
theorem Ch.d3 : ∀ n (s : St × St × Int32), Ch s.1 (it d3Step n s).1 := by
  intro n
  induction n with
  | zero => intro s; exact Ch.refl
  | succ n ih => intro s; exact (ih s).trans Ch.pay
theorem Ch.dawn (s : St × St) : Ch s.1 (dawnS s).1 := by
  have h1 : Ch s.1 (it d1Step (nH s.1) s).1 := Ch.its (fun s i => Ch.pay.up (mi_lo (by decide))) _ s
  have h2 : Ch s.1 (plS (it d1Step (nH s.1) s)).1 := (h1.trans (Ch.its (fun s i => Ch.pay.up (mi_lo (by decide))) _ _)).up (mi_lo (by decide))
  have h3 := h2.trans (Ch.d3 (nH s.1) ((plS (it d1Step (nH s.1) s)).1, (plS (it d1Step (nH s.1) s)).2, 0))
  exact (h3.trans (Ch.its (fun s i => Ch.refl.up (Or.inr ⟨i, Or.inl rfl⟩)) _ _)).up (mi_lo (by decide))
theorem Ch.fin (s : St × St) : Ch s.1 (endS s).1 := by
  have ht : Ch s.1 (tick s).1 := Ch.refl.up (mi_lo (by decide))
  unfold endS
  split
  · exact ht.trans (Ch.dawn _)
  · exact ht
theorem mi_no {i f : Nat} (h1 : 3 < f) (h2 : f < 10) : ¬ mi (49 + 10 * i + f) := by
  rintro (h | ⟨j, h | h⟩)
  · omega
  · omega
  · omega
/-- the hours that a thing happened grow -/
theorem sm_one {f g : Nat → Int32} {i : Nat} : ∀ n, i < n → (∀ x, x < n → x ≠ i → g x = f x) → g i = f i + 1 → sm g n = sm f n + 1 := by
  intro n
  induction n with
  | zero => intro h; omega
  | succ n ih =>
    intro hi h h1
    rw [sm, sm]
    by_cases hin : i = n
    · rw [sm_congr (f := f) (f1 := g) n (fun x hx => h x (by omega) (by omega)), ← hin, h1, Int32.add_assoc]
    · rw [ih (by omega) (fun x hx => h x (by omega)) h1, h n (by omega) (Ne.symm hin)]
      ac_rfl
theorem sumF_ch {z z1 : St} {f : Nat} (h : Ch z z1) (h1 : 3 < f) (h2 : f < 10) : sumF z1 f = sumF z f := by
  have hn : nH z1 = nH z := by unfold nH; rw [h 12 (by rintro (h | ⟨i, h | h⟩) <;> omega)]
  unfold sumF
  rw [hn]
  exact sm_congr _ fun i _ => h _ (mi_no h1 h2)
theorem nt_grow {f : Nat} (h1 : 6 ≤ f) (h2 : f < 10) (s : St × St) : ∀ n, n ≤ nH s.1 → n ≤ 10 → ∃ c, c ≤ n ∧ sumF (it ntStep n s).1 f = sumF s.1 f + I c := by
  intro n
  induction n with
  | zero => intro _ _; exact ⟨0, Nat.le_refl _, (Int32.add_zero _).symm⟩
  | succ n ih =>
    intro hn hn2
    obtain ⟨c, c1, c2⟩ := ih (by omega) (by omega)
    have hk1 : nH (it ntStep n s).1 = nH s.1 := (E2_nt n (by omega) s).1.nh
    obtain ⟨d, d1, -, d3⟩ := deed_I (it ntStep n s).1 n
    have hst : (it ntStep (n + 1) s).1 = upd (it ntStep n s).1 (49 + 10 * n + (6 + d)) (hk (it ntStep n s).1 n (6 + d) + 1) := by
      show (ntStep (it ntStep n s) n).1 = _
      rw [ntStep_eq d3]
    rw [hst]
    generalize it ntStep n s = y at c2 hk1 ⊢
    have hn3 : nH (upd y.1 (49 + 10 * n + (6 + d)) (hk y.1 n (6 + d) + 1)) = nH y.1 := by unfold nH; rw [upd_ne (by omega)]
    by_cases hfd : f = 6 + d
    · refine ⟨c + 1, by omega, ?_⟩
      have : sumF (upd y.1 (49 + 10 * n + (6 + d)) (hk y.1 n (6 + d) + 1)) f = sumF y.1 f + 1 := by
        unfold sumF
        rw [hn3]
        refine sm_one (i := n) _ (by omega) (fun x _ hx => upd_ne (by omega)) ?_
        rw [hfd]
        exact upd_at
      rw [this, c2, Int32.add_assoc, I_succ]
    · refine ⟨c, by omega, ?_⟩
      have : sumF (upd y.1 (49 + 10 * n + (6 + d)) (hk y.1 n (6 + d) + 1)) f = sumF y.1 f := by
        unfold sumF
        rw [hn3]
        exact sm_congr _ fun x _ => upd_ne (by omega)
      rw [this, c2]
theorem hour_grow {f : Nat} (h1 : 6 ≤ f) (h2 : f < 10) {s : St × St} (w : Ws s.1) : ∃ c, c ≤ 10 ∧ sumF (hourS s).1 f = sumF s.1 f + I c := by
  have wb := (burn_kp s.1).ws w
  have hh := wb.h.2
  obtain ⟨c, c1, c2⟩ := nt_grow h1 h2 (burnS s.1, s.2) (nH (burnS s.1)) (Nat.le_refl _) hh
  refine ⟨c, by omega, ?_⟩
  have e1 : sumF (hourS s).1 f = sumF (ntS (burnS s.1, s.2)).1 f := sumF_ch (Ch.fin _) (by omega) h2
  have e2 : sumF (burnS s.1) f = sumF s.1 f := sumF_ch Ch.burn (by omega) h2
  rw [e1, ← e2]
  exact c2
theorem many_grow {f : Nat} (h1 : 6 ≤ f) (h2 : f < 10) {s : St × St} (w : Ws s.1) : ∀ n, nT s.1 + n ≤ 20000 → ∃ c, c ≤ 10 * n ∧ sumF (manyS n s).1 f = sumF s.1 f + I c := by
  intro n
  induction n with
  | zero => intro _; exact ⟨0, Nat.le_refl _, (Int32.add_zero _).symm⟩
  | succ n ih =>
    intro hn
    obtain ⟨c, c1, c2⟩ := ih (by omega)
    obtain ⟨w1, -⟩ := manyS_ws w n (by omega)
    obtain ⟨e, e1, e2⟩ := hour_grow h1 h2 (s := manyS n s) w1
    refine ⟨c + e, by omega, ?_⟩
    show sumF (hourS (manyS n s)).1 f = _
    rw [e2, c2, Int32.add_assoc, I_add]
/-- what is due at dawn -/
theorem d1_du : ∀ n (s : St × St) j, (it d1Step n s).2 j = if j < n then 3 else s.2 j := by
  intro n
  induction n with
  | zero => intro s j; rw [if_neg (by omega)]; rfl
  | succ n ih =>
    intro s j
    have h := ih s j
    show (d1Step (it d1Step n s) n).2 j = _
    generalize it d1Step n s = y at h ⊢
    show upd (upd y.2 n 0) n (upd y.2 n 0 n + 3) j = _
    rw [upd_two, upd_at]
    by_cases hj : j = n
    · rw [hj, upd_at, if_pos (by omega)]; rfl
    · rw [upd_ne hj, h]
      by_cases h3 : j < n
      · rw [if_pos h3, if_pos (by omega)]
      · rw [if_neg h3, if_neg (by omega)]
theorem pl_du (c N : Int32) : ∀ n (s : St × St) j, (it (plStep c N) n s).2 j = if j < n then s.2 j + plPart c N j else s.2 j := by
  intro n
  induction n with
  | zero => intro s j; rw [if_neg (by omega)]; rfl
  | succ n ih =>
    intro s j
    have h := ih s
    show (plStep c N (it (plStep c N) n s) n).2 j = _
    generalize it (plStep c N) n s = y at h ⊢
    show upd y.2 n (y.2 n + plPart c N n) j = _
    by_cases hj : j = n
    · rw [hj, upd_at, h, if_neg (by omega), if_pos (by omega)]
    · rw [upd_ne hj, h]
      by_cases h3 : j < n
      · rw [if_pos h3, if_pos (by omega)]
      · rw [if_neg h3, if_neg (by omega)]
theorem d3_du : ∀ n, n ≤ 10 → ∀ (s : St × St × Int32), Ws s.1 → ∀ j, (it d3Step n s).2.1 j = if j < n then s.2.1 j + fee s.1 j else s.2.1 j := by
  intro n
  induction n with
  | zero => intro _ s _ j; rw [if_neg (by omega)]; rfl
  | succ n ih =>
    intro hn s w j
    have h := ih (by omega) s w
    have hf : fee (it d3Step n s).1 n = fee s.1 n := by
      unfold fee
      rw [Ag_thk (d3_ag n (by omega) s) w (by omega)]
    show (d3Step (it d3Step n s) n).2.1 j = _
    generalize it d3Step n s = y at h hf ⊢
    show upd y.2.1 n (y.2.1 n + fee y.1 n) j = _
    by_cases hj : j = n
    · rw [hj, upd_at, h, if_neg (by omega), if_pos (by omega), hf]
    · rw [upd_ne hj, h]
      by_cases h3 : j < n
      · rw [if_pos h3, if_pos (by omega)]
      · rw [if_neg h3, if_neg (by omega)]
theorem sh_du (v : Int32) : ∀ n (s : St × St), (it (shStep v) n s).2 = s.2 := by
  intro n
  induction n with
  | zero => intro s; rfl
  | succ n ih => intro s; exact ih s
def dueV (st : St) (i : Nat) : Int32 := (3 + plPart (2 * st 5) (st 12) i) + fee st i
theorem dawn_du {s : St × St} (w : Ws s.1) {i : Nat} (hi : i < nH s.1) : (dawnS s).2 i = dueV s.1 i := by
  have hh := w.h.2
  have k1 := it_ag d1_ag (nH s.1) hh s
  have w1 := k1.kp.ws w
  have k2 : Ag s.1 (plS (it d1Step (nH s.1) s)).1 := (k1.trans (it_ag (pl_ag _ _) _ w1.h.2 _)).up (by decide) (fun j hj => by omega)
  have hn1 : nH (it d1Step (nH s.1) s).1 = nH s.1 := Kp_nH k1.kp
  have h5 : (it d1Step (nH s.1) s).1 5 = s.1 5 := by
    have : ∀ n, n ≤ 10 → (it d1Step n s).1 5 = s.1 5 := by
      intro n
      induction n with
      | zero => intro _; rfl
      | succ n ih =>
        intro hn
        rw [← ih (by omega)]
        show (d1Step (it d1Step n s) n).1 5 = _
        generalize it d1Step n s = y
        unfold d1Step payS
        dsimp only
        rw [upd_ne (by decide), upd_ne (by omega), upd_ne (by omega)]
    exact this _ hh
  have h12 : (it d1Step (nH s.1) s).1 12 = s.1 12 := k1.1 12 (by omega)
  have hf : fee (plS (it d1Step (nH s.1) s)).1 i = fee s.1 i := by
    unfold fee
    rw [Ag_thk k2 w (by omega)]
  have e3 := d3_du (nH s.1) hh ((plS (it d1Step (nH s.1) s)).1, (plS (it d1Step (nH s.1) s)).2, 0) (k2.kp.ws w) i
  have e2 : (plS (it d1Step (nH s.1) s)).2 i = 3 + plPart (2 * s.1 5) (s.1 12) i := by
    have h := pl_du (2 * s.1 5) (s.1 12) (nH s.1) (it d1Step (nH s.1) s) i
    rw [if_pos hi, d1_du, if_pos hi] at h
    unfold plS
    dsimp only
    rw [h5, h12, hn1]
    exact h
  have hs : (dawnS s).2 = (it d3Step (nH s.1) ((plS (it d1Step (nH s.1) s)).1, (plS (it d1Step (nH s.1) s)).2, 0)).2.1 := by
    unfold dawnS shS
    dsimp only
    rw [sh_du]
  rw [hs, e3, if_pos hi]
  dsimp only
  rw [e2, hf]
  rfl
