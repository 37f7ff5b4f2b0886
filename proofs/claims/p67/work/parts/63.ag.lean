/-! arrays that agree in all that warmth and noise look at -/
def Ag (z z1 : St) : Prop := (∀ k, k = 2 ∨ k = 3 ∨ (9 ≤ k ∧ k < 49) → z1 k = z k) ∧ ∀ i, i < 10 → ∀ f, f = 0 ∨ f = 1 ∨ f = 4 ∨ f = 5 → z1 (49 + 10 * i + f) = z (49 + 10 * i + f)
theorem Ag.refl {z : St} : Ag z z := ⟨fun _ _ => rfl, fun _ _ _ _ => rfl⟩
theorem Ag.trans {z z1 z2 : St} (h : Ag z z1) (h1 : Ag z1 z2) : Ag z z2 := ⟨fun k hk0 => (h1.1 k hk0).trans (h.1 k hk0), fun i hi f hf => (h1.2 i hi f hf).trans (h.2 i hi f hf)⟩
theorem Ag.up {z z1 : St} (h : Ag z z1) {k : Nat} {v : Int32} (h1 : k ≠ 2 ∧ k ≠ 3 ∧ ¬ (9 ≤ k ∧ k < 49)) (h2 : ∀ i, i < 10 → k ≠ 49 + 10 * i ∧ k ≠ 49 + 10 * i + 1 ∧ k ≠ 49 + 10 * i + 4 ∧ k ≠ 49 + 10 * i + 5) : Ag z (upd z1 k v) :=
  h.trans ⟨fun j hj => upd_ne (by omega), fun i hi f hf => upd_ne (by have := h2 i hi; omega)⟩
section Agr
variable {z z1 : St}
theorem Ag.kp (a : Ag z z1) : Kp z z1 := ⟨fun k hk0 => a.1 k (by omega), fun i hi => ⟨a.2 i hi 4 (by decide), a.2 i hi 5 (by decide)⟩⟩
theorem Ag_hk (a : Ag z z1) {i f : Nat} (hi : i < 10) (hf : f = 0 ∨ f = 1 ∨ f = 4 ∨ f = 5) : hk z1 i f = hk z i f := a.2 i hi f hf
theorem ffa_congr {p q : Nat → Bool} : ∀ {k i : Nat}, (∀ x, i ≤ x → x < i + k → p x = q x) → ffa p i k = ffa q i k := by
  intro k
  induction k with
  | zero => intro i _; rfl
  | succ k ih =>
    intro i h
    rw [ffa, ffa, h i (Nat.le_refl _) (by omega), ih (fun x h1 h2 => h x (by omega) (by omega))]
theorem Kp_hw (a : Kp z z1) (w : Ws z) {f : Nat} (hf : f = 4 ∨ f = 5) (x : Int32) : hw z1 f x = hw z f x := by
  have hh := w.h.2
  unfold hw
  rw [Kp_nH a]
  have e : ff (hwp z1 f x) (nH z) = ff (hwp z f x) (nH z) := ffa_congr fun k _ hk0 => by
    unfold hwp
    rcases hf with rfl | rfl
    · rw [(a.2 k (by omega)).1]
    · rw [(a.2 k (by omega)).2]
  rw [e]
theorem Kp_inB (a : Kp z z1) (w : Ws z) (b : Int32) : inB z1 b = inB z b := by
  unfold inB isB
  rw [a.1 9 (by decide), Kp_hw a w (Or.inl rfl)]
theorem Ag_ins (a : Ag z z1) (w : Ws z) : ins z1 = ins z := by
  obtain ⟨h3, h4, h5⟩ := w.f
  have hm : nT z % nF z < 12 := Nat.lt_of_lt_of_le (Nat.mod_lt _ h4) h5
  have e1 : nT z1 = nT z := Kp_nT a.kp
  have e2 : nF z1 = nF z := by unfold nF; rw [a.1 11 (by omega)]
  unfold ins
  rw [e1, e2, a.1 2 (by omega), a.1 _ (by omega)]
theorem Ag_thk (a : Ag z z1) (w : Ws z) {i : Nat} (hi : i < 10) : thk z1 i = thk z i := by
  unfold thk
  rw [Ag_hk a hi (by decide)]
  by_cases h : hk z i 5 = -1
  · rw [if_pos h, if_pos h]
  · obtain ⟨b, b1, b2, b3, b4⟩ := w.blan hi h
    rw [if_neg h, if_neg h, b4, a.1 _ (by omega)]
theorem Ag_wN (a : Ag z z1) (w : Ws z) {i : Nat} (hi : i < 10) : wN z1 i = wN z i := by
  unfold wN wB near
  rw [Ag_thk a w hi, Ag_hk a hi (by decide), Ag_ins a w, Kp_inB a.kp w, Kp_inB a.kp w]
  by_cases h : hk z i 4 = -1
  · rw [if_pos h, if_pos h]
  · obtain ⟨b, b1, b2, b3, b4⟩ := w.bunk hi h
    rw [if_neg h, if_neg h, b4, a.1 _ (by omega)]
theorem Ag_cold (a : Ag z z1) (w : Ws z) {i : Nat} (hi : i < 10) : cold z1 i = cold z i := by
  unfold cold
  rw [Ag_wN a w hi, Ag_hk a hi (by decide)]
theorem Ag_sn (a : Ag z z1) (w : Ws z) (b : Int32) : sn z1 b = sn z b := by
  have hh := w.h.2
  unfold sn
  rw [Kp_inB a.kp w]
  rcases inB_cases w b with h1 | ⟨k, h1, h2, h3, -⟩
  · rw [if_pos h1, if_pos h1]
  · rw [h3, Ag_cold a w (by omega), Ag_hk a (by omega) (by decide)]
theorem Ag_noi (a : Ag z z1) (w : Ws z) (b : Int32) : noi z1 b = noi z b := by
  unfold noi
  rw [Ag_sn a w, Ag_sn a w, Ag_sn a w, Ag_sn a w]
theorem Ag_deed (a : Ag z z1) (w : Ws z) {i : Nat} (hi : i < 10) : deed z1 i = deed z i := by
  unfold deed
  rw [Ag_cold a w hi, Ag_hk a hi (by decide), Ag_noi a w]
end Agr
/-- which number of the array each number of the hut is -/
def fm (k : Nat) : Nat := match k with
  | 0 => 3
  | 1 => 0
  | 2 => 2
  | 3 => 1
  | 4 => 6
  | 5 => 4
  | 6 => 5
  | k => k
theorem Rel_at {st : St} {h : HS} (R : Rel st h) : ∀ k, k < 13 → h.1 k = st (fm k) := by
  obtain ⟨⟨a0, a1, a2, a3, a4, a5, a6, a7, a8, a9, a10, a11, a12⟩, -⟩ := R
  intro k hk0
  match k, hk0 with
  | 0, _ => exact a0
  | 1, _ => exact a1
  | 2, _ => exact a2
  | 3, _ => exact a3
  | 4, _ => exact a4
  | 5, _ => exact a5
  | 6, _ => exact a6
  | 7, _ => exact a7
  | 8, _ => exact a8
  | 9, _ => exact a9
  | 10, _ => exact a10
  | 11, _ => exact a11
  | 12, _ => exact a12
theorem Rel_fm {st : St} {h : HS} (H : ∀ k, k < 13 → h.1 k = st (fm k)) : (h.1 0 = st 3 ∧ h.1 1 = st 0 ∧ h.1 2 = st 2 ∧ h.1 3 = st 1 ∧ h.1 4 = st 6 ∧ h.1 5 = st 4 ∧ h.1 6 = st 5 ∧ h.1 7 = st 7 ∧ h.1 8 = st 8 ∧ h.1 9 = st 9 ∧ h.1 10 = st 10 ∧ h.1 11 = st 11 ∧ h.1 12 = st 12) :=
  ⟨H 0 (by decide), H 1 (by decide), H 2 (by decide), H 3 (by decide), H 4 (by decide), H 5 (by decide), H 6 (by decide), H 7 (by decide), H 8 (by decide), H 9 (by decide), H 10 (by decide), H 11 (by decide), H 12 (by decide)⟩
theorem fm_inj {j k : Nat} (hj : j < 13) (hk0 : k < 13) (h : fm j = fm k) : j = k := by
  have : ∀ j, j < 13 → ∀ k, k < 13 → fm j = fm k → j = k := by decide
  exact this j hj k hk0 h
section RelUp
variable {st : St} {h : HS}
/-- a number of the hut itself is changed, but no count -/
theorem Rel.upF (w : Ws st) (R : Rel st h) {k : Nat} {v : Int32} (hk0 : k < 9) : Rel (upd st (fm k) v) (hF h k v) := by
  have hf : fm k < 9 := by
    have : ∀ k, k < 9 → fm k < 9 := by decide
    exact this k hk0
  have e : ∀ q, 9 ≤ q → upd st (fm k) v q = st q := fun q hq => upd_ne (by omega)
  have eH : nH (upd st (fm k) v) = nH st := by unfold nH; rw [e 12 (by decide)]
  have eB : nB (upd st (fm k) v) = nB st := by unfold nB; rw [e 9 (by decide)]
  have eL : nL (upd st (fm k) v) = nL st := by unfold nL; rw [e 10 (by decide)]
  have eF : nF (upd st (fm k) v) = nF st := by unfold nF; rw [e 11 (by decide)]
  have eI : ∀ b, inB (upd st (fm k) v) b = inB st b := by
    intro b
    have hp : hwp (upd st (fm k) v) 4 b = hwp st 4 b := funext fun q => by unfold hwp; rw [e _ (by omega)]
    unfold inB isB hw
    rw [e 9 (by decide), eH, hp]
  refine ⟨Rel_fm fun j hj => ?_, ⟨fun b hb => ?_, fun b hb => ?_, fun b hb => ?_⟩, fun i hi q hq => ?_, fun i hi q hq => ?_, fun j hj => ?_⟩
  · show upd h.1 k v j = upd st (fm k) v (fm j)
    by_cases hjk : j = k
    · rw [hjk, upd_at, upd_at]
    · rw [upd_ne hjk, upd_ne (fun hc => hjk (fm_inj hj (by omega) hc))]
      exact Rel_at R j hj
  · rw [e _ (by omega)]; exact R.2.1.1 b (by rw [← eB]; exact hb)
  · rw [e _ (by omega)]; exact R.2.1.2.1 b (by rw [← eL]; exact hb)
  · rw [e _ (by omega)]; exact R.2.1.2.2 b (by rw [← eF]; exact hb)
  · unfold hk; rw [e _ (by omega)]; exact R.2.2.1 i (by rw [← eH]; exact hi) q hq
  · unfold hk; rw [e _ (by omega)]; exact R.2.2.2.1 i (by rw [← eH]; exact hi) q hq
  · rw [eI]; exact R.2.2.2.2 j hj
/-- a hiker's coins or debt are changed -/
theorem Rel.upK (w : Ws st) (R : Rel st h) {i f : Nat} {v : Int32} (hi : i < 10) (hf : f < 4) : Rel (upd st (49 + 10 * i + f) v) (hK h i f v) := by
  have e : ∀ q, q < 49 → upd st (49 + 10 * i + f) v q = st q := fun q hq => upd_ne (by omega)
  have k : Kp st (upd st (49 + 10 * i + f) v) := Kp.refl.up (by omega) (fun j hj => by omega)
  refine ⟨Rel_fm fun j hj => ?_, ⟨fun b hb => ?_, fun b hb => ?_, fun b hb => ?_⟩, fun q hq x hx => ?_, fun q hq x hx => ?_, fun j hj => ?_⟩
  · have : ∀ k, k < 13 → fm k < 13 := by decide
    have h1 := this j hj
    rw [e _ (by omega)]
    exact Rel_at R j hj
  · have hb2 : b < nB st := by unfold nB at hb ⊢; rw [← e 9 (by decide)]; exact hb
    rw [e _ (by have := w.b.2; omega)]; exact R.2.1.1 b hb2
  · have hb2 : b < nL st := by unfold nL at hb ⊢; rw [← e 10 (by decide)]; exact hb
    rw [e _ (by have := w.l.2; omega)]; exact R.2.1.2.1 b hb2
  · have hb2 : b < nF st := by unfold nF at hb ⊢; rw [← e 11 (by decide)]; exact hb
    rw [e _ (by have := w.f.2; omega)]; exact R.2.1.2.2 b hb2
  · rw [Kp_nH k] at hq
    have hh := w.h.2
    unfold hk
    by_cases hc : q = i ∧ x = f
    · rw [hc.1, hc.2, hK_at, upd_at]
    · rw [hK_ne (by omega), upd_ne (by omega)]
      exact R.2.2.1 q hq x hx
  · rw [Kp_nH k] at hq
    unfold hk
    rw [upd_ne (by omega)]
    exact R.2.2.2.1 q hq x hx
  · rw [Kp_inB k w]
    exact R.2.2.2.2 j hj
end RelUp


