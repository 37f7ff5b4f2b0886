/-! every rank has its hiker, and they stand in order -/
theorem sN_mono {p q : Nat → Nat} : ∀ m, (∀ i, i < m → p i ≤ q i) → sN p m ≤ sN q m := by
  intro m
  induction m with
  | zero => intro _; exact Nat.le_refl _
  | succ m ih =>
    intro h
    exact Nat.add_le_add (ih (fun i hi => h i (by omega))) (h m (by omega))
theorem sN_strict {p q : Nat → Bool} {j : Nat} : ∀ m, (∀ i, i < m → p i = true → q i = true) → j < m → p j = false → q j = true → sN (fun i => b1 (p i)) m < sN (fun i => b1 (q i)) m := by
  intro m
  induction m with
  | zero => intro _ h; omega
  | succ m ih =>
    intro h hj h1 h2
    have le : ∀ i, i < m + 1 → b1 (p i) ≤ b1 (q i) := fun i hi => by
      cases hp : p i with
      | false => exact Nat.zero_le _
      | true => rw [h i hi hp]; exact Nat.le_refl _
    show sN (fun i => b1 (p i)) m + b1 (p m) < sN (fun i => b1 (q i)) m + b1 (q m)
    by_cases hm : j = m
    · subst hm
      have := sN_mono (p := fun i => b1 (p i)) (q := fun i => b1 (q i)) j (fun i hi => le i (by omega))
      rw [h1, h2]
      show sN (fun i => b1 (p i)) j + 0 < sN (fun i => b1 (q i)) j + 1
      omega
    · have := ih (fun i hi => h i (by omega)) (by omega) h1 h2
      have := le m (by omega)
      omega
/-- different values below N, N of them: every value is there -/
theorem pigeon {N : Nat} {f : Nat → Nat} (hf : ∀ i, i < N → f i < N) (hi : ∀ i j, i < N → j < N → f i = f j → i = j) : ∀ x, x < N → ∃ i, i < N ∧ f i = x := by
  intro x hx
  refine Decidable.byContradiction fun hc => ?_
  have hno : ∀ i, i < N → f i ≠ x := fun i h1 h2 => hc ⟨i, h1, h2⟩
  have t1 : sN (fun i => sN (fun b => b1 (decide (f i = b))) N) N = sN (fun _ => 1) N := sN_congr N (fun i h => sN_one (p := fun b => decide (f i = b)) (j := f i) N (hf i h) (by simp) (fun b hb h2 => (of_decide_eq_true h2).symm))
  have t2 : sN (fun b => sN (fun i => b1 (decide (f i = b))) N) N = sN (fun _ => 1) N := (sN_swap (e := fun i b => b1 (decide (f i = b))) N N).trans t1
  have t3 : sN (fun b => sN (fun i => b1 (decide (f i = b))) N) N ≤ sN (fun b => b1 (!decide (b = x))) N := sN_mono N (fun b hb => by
    by_cases hbx : b = x
    · have : sN (fun i => b1 (decide (f i = b))) N = 0 := sN_zero N (fun i h => by
        rw [decide_eq_false (by rw [hbx]; exact hno i h)]
        rfl)
      rw [this]
      exact Nat.zero_le _
    · have e : b1 (!decide (b = x)) = 1 := by simp [hbx, b1]
      rw [e]
      by_cases hex : ∃ i, i < N ∧ f i = b
      · obtain ⟨i, i1, i2⟩ := hex
        exact Nat.le_of_eq (sN_one (p := fun i => decide (f i = b)) (j := i) N i1 (decide_eq_true i2) (fun k k1 k2 => hi k i k1 i1 ((of_decide_eq_true k2).trans i2.symm)))
      · have : sN (fun i => b1 (decide (f i = b))) N = 0 := sN_zero N (fun i h => by
          rw [decide_eq_false (fun h2 => hex ⟨i, h, h2⟩)]
          rfl)
        rw [this]
        exact Nat.zero_le _)
  have t4 := sN_not (p := fun b => decide (b = x)) N
  have t5 : sN (fun b => b1 (decide (b = x))) N = 1 := sN_one (p := fun b => decide (b = x)) (j := x) N hx (by simp) (fun b hb h2 => of_decide_eq_true h2)
  have t6 : sN (fun _ => 1) N = N := by
    have := sN_not (p := fun _ => false) N
    have z0 : sN (fun _ : Nat => b1 false) N = 0 := sN_zero N (fun _ _ => rfl)
    have e1 : sN (fun _ : Nat => b1 (!false)) N = sN (fun _ => 1) N := sN_congr N (fun _ _ => rfl)
    omega
  omega
/-- the rank of a hiker -/
def rN (z : St) (b : Nat) : Nat := sN (fun i => b1 (rhP z b i)) (nH z)
theorem rhS_I (z : St) (b : Nat) : rhS z b = I (rN z b) := sm_N _
section Ranks
variable {z : St}
/-- the hours, as numbers -/
theorem hrs_I (W : Ws z) (B : Bd z) {i f : Nat} (hi : i < nH z) (h1 : 6 ≤ f) (h2 : f < 10) : ∃ u, u ≤ 20000 ∧ hk z i f = I u := by
  have hh := W.h.2
  have ht := W.t.2
  have hl : limF (99 + 300 * nT z) (600 * nT z) (nT z) f = some (nT z) := by
    match f, h1, h2 with
    | 6, _, _ => rfl
    | 7, _, _ => rfl
    | 8, _, _ => rfl
    | 9, _, _ => rfl
  obtain ⟨x, x1, x2⟩ := B.2.1.fld (i := i) (f := f) (by omega) h2 hl
  exact ⟨x, by omega, x2⟩
theorem ah_iff (W : Ws z) (B : Bd z) {a b : Nat} (ha : a < nH z) (hb : b < nH z) : ∃ ua ub va vb, hk z a 8 = I ua ∧ hk z b 8 = I ub ∧ hk z a 6 = I va ∧ hk z b 6 = I vb ∧ (ua ≤ 20000 ∧ ub ≤ 20000 ∧ va ≤ 20000 ∧ vb ≤ 20000) ∧ (ahB z a b = true ↔ ub < ua ∨ (ua = ub ∧ (va < vb ∨ (va = vb ∧ a < b)))) := by
  obtain ⟨ua, a1, a2⟩ := hrs_I W B ha (f := 8) (by decide) (by decide)
  obtain ⟨ub, b1, b2⟩ := hrs_I W B hb (f := 8) (by decide) (by decide)
  obtain ⟨va, c1, c2⟩ := hrs_I W B ha (f := 6) (by decide) (by decide)
  obtain ⟨vb, d1, d2⟩ := hrs_I W B hb (f := 6) (by decide) (by decide)
  refine ⟨ua, ub, va, vb, a2, b2, c2, d2, ⟨a1, b1, c1, d1⟩, ?_⟩
  unfold ahB
  rw [a2, b2, c2, d2]
  have e1 : (I ua = I ub) = (ua = ub) := propext (I_eq (by omega) (by omega))
  have e2 : (I vb = I va) = (vb = va) := propext (I_eq (by omega) (by omega))
  have e3 : (I va < I vb) = (va < vb) := propext (I_lt (by omega) (by omega))
  have e4 : (I ub < I ua) = (ub < ua) := propext (I_lt (by omega) (by omega))
  simp only [e1, e2, e3, e4]
  by_cases h1 : ua = ub
  · rw [if_pos h1]
    by_cases h2 : vb = va
    · rw [if_pos h2, decide_eq_true_iff]
      omega
    · rw [if_neg h2, decide_eq_true_iff]
      omega
  · rw [if_neg h1, decide_eq_true_iff]
    omega
theorem ah_tr (W : Ws z) (B : Bd z) {a b c : Nat} (ha : a < nH z) (hb : b < nH z) (hc : c < nH z) (h1 : ahB z a b = true) (h2 : ahB z b c = true) : ahB z a c = true := by
  obtain ⟨ua, ub, va, vb, p1, p2, p3, p4, p5, p6⟩ := ah_iff W B ha hb
  obtain ⟨ub', uc, vb', vc, q1, q2, q3, q4, q5, q6⟩ := ah_iff W B hb hc
  obtain ⟨ua'', uc'', va'', vc'', s1, s2, s3, s4, s5, s6⟩ := ah_iff W B ha hc
  have e1 : ub' = ub := (I_eq (by omega) (by omega)).mp (q1.symm.trans p2)
  have e2 : vb' = vb := (I_eq (by omega) (by omega)).mp (q3.symm.trans p4)
  have e3 : ua'' = ua := (I_eq (by omega) (by omega)).mp (s1.symm.trans p1)
  have e4 : va'' = va := (I_eq (by omega) (by omega)).mp (s3.symm.trans p3)
  have e5 : uc'' = uc := (I_eq (by omega) (by omega)).mp (s2.symm.trans q2)
  have e6 : vc'' = vc := (I_eq (by omega) (by omega)).mp (s4.symm.trans q4)
  subst e1 e2 e3 e4 e5 e6
  rw [p6] at h1
  rw [q6] at h2
  rw [s6]
  omega
theorem ah_tot (W : Ws z) (B : Bd z) {a b : Nat} (ha : a < nH z) (hb : b < nH z) (hab : a ≠ b) : ahB z a b = true ∨ ahB z b a = true := by
  obtain ⟨ua, ub, va, vb, p1, p2, p3, p4, p5, p6⟩ := ah_iff W B ha hb
  obtain ⟨ub', ua', vb', va', q1, q2, q3, q4, q5, q6⟩ := ah_iff W B hb ha
  have e1 : ub' = ub := (I_eq (by omega) (by omega)).mp (q1.symm.trans p2)
  have e2 : vb' = vb := (I_eq (by omega) (by omega)).mp (q3.symm.trans p4)
  have e3 : ua' = ua := (I_eq (by omega) (by omega)).mp (q2.symm.trans p1)
  have e4 : va' = va := (I_eq (by omega) (by omega)).mp (q4.symm.trans p3)
  subst e1 e2 e3 e4
  rw [p6, q6]
  omega
theorem rN_lt (W : Ws z) (B : Bd z) {a b : Nat} (ha : a < nH z) (hb : b < nH z) (hab : a ≠ b) (h : ahB z a b = true) : rN z a < rN z b := by
  unfold rN
  refine sN_strict (j := a) (nH z) (fun i hi h1 => ?_) ha (rh_self z a) ((rh_eq z hab).trans h)
  by_cases hia : i = a
  · rw [hia, rh_self] at h1
    cases h1
  · by_cases hib : i = b
    · -- then b is ahead of a, and a of b
      rw [rh_eq z hia] at h1
      rw [hib] at h1 hia
      have := ah_tr W B ha hb ha h h1
      obtain ⟨ua, ub, va, vb, p1, p2, p3, p4, p5, p6⟩ := ah_iff W B ha ha
      rw [p6] at this
      have e1 : ua = ub := (I_eq (by omega) (by omega)).mp (p1.symm.trans p2)
      have e2 : va = vb := (I_eq (by omega) (by omega)).mp (p3.symm.trans p4)
      omega
    · rw [rh_eq z hia] at h1
      rw [rh_eq z hib]
      exact ah_tr W B hi ha hb h1 h
theorem rN_b (b : Nat) (hb : b < nH z) : rN z b < nH z := by
  have h1 := sN_not (p := fun i => rhP z b i) (nH z)
  have h2 := sN_pos (p := fun i => !rhP z b i) (nH z) b hb (by rw [rh_self]; rfl)
  unfold rN
  omega
theorem rank_ex (W : Ws z) (B : Bd z) {x : Nat} (hx : x < nH z) : ∃ a, a < nH z ∧ rN z a = x ∧ ff (rhQ z (I x)) (nH z) = some a := by
  have hh := W.h.2
  have inj : ∀ i j, i < nH z → j < nH z → rN z i = rN z j → i = j := fun i j hi hj h => by
    refine Decidable.byContradiction fun hne => ?_
    rcases ah_tot W B hi hj hne with h1 | h1
    · have := rN_lt W B hi hj hne h1
      omega
    · have := rN_lt W B hj hi (fun hc => hne hc.symm) h1
      omega
  obtain ⟨i, i1, i2⟩ := pigeon (f := rN z) (fun i hi => rN_b i hi) inj x hx
  cases hf : ff (rhQ z (I x)) (nH z) with
  | none =>
    have := ff_none hf i i1
    unfold rhQ at this
    rw [rhS_I, i2] at this
    exact absurd rfl (of_decide_eq_false this)
  | some a =>
    obtain ⟨a1, a2, -⟩ := ff_some hf
    have a3 : rhS z a = I x := of_decide_eq_true a2
    rw [rhS_I] at a3
    have := rN_b a a1
    exact ⟨a, a1, (I_eq (by omega) (by omega)).mp a3, rfl⟩
theorem rank_no (W : Ws z) : ff (rhQ z (I (nH z))) (nH z) = none := by
  have hh := W.h.2
  cases hf : ff (rhQ z (I (nH z))) (nH z) with
  | none => rfl
  | some a =>
    obtain ⟨a1, a2, -⟩ := ff_some hf
    have a3 : rhS z a = I (nH z) := of_decide_eq_true a2
    rw [rhS_I] at a3
    have := rN_b a a1
    have := (I_eq (by omega) (by omega)).mp a3
    omega
theorem rank_ord (W : Ws z) (B : Bd z) {a b x : Nat} (ha : a < nH z) (hb : b < nH z) (h1 : rN z a = x) (h2 : rN z b = x + 1) : ahB z a b = true := by
  have hne : a ≠ b := fun hc => by rw [hc] at h1; omega
  rcases ah_tot W B ha hb hne with h | h
  · exact h
  · have := rN_lt W B hb ha (fun hc => hne hc.symm) h
    omega
end Ranks
