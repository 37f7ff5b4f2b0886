def onP (st : St) (b : Nat) : Bool := decide (hw st 5 (I b) = -1)
/-! counting: the pile, things used twice -/
def sN (f : Nat → Nat) : Nat → Nat
  | 0 => 0
  | n + 1 => sN f n + f n
def b1 (b : Bool) : Nat := if b then 1 else 0
theorem sN_congr {f g : Nat → Nat} : ∀ n, (∀ i, i < n → f i = g i) → sN f n = sN g n := by
  intro n
  induction n with
  | zero => intro _; rfl
  | succ n ih => intro h; rw [sN, sN, ih (fun i hi => h i (by omega)), h n (by omega)]
theorem sN_add {f g : Nat → Nat} : ∀ n, sN (fun i => f i + g i) n = sN f n + sN g n := by
  intro n
  induction n with
  | zero => rfl
  | succ n ih => rw [sN, sN, sN, ih]; omega
theorem sN_zero {f : Nat → Nat} : ∀ n, (∀ i, i < n → f i = 0) → sN f n = 0 := by
  intro n
  induction n with
  | zero => intro _; rfl
  | succ n ih => intro h; rw [sN, ih (fun i hi => h i (by omega)), h n (by omega)]
theorem sN_swap {e : Nat → Nat → Nat} (L : Nat) : ∀ H, sN (fun b => sN (fun k => e k b) H) L = sN (fun k => sN (fun b => e k b) L) H := by
  intro H
  induction H with
  | zero => exact sN_zero L fun i _ => rfl
  | succ H ih =>
    rw [sN, ← ih, ← sN_add]
    exact sN_congr L fun i _ => rfl
theorem sN_one {p : Nat → Bool} {j : Nat} : ∀ n, j < n → p j = true → (∀ i, i < n → p i = true → i = j) → sN (fun i => b1 (p i)) n = 1 := by
  intro n
  induction n with
  | zero => intro h; omega
  | succ n ih =>
    intro hj hp hu
    rw [sN]
    by_cases h : j = n
    · rw [sN_zero n (fun i hi => by
        cases hpi : p i with
        | false => rfl
        | true => have := hu i (by omega) hpi; omega), ← h, hp]
      rfl
    · rw [ih (by omega) hp (fun i hi => hu i (by omega))]
      cases hpn : p n with
      | false => rfl
      | true => have := hu n (by omega) hpn; omega
theorem sN_not {p : Nat → Bool} : ∀ n, sN (fun i => b1 (!p i)) n + sN (fun i => b1 (p i)) n = n := by
  intro n
  induction n with
  | zero => rfl
  | succ n ih =>
    rw [sN, sN]
    have : b1 (!p n) + b1 (p n) = 1 := by cases p n <;> rfl
    omega
theorem sN_le {p : Nat → Bool} : ∀ n, sN (fun i => b1 (p i)) n ≤ n := fun n => by have := sN_not (p := p) n; omega
theorem sm_N {p : Nat → Bool} : ∀ n, sm (fun i => if p i = true then 1 else 0) n = I (sN (fun i => b1 (p i)) n) := by
  intro n
  induction n with
  | zero => rfl
  | succ n ih =>
    rw [sm, sN, ih, ← I_add]
    cases p n <;> rfl
theorem sm_ite {p : Nat → Prop} [∀ i, Decidable (p i)] : ∀ n, sm (fun i => if p i then 1 else 0) n = I (sN (fun i => b1 (decide (p i))) n) := by
  intro n
  rw [← sm_N]
  exact sm_congr n fun i _ => by by_cases h : p i <;> simp [h]
theorem cntD_I (st : St) (d : Int32) : cntD st d = I (sN (fun i => b1 (decide (deed st i = d))) (nH st)) := sm_ite _
theorem cntD_b (st : St) (w : Ws st) (d : Int32) : B0 (cntD st d) 10 := by
  rw [cntD_I]
  refine ⟨_, ?_, rfl⟩
  have := sN_le (p := fun i => decide (deed st i = d)) (nH st)
  have := w.h.2
  omega
/-- blankets that are used are as many as hikers who use one -/
theorem used_eq {st : St} (w : Ws st) (u : Un st) : sN (fun b => b1 (!onP st b)) (nL st) = sN (fun k => b1 (!decide (hk st k 5 = -1))) (nH st) := by
  have hh := w.h.2
  have hl := w.l.2
  have e1 : ∀ b, b < nL st → b1 (!onP st b) = sN (fun k => b1 (decide (hk st k 5 = I b))) (nH st) := by
    intro b hb
    unfold onP
    rcases hw_cases (st := st) 5 (I b) with h1 | ⟨k, h1, h2, h3⟩
    · rw [h1]
      refine (sN_zero _ fun k hk0 => ?_).symm
      have := hw_no hh h1 k hk0
      simp [this, b1]
    · have hne : ¬ hw st 5 (I b) = -1 := by rw [h2]; exact I_ne_neg (by omega)
      have h3' : hk st k 5 = I b := h3
      rw [sN_one (p := fun k => decide (hk st k 5 = I b)) (j := k) (nH st) h1 (by simp [h3']) (fun i hi hi2 => by
        have hi3 : hk st i 5 = I b := of_decide_eq_true hi2
        by_cases hik : i = k
        · exact hik
        · exact absurd (hi3.trans h3'.symm) ((u i k hi h1 hik).2 (by rw [hi3]; exact I_ne_neg (by omega))))]
      simp [hne, b1]
  have e2 : ∀ k, k < nH st → b1 (!decide (hk st k 5 = -1)) = sN (fun b => b1 (decide (hk st k 5 = I b))) (nL st) := by
    intro k hk0
    by_cases h1 : hk st k 5 = -1
    · rw [sN_zero _ fun b hb => ?_]
      · simp [h1, b1]
      · have : ¬ hk st k 5 = I b := fun hc => I_ne_neg (a := b) (by omega) (hc.symm.trans h1)
        simp [this, b1]
    · obtain ⟨b, hb1, hb2, hb3, hb4⟩ := w.blan (by omega) h1
      rw [sN_one (p := fun b => decide (hk st k 5 = I b)) (j := b) (nL st) (hb2 hk0) (by simp [hb3]) (fun i hi hi2 => by
        have hi3 : hk st k 5 = I i := of_decide_eq_true hi2
        exact (I_eq (by omega) (by omega)).mp (hi3.symm.trans hb3))]
      simp [h1, b1]
  rw [sN_congr _ e1, sN_swap, sN_congr _ e2]
def pileN (st : St) : Int32 := sm (fun b => if onP st b = true then 1 else 0) (nL st)
theorem pile_eq {st : St} (w : Ws st) (u : Un st) : st 10 - (st 12 - cntW st) = pileN st := by
  have h1 := used_eq w u
  have h2 := sN_not (p := onP st) (nL st)
  have h3 := sN_not (p := fun k => decide (hk st k 5 = -1)) (nH st)
  have h4 : cntW st = I (sN (fun k => b1 (decide (hk st k 5 = -1))) (nH st)) := sm_ite _
  have hh := w.h.2
  have hl := w.l.2
  unfold pileN
  rw [h4, w.l.1, w.h.1, sm_N, I_sub (by omega), I_sub (by omega)]
  congr 1
  omega
section Cnt
variable {g : AH} {p m : Nat} {h : HS} {st : St} {r : RS}
theorem c_usedTwice (w : Ws st) (u : Un st) (R : Rel st h) : x3_thingsUsedTwice p (putH g p h) = some (0, putH g p h) := by
  have hh := w.h.2
  unfold x3_thingsUsedTwice
  have hin : ∀ i, i < nH st → loopX (x3_thingsUsedTwice_l16 p (I i)) 1000 (0, I i + 1) (putH g p h) = some (0, putH g p h) := by
    intro i hi
    have H := loop_up (body := x3_thingsUsedTwice_l16 p (I i)) (fuel := 1000) (n := nH st - (i + 1)) (fun k => ((0 : Int32), I (i + 1 + k))) (fun _ => putH g p h) (t := (0 : Int32)) (g1 := putH g p h) (fun k hk0 => by
      have hj : i + 1 + k < nH st := by omega
      have hu := u i (i + 1 + k) hi hj (by omega)
      have x1 : i < 10 := by omega
      have x2 : i + 1 + k < 10 := by omega
      have e64 : x3_thingsUsedTwice_j64_16 p (I i) (I (i + 1 + k)) 0 0 (putH g p h) = some (.inl (0, I (i + 1 + (k + 1))), putH g p h) := by
        unfold x3_thingsUsedTwice_j64_16 x3_thingsUsedTwice_j105_16 x3_thingsUsedTwice_j106_16
        repeat first | rw [gb_s] | rw [H_getR (d := 6) rfl (by decide) (by decide)] | rw [H_hik x1] | rw [H_hik x2] | rw [K_getI (k := 5) x1 (by decide)] | rw [K_getI (k := 5) x2 (by decide)]
        rw [R.2.2.1 i hi 5 (by decide), R.2.2.1 _ hj 5 (by decide), I_succ]
        by_cases h1 : hk st i 5 = -1
        · rw [if_pos h1]; rfl
        · rw [if_neg h1, if_neg (hu.2 h1)]; rfl
      unfold x3_thingsUsedTwice_l16 x3_thingsUsedTwice_j63_16
      dsimp only
      rw [H_getI (by decide), gb_s, c_lt w R hj]
      repeat first | rw [gb_s] | rw [H_getR (d := 6) rfl (by decide) (by decide)] | rw [H_hik x1] | rw [H_hik x2] | rw [K_getI (k := 4) x1 (by decide)] | rw [K_getI (k := 4) x2 (by decide)]
      rw [R.2.2.1 i hi 4 (by decide), R.2.2.1 _ hj 4 (by decide), e64]
      by_cases h1 : hk st i 4 = -1
      · rw [if_pos h1]
      · rw [if_neg h1, if_neg (hu.1 h1)]) (by
      unfold x3_thingsUsedTwice_l16
      dsimp only
      rw [H_getI (by decide), gb_s, show i + 1 + (nH st - (i + 1)) = nH st by omega, c_ge w R]) (by omega)
    rw [I_succ]
    exact H
  have H := loop_up (body := x3_thingsUsedTwice_l4 p) (fuel := 1000) (n := nH st) (fun i => ((0 : Int32), I i)) (fun _ => putH g p h) (t := (0 : Int32)) (g1 := putH g p h) (fun i hi => by
    unfold x3_thingsUsedTwice_l4
    dsimp only
    rw [H_getI (by decide), gb_s, c_lt w R hi, hin i hi, cb_s, I_succ]) (by
    unfold x3_thingsUsedTwice_l4
    dsimp only
    rw [H_getI (by decide), gb_s, c_ge w R]) (by omega)
  rw [show loopX (x3_thingsUsedTwice_l4 p) 1000 (0, 0) (putH g p h) = _ from H, cb_s]
end Cnt


