/-! the fewest cold -/
def lkN (st : St) (i : Nat) : Nat := kN (hk st i 0) - kN (wB st i)
def thN (st : St) (b : Nat) : Nat := kN (st (25 + b))
def lkA (st : St) (t : Nat) : Nat := sN (fun i => b1 (decide (1 ≤ lkN st i) && decide (lkN st i ≤ t))) (nH st)
def thB (st : St) (t : Nat) : Nat := sN (fun b => b1 (decide (thN st b = t))) (nL st)
def svF (a B : Nat → Nat) : Nat → Nat
  | 0 => 0
  | t + 1 => if svF a B t + B (t + 1) ≤ a (t + 1) then svF a B t + B (t + 1) else a (t + 1)
def gvC (st : St) (G : Nat → Bool) (t : Nat) : Nat := sN (fun b => b1 (G b && decide (thN st b ≤ t))) (nL st)
def thC (st : St) (t : Nat) : Nat := sN (fun b => b1 (decide (thN st b ≤ t))) (nL st)
def tnS (st : St) (G : Nat → Bool) (l : Nat) : Nat → Option Nat
  | 0 => none
  | n + 1 => if (!G n && decide (l ≤ thN st n)) = true then (match tnS st G l n with
    | none => some n
    | some b => if thN st n < thN st b then some n else some b) else tnS st G l n
theorem tnS_some {st : St} {G : Nat → Bool} {l : Nat} : ∀ n b, tnS st G l n = some b → b < n ∧ G b = false ∧ l ≤ thN st b ∧ ∀ x, x < n → G x = false → l ≤ thN st x → thN st b ≤ thN st x := by
  intro n
  induction n with
  | zero => intro b h; cases h
  | succ n ih =>
    intro b h
    rw [tnS] at h
    by_cases h1 : (!G n && decide (l ≤ thN st n)) = true
    · rw [if_pos h1] at h
      rw [Bool.and_eq_true, Bool.not_eq_true'] at h1
      have h1b := of_decide_eq_true h1.2
      cases h2 : tnS st G l n with
      | none =>
        rw [h2] at h
        cases h
        refine ⟨by omega, h1.1, h1b, fun x hx hg hl => ?_⟩
        by_cases hxn : x = n
        · rw [hxn]; exact Nat.le_refl _
        · exfalso
          have : ∀ n, tnS st G l n = none → ∀ x, x < n → G x = false → ¬ l ≤ thN st x := by
            intro n
            induction n with
            | zero => intro _ x hx; omega
            | succ n ih =>
              intro h x hx hg hl
              rw [tnS] at h
              split at h
              · cases hq : tnS st G l n with
                | none => rw [hq] at h; cases h
                | some c =>
                  rw [hq] at h
                  dsimp only at h
                  split at h <;> cases h
              · rename_i hn
                by_cases hxn : x = n
                · rw [hxn] at hg hl
                  exact hn (by rw [hg]; simpa using hl)
                · exact ih h x (by omega) hg hl
          exact this n h2 x (by omega) hg hl
      | some c =>
        rw [h2] at h
        dsimp only at h
        obtain ⟨c1, c2, c3, c4⟩ := ih c h2
        by_cases h3 : thN st n < thN st c
        · rw [if_pos h3] at h
          cases h
          refine ⟨by omega, h1.1, h1b, fun x hx hg hl => ?_⟩
          by_cases hxn : x = n
          · rw [hxn]; exact Nat.le_refl _
          · have := c4 x (by omega) hg hl; omega
        · rw [if_neg h3] at h
          cases h
          refine ⟨by omega, c2, c3, fun x hx hg hl => ?_⟩
          by_cases hxn : x = n
          · rw [hxn]; omega
          · exact c4 x (by omega) hg hl
    · rw [if_neg h1] at h
      obtain ⟨c1, c2, c3, c4⟩ := ih b h
      refine ⟨by omega, c2, c3, fun x hx hg hl => ?_⟩
      by_cases hxn : x = n
      · rw [hxn] at hg hl
        exact absurd (by rw [hg]; simpa using hl) h1
      · exact c4 x (by omega) hg hl
theorem tnS_none {st : St} {G : Nat → Bool} {l : Nat} : ∀ n, tnS st G l n = none → ∀ x, x < n → G x = false → ¬ l ≤ thN st x := by
  intro n
  induction n with
  | zero => intro _ x hx; omega
  | succ n ih =>
    intro h x hx hg hl
    rw [tnS] at h
    split at h
    · cases hq : tnS st G l n with
      | none => rw [hq] at h; cases h
      | some c =>
        rw [hq] at h
        dsimp only at h
        split at h <;> cases h
    · rename_i hn
      by_cases hxn : x = n
      · rw [hxn] at hg hl
        exact hn (by rw [hg]; simpa using hl)
      · exact ih h x (by omega) hg hl
theorem thC_succ (st : St) (t : Nat) : thC st (t + 1) = thC st t + thB st (t + 1) := by
  unfold thC thB
  rw [← sN_add]
  refine sN_congr _ fun b _ => ?_
  unfold b1
  by_cases h1 : thN st b ≤ t
  · simp [h1, show thN st b ≤ t + 1 by omega, show ¬ thN st b = t + 1 by omega]
  · by_cases h2 : thN st b = t + 1
    · simp [h2]
    · simp [h1, h2, show ¬ thN st b ≤ t + 1 by omega]
def thG (st : St) (G : Nat → Bool) (t : Nat) : Nat := sN (fun b => b1 (G b && decide (thN st b = t))) (nL st)
theorem gvC_succ (st : St) (G : Nat → Bool) (t : Nat) : gvC st G (t + 1) = gvC st G t + thG st G (t + 1) := by
  unfold gvC thG
  rw [← sN_add]
  refine sN_congr _ fun b _ => ?_
  unfold b1
  cases G b with
  | false => rfl
  | true =>
    by_cases h1 : thN st b ≤ t
    · simp [h1, show thN st b ≤ t + 1 by omega, show ¬ thN st b = t + 1 by omega]
    · by_cases h2 : thN st b = t + 1
      · simp [h2]
      · simp [h1, h2, show ¬ thN st b ≤ t + 1 by omega]
theorem thG_all {st : St} {G : Nat → Bool} {t : Nat} (h : ∀ x, x < nL st → thN st x = t → G x = true) : thG st G t = thB st t := by
  unfold thG thB
  refine sN_congr _ fun b hb => ?_
  by_cases h1 : thN st b = t
  · rw [h b hb h1]; rfl
  · simp [h1]
theorem thG_lt {st : St} {G : Nat → Bool} {t b : Nat} (hb : b < nL st) (hg : G b = false) (ht : thN st b = t) : thG st G t + 1 ≤ thB st t := by
  have h1 := sN_chg (f := fun x => b1 ((if x = b then true else G x) && decide (thN st x = t))) (g := fun x => b1 (G x && decide (thN st x = t))) (nL st) hb (fun x _ hx => by rw [if_neg hx])
  try dsimp only at h1
  rw [if_pos rfl, hg, ht] at h1
  have h2 : sN (fun x => b1 ((if x = b then true else G x) && decide (thN st x = t))) (nL st) ≤ thB st t := by
    unfold thB
    have : ∀ n, sN (fun x => b1 ((if x = b then true else G x) && decide (thN st x = t))) n ≤ sN (fun x => b1 (decide (thN st x = t))) n := by
      intro n
      induction n with
      | zero => exact Nat.le_refl _
      | succ n ih =>
        rw [sN, sN]
        have : b1 ((if n = b then true else G n) && decide (thN st n = t)) ≤ b1 (decide (thN st n = t)) := by
          cases (if n = b then true else G n) <;> simp [b1]
        omega
    exact this _
  unfold thG
  have e1 : b1 (true && decide (t = t)) = 1 := by simp [b1]
  have e0 : b1 (false && decide (t = t)) = 0 := rfl
  rw [e1, e0] at h1
  omega
theorem gvC_0 {st : St} (G : Nat → Bool) (h1 : ∀ b, b < nL st → 1 ≤ thN st b) : gvC st G 0 = 0 := by
  refine sN_zero _ fun b hb => ?_
  have := h1 b hb
  cases G b <;> simp [b1, show ¬ thN st b = 0 by omega]
def gvN (G : Nat → Bool) (b : Nat) : Nat → Bool := fun x => if x = b then true else G x
theorem gvC_new {st : St} {G : Nat → Bool} {b : Nat} (hb : b < nL st) (hg : G b = false) (t : Nat) : gvC st (gvN G b) t = gvC st G t + (if thN st b ≤ t then 1 else 0) := by
  unfold gvC
  have h1 := sN_chg (f := fun x => b1 (gvN G b x && decide (thN st x ≤ t))) (g := fun x => b1 (G x && decide (thN st x ≤ t))) (nL st) hb (fun x _ hx => by
    try dsimp only
    rw [show gvN G b x = G x from if_neg hx])
  try dsimp only at h1
  rw [show gvN G b b = true from if_pos rfl, hg] at h1
  by_cases h2 : thN st b ≤ t
  · simp [h2, b1] at h1 ⊢; omega
  · simp [h2, b1] at h1 ⊢; omega
/-- one more hiker, who lacks l -/
theorem few_step {st : St} {G : Nat → Bool} {a : Nat → Nat} {l : Nat} (h1 : ∀ b, b < nL st → 1 ≤ thN st b) (hl : 1 ≤ l) (hI : ∀ t, gvC st G t = svF a (thB st) t) :
    ∀ t, gvC st (match tnS st G l (nL st) with | some b => gvN G b | none => G) t = svF (fun t => a t + if l ≤ t then 1 else 0) (thB st) t := by
  cases hn : tnS st G l (nL st) with
  | none =>
    have hall := tnS_none _ hn
    dsimp only
    intro t
    induction t with
    | zero => rw [gvC_0 G h1]; rfl
    | succ t ih =>
      rw [svF, ← ih]
      have h2 := hI (t + 1)
      rw [svF, ← hI t] at h2
      by_cases hlt : l ≤ t + 1
      · have e := thG_all (st := st) (G := G) (t := t + 1) (fun x hx ht => by
          cases hg : G x with
          | true => rfl
          | false => exact absurd (by omega) (hall x hx hg))
        have h3 := gvC_succ st G (t + 1 - 1)
        rw [show t + 1 - 1 = t by omega, e] at h3
        rw [if_pos hlt]
        split at h2 <;> split <;> omega
      · rw [if_neg hlt]
        split at h2 <;> split <;> omega
  | some b =>
    obtain ⟨b1', b2, b3, b4⟩ := tnS_some _ _ hn
    dsimp only
    intro t
    induction t with
    | zero => rw [gvC_0 _ h1]; rfl
    | succ t ih =>
      rw [svF, ← ih, gvC_new b1' b2, gvC_new b1' b2]
      have h2 := hI (t + 1)
      rw [svF, ← hI t] at h2
      have h3 := gvC_succ st G t
      by_cases hlt : l ≤ t + 1
      · rw [if_pos hlt]
        by_cases hb : thN st b ≤ t
        · rw [if_pos (show thN st b ≤ t + 1 by omega), if_pos hb]
          split at h2 <;> split <;> omega
        · rw [if_neg hb]
          by_cases hb2 : thN st b = t + 1
          · have h4 := thG_lt (st := st) (G := G) b1' b2 hb2
            rw [if_pos (show thN st b ≤ t + 1 by omega)]
            split at h2 <;> split <;> omega
          · rw [if_neg (show ¬ thN st b ≤ t + 1 by omega)]
            have e := thG_all (st := st) (G := G) (t := t + 1) (fun x hx ht => by
              cases hg : G x with
              | true => rfl
              | false => have := b4 x hx hg (by omega); omega)
            rw [e] at h3
            split at h2 <;> split <;> omega
      · rw [if_neg hlt, if_neg (show ¬ thN st b ≤ t + 1 by omega), if_neg (show ¬ thN st b ≤ t by omega)]
        split at h2 <;> split <;> omega
/-- of the hikers who lack something, those who were served so far: all who lack less than l, and of those who lack l the first n -/
def doneA (st : St) (l n t : Nat) : Nat := sN (fun i => b1 (decide (1 ≤ lkN st i) && (decide (lkN st i < l) || (decide (lkN st i = l) && decide (i < n))) && decide (lkN st i ≤ t))) (nH st)
theorem doneA_step {st : St} {l n : Nat} (hl : 1 ≤ l) (hn : n < nH st) (t : Nat) : doneA st l (n + 1) t = doneA st l n t + if lkN st n = l then (if l ≤ t then 1 else 0) else 0 := by
  unfold doneA
  have h1 := sN_chg (f := fun i => b1 (decide (1 ≤ lkN st i) && (decide (lkN st i < l) || (decide (lkN st i = l) && decide (i < n + 1))) && decide (lkN st i ≤ t))) (g := fun i => b1 (decide (1 ≤ lkN st i) && (decide (lkN st i < l) || (decide (lkN st i = l) && decide (i < n))) && decide (lkN st i ≤ t))) (nH st) hn (fun x _ hx => by
    try dsimp only
    rw [show decide (x < n + 1) = decide (x < n) by rw [decide_eq_decide]; omega])
  try dsimp only at h1
  by_cases h2 : lkN st n = l
  · rw [if_pos h2]
    rw [h2] at h1
    by_cases h3 : l ≤ t
    · simp [h3, b1, hl] at h1 ⊢; omega
    · simp [h3, b1, hl] at h1 ⊢; omega
  · rw [if_neg h2]
    simp [h2] at h1 ⊢
    omega
theorem doneA_next (st : St) (l t : Nat) : doneA st l (nH st) t = doneA st (l + 1) 0 t := by
  unfold doneA
  refine sN_congr _ fun i hi => ?_
  congr 1
  have : (decide (lkN st i < l) || (decide (lkN st i = l) && decide (i < nH st))) = (decide (lkN st i < l + 1) || (decide (lkN st i = l + 1) && decide (i < 0))) := by
    simp only [hi, decide_true, Bool.and_true, Nat.not_lt_zero, decide_false, Bool.and_false, Bool.or_false]
    by_cases h1 : lkN st i < l
    · simp [h1, show lkN st i < l + 1 by omega]
    · by_cases h2 : lkN st i = l
      · simp [h2]
      · simp [h1, h2, show ¬ lkN st i < l + 1 by omega]
  rw [this]
theorem doneA_start (st : St) (t : Nat) : doneA st 1 0 t = 0 := by
  refine sN_zero _ fun i _ => ?_
  by_cases h1 : 1 ≤ lkN st i
  · simp [b1, show ¬ lkN st i = 0 by omega]
  · simp [h1, b1]
theorem doneA_end {st : St} (h : ∀ i, i < nH st → lkN st i ≤ 30) (t : Nat) : doneA st 31 0 t = lkA st t := by
  unfold doneA lkA
  refine sN_congr _ fun i hi => ?_
  have := h i hi
  simp [show lkN st i < 31 by omega]
