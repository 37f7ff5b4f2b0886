/-! the reference's methods, said over its array of 149 numbers -/
def ffa (p : Nat → Bool) : Nat → Nat → Option Nat
  | _, 0 => none
  | i, k + 1 => if p i then some i else ffa p (i + 1) k
def ff (p : Nat → Bool) (n : Nat) : Option Nat := ffa p 0 n
theorem ffa_some {p : Nat → Bool} : ∀ {k i j : Nat}, ffa p i k = some j → i ≤ j ∧ j < i + k ∧ p j = true ∧ ∀ x, i ≤ x → x < j → p x = false := by
  intro k
  induction k with
  | zero => intro i j h; cases h
  | succ k ih =>
    intro i j h
    rw [ffa] at h
    by_cases hp : p i = true
    · rw [if_pos hp] at h
      cases h
      exact ⟨Nat.le_refl _, by omega, hp, fun x h1 h2 => by omega⟩
    · rw [if_neg hp] at h
      obtain ⟨h1, h2, h3, h4⟩ := ih h
      refine ⟨by omega, by omega, h3, fun x hx1 hx2 => ?_⟩
      by_cases hx : x = i
      · subst hx
        simpa using hp
      · exact h4 x (by omega) hx2
theorem ffa_none {p : Nat → Bool} : ∀ {k i : Nat}, ffa p i k = none → ∀ x, i ≤ x → x < i + k → p x = false := by
  intro k
  induction k with
  | zero => intro i h x h1 h2; omega
  | succ k ih =>
    intro i h x h1 h2
    rw [ffa] at h
    by_cases hp : p i = true
    · rw [if_pos hp] at h
      cases h
    · rw [if_neg hp] at h
      by_cases hx : x = i
      · subst hx
        simpa using hp
      · exact ih h x (by omega) (by omega)
theorem ff_some {p : Nat → Bool} {n j : Nat} (h : ff p n = some j) : j < n ∧ p j = true ∧ ∀ x, x < j → p x = false := by
  obtain ⟨-, h2, h3, h4⟩ := ffa_some h
  exact ⟨by omega, h3, fun x hx => h4 x (Nat.zero_le _) hx⟩
theorem ff_none {p : Nat → Bool} {n : Nat} (h : ff p n = none) : ∀ x, x < n → p x = false := fun x hx => ffa_none h x (Nat.zero_le _) (by omega)
theorem loop_find {τ : Type} {body : Int32 → AH → Option ((Int32 ⊕ τ) × AH)} {n fuel : Nat} (p : Nat → Bool) (y : Nat → τ) {z : τ} {g : AH} (hs : ∀ i, i < n → p i = false → body (I i) g = some (.inl (I (i + 1)), g)) (hy : ∀ i, i < n → p i = true → body (I i) g = some (.inr (y i), g)) (he : body (I n) g = some (.inr z, g)) (hf : n < fuel) :
    loopX body fuel 0 g = some ((match ff p n with | some k => y k | none => z), g) := by
  have H : ∀ k i : Nat, i + k = n → ∀ f : Nat, k < f → loopX body f (I i) g = some ((match ffa p i k with | some k => y k | none => z), g) := by
    intro k
    induction k with
    | zero =>
      intro i hi f hf
      match f, hf with
      | f + 1, _ =>
        have e : i = n := by omega
        subst e
        rw [loopX, he]
        rfl
    | succ k ih =>
      intro i hi f hf
      match f, hf with
      | f + 1, hf =>
        rw [loopX, ffa]
        by_cases hp : p i = true
        · rw [hy i (by omega) hp, if_pos hp]
        · rw [hs i (by omega) (by simpa using hp), if_neg hp]
          exact ih (i + 1) (by omega) f (by omega)
  exact H n 0 (by omega) fuel hf
/-- a sum over the first n -/
def sm (f : Nat → Int32) : Nat → Int32
  | 0 => 0
  | n + 1 => sm f n + f n
def bI (b : Bool) : Int32 := if b then 1 else 0
theorem bz_bI (b : Bool) : bz (bI b) := by
  cases b
  · exact Or.inl rfl
  · exact Or.inr rfl
theorem bI_z (b : Bool) : bI b = 0 ↔ b = false := by
  cases b <;> decide
def bt (a b c : Int32) : Bool := !decide (a < b) && !decide (c < a)
abbrev St : Type := Nat → Int32
def nH (st : St) : Nat := (st 12).toNatClampNeg
def nB (st : St) : Nat := (st 9).toNatClampNeg
def nL (st : St) : Nat := (st 10).toNatClampNeg
def nF (st : St) : Nat := (st 11).toNatClampNeg
def nT (st : St) : Nat := (st 3).toNatClampNeg
/-- what the array holds at all times -/
def Ws (st : St) : Prop := (0 ≤ st 12 ∧ nH st ≤ 10) ∧ (0 ≤ st 9 ∧ nB st ≤ 12) ∧ (0 ≤ st 10 ∧ nL st ≤ 12) ∧ (0 ≤ st 11 ∧ 1 ≤ nF st ∧ nF st ≤ 12) ∧ (0 ≤ st 3 ∧ nT st ≤ 20000) ∧ (∀ k, k < 10 → st (49 + 10 * k + 4) = -1 ∨ ∃ b, b < nB st ∧ st (49 + 10 * k + 4) = I b) ∧ ∀ k, k < 10 → st (49 + 10 * k + 5) = -1 ∨ ∃ b, b < 12 ∧ (k < nH st → b < nL st) ∧ st (49 + 10 * k + 5) = I b
section RefA
variable {g : AH} {m : Nat} {r : RS} {st : St}
theorem Ws.h (w : Ws st) : st 12 = I (nH st) ∧ nH st ≤ 10 := ⟨(Int32.ofNat_toNatClampNeg _ w.1.1).symm, w.1.2⟩
theorem Ws.b (w : Ws st) : st 9 = I (nB st) ∧ nB st ≤ 12 := ⟨(Int32.ofNat_toNatClampNeg _ w.2.1.1).symm, w.2.1.2⟩
theorem Ws.l (w : Ws st) : st 10 = I (nL st) ∧ nL st ≤ 12 := ⟨(Int32.ofNat_toNatClampNeg _ w.2.2.1.1).symm, w.2.2.1.2⟩
theorem Ws.f (w : Ws st) : st 11 = I (nF st) ∧ 1 ≤ nF st ∧ nF st ≤ 12 := ⟨(Int32.ofNat_toNatClampNeg _ w.2.2.2.1.1).symm, w.2.2.2.1.2⟩
theorem Ws.t (w : Ws st) : st 3 = I (nT st) ∧ nT st ≤ 20000 := ⟨(Int32.ofNat_toNatClampNeg _ w.2.2.2.2.1.1).symm, w.2.2.2.2.1.2⟩
theorem idx3 (k f : Nat) : (49 + 10 * I k : Int32) + I f = I (49 + 10 * k + f) := by
  rw [← I_add, ← I_add, ← I_mul]
  rfl
theorem R_s {k : Nat} {x : Int32} (hx : x = I k) (hk : k < 149) : aldI 0 (putR g m r) (m + 1) x = some (r.2 1 k) := by
  rw [hx]
  exact R_aldN (by decide) (by decide) rfl hk
def RS_st (r : RS) (k : Nat) (x : Int32) : RS := RS_setA r 1 (upd (r.2 1) k x)
def isH (st : St) (v : Int32) : Bool := bt v 0 (st 12 - 1)
def isB (st : St) (v : Int32) : Bool := bt v 0 (st 9 - 1)
def isL (st : St) (v : Int32) : Bool := bt v 0 (st 10 - 1)
/-- the hiker with a number in a field -/
def hwp (st : St) (f : Nat) (x : Int32) (k : Nat) : Bool := decide (st (49 + 10 * k + f) = x)
def hw (st : St) (f : Nat) (x : Int32) : Int32 := match ff (hwp st f x) (nH st) with
  | some k => I k
  | none => -1
end RefA


