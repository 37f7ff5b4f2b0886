/-! the reference: warmth, noise, what a hiker does -/
theorem loop_sum {body : Int32 × Int32 → AH → Option (((Int32 × Int32) ⊕ Int32) × AH)} {n fuel : Nat} (f : Nat → Int32) {g : AH} (hs : ∀ i, i < n → ∀ a, body (a, I i) g = some (.inl (a + f i, I (i + 1)), g)) (he : ∀ a, body (a, I n) g = some (.inr a, g)) (hf : n < fuel) : loopX body fuel (0, 0) g = some (sm f n, g) :=
  loop_up (fun i => (sm f i, I i)) (fun _ => g) (fun i hi => hs i hi _) (he _) hf
abbrev kN (v : Int32) : Nat := v.toNatClampNeg
def hk (st : St) (k f : Nat) : Int32 := st (49 + 10 * k + f)
def inB (st : St) (b : Int32) : Int32 := if isB st b = true then hw st 4 b else -1
def ins (st : St) : Int32 := st (37 + nT st % nF st) + st 2
def thk (st : St) (k : Nat) : Int32 := if hk st k 5 = -1 then 0 else st (25 + kN (hk st k 5))
def near (st : St) (b : Int32) : Int32 := if inB st b = -1 then 0 else 1
def wB (st : St) (k : Nat) : Int32 := if hk st k 4 = -1 then ins st else (ins st + st (13 + kN (hk st k 4))) + (near st (hk st k 4 - 1) + near st (hk st k 4 + 1))
def wN (st : St) (k : Nat) : Int32 := wB st k + thk st k
def cold (st : St) (k : Nat) : Bool := !decide (hk st k 0 ≤ wN st k)
def sn (st : St) (b : Int32) : Int32 := if inB st b = -1 then 0 else if cold st (kN (inB st b)) = true then 0 else hk st (kN (inB st b)) 1
def noi (st : St) (b : Int32) : Int32 := (sn st (b - 1) + sn st (b + 1)) + (sn st (b - 2) + sn st (b + 2)) / 2
def deed (st : St) (k : Nat) : Int32 := if cold st k = true then 0 else if hk st k 4 = -1 then 3 else if noi st (hk st k 4) ≤ 6 then 2 else 1
def cntD (st : St) (d : Int32) : Int32 := sm (fun i => if deed st i = d then 1 else 0) (nH st)
def sumF (st : St) (f : Nat) : Int32 := sm (fun i => hk st i f) (nH st)
def cntW (st : St) : Int32 := sm (fun i => if hk st i 5 = -1 then 1 else 0) (nH st)
section RefB
variable {g : AH} {m : Nat} {r : RS} {st : St}
theorem hw_cases (f : Nat) (x : Int32) : hw st f x = -1 ∨ ∃ k, k < nH st ∧ hw st f x = I k ∧ st (49 + 10 * k + f) = x := by
  unfold hw
  cases h : ff (hwp st f x) (nH st) with
  | none => exact Or.inl rfl
  | some k =>
    obtain ⟨h1, h2, -⟩ := ff_some h
    exact Or.inr ⟨k, h1, rfl, by simpa [hwp] using h2⟩
theorem inB_cases (w : Ws st) (b : Int32) : inB st b = -1 ∨ ∃ k, k < nH st ∧ inB st b = I k ∧ kN (inB st b) = k ∧ hk st k 4 = b := by
  unfold inB
  by_cases h : isB st b = true
  · rw [if_pos h]
    rcases hw_cases (st := st) 4 b with h1 | ⟨k, h1, h2, h3⟩
    · exact Or.inl h1
    · exact Or.inr ⟨k, h1, h2, by rw [h2]; exact I_nat (by have := w.h.2; omega), h3⟩
  · rw [if_neg h]
    exact Or.inl rfl
theorem Ws.bunk (w : Ws st) {k : Nat} (hk0 : k < 10) (h : ¬ hk st k 4 = -1) : ∃ b, b < 12 ∧ b < nB st ∧ hk st k 4 = I b ∧ kN (hk st k 4) = b := by
  rcases w.2.2.2.2.2.1 k hk0 with h1 | ⟨b, h1, h2⟩
  · exact absurd h1 h
  · have := w.b.2
    exact ⟨b, by omega, h1, h2, by show kN (st _) = b; rw [h2]; exact I_nat (by omega)⟩
theorem Ws.blan (w : Ws st) {k : Nat} (hk0 : k < 10) (h : ¬ hk st k 5 = -1) : ∃ b, b < 12 ∧ (k < nH st → b < nL st) ∧ hk st k 5 = I b ∧ kN (hk st k 5) = b := by
  rcases w.2.2.2.2.2.2 k hk0 with h1 | ⟨b, h0, h1, h2⟩
  · exact absurd h1 h
  · exact ⟨b, h0, h1, h2, by show kN (st _) = b; rw [h2]; exact I_nat (by omega)⟩
theorem Ws.bl (w : Ws st) {k : Nat} (hk1 : k < nH st) : hk st k 5 = -1 ∨ ∃ b, b < nL st ∧ hk st k 5 = I b := by
  have hh := w.h.2
  rcases w.2.2.2.2.2.2 k (by omega) with h1 | ⟨b, h0, h1, h2⟩
  · exact Or.inl h1
  · exact Or.inr ⟨b, h1 hk1, h2⟩
theorem mod_I {a b : Nat} (ha : a < 2 ^ 31) (hb : b < 2 ^ 31) (h0 : 0 < b) : I a - I a / I b * I b = I (a % b) := by
  rw [show I a / I b = I (a / b) from (Int32.ofNat_div ha hb).symm, I_mul, I_sub (Nat.div_mul_le_self a b)]
  congr 1
  have := Nat.div_add_mod a b
  rw [Nat.mul_comm] at this
  omega
theorem s_head (w : Ws (r.2 1)) {α : Type} (i : Nat) (hi : i < nH (r.2 1)) (A B : Option (α × AH)) : (if r.2 1 12 ≤ I i then A else B) = B := by
  have h2 := w.h.2
  rw [if_neg]
  rw [w.h.1, I_le (by omega) (by omega)]
  omega
theorem s_tail (w : Ws (r.2 1)) {α : Type} (A B : Option (α × AH)) : (if r.2 1 12 ≤ I (nH (r.2 1)) then A else B) = A := by
  have h2 := w.h.2
  rw [if_pos]
  rw [w.h.1, I_le (by omega) (by omega)]
  omega
end RefB


