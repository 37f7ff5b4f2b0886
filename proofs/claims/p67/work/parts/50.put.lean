/-! THE PURE SIDE. Blocks of cells, loops, small numbers. -/
def put (g : AH) (p L : Nat) (b : Nat → hE) : AH := (fun q => if p ≤ q ∧ q < p + L then some (b (q - p)) else g.1 q, g.2)
theorem put_in {g : AH} {p L d : Nat} {b : Nat → hE} (h : d < L) : (put g p L b).1 (p + d) = some (b d) := by
  show (if p ≤ p + d ∧ p + d < p + L then some (b (p + d - p)) else g.1 (p + d)) = _
  rw [if_pos ⟨by omega, by omega⟩, Nat.add_sub_cancel_left]
theorem put_in0 {g : AH} {p L : Nat} {b : Nat → hE} (h : 0 < L) : (put g p L b).1 p = some (b 0) := put_in (d := 0) h
theorem put_out {g : AH} {p L q : Nat} {b : Nat → hE} (h : q < p ∨ p + L ≤ q) : (put g p L b).1 q = g.1 q := by
  show (if p ≤ q ∧ q < p + L then some (b (q - p)) else g.1 q) = _
  rw [if_neg (by omega)]
theorem put_put {g : AH} {p L : Nat} {b c : Nat → hE} : put (put g p L b) p L c = put g p L c := by
  refine Prod.ext (funext fun q => ?_) rfl
  show (if p ≤ q ∧ q < p + L then some (c (q - p)) else if p ≤ q ∧ q < p + L then some (b (q - p)) else g.1 q) = if p ≤ q ∧ q < p + L then some (c (q - p)) else g.1 q
  by_cases h : p ≤ q ∧ q < p + L
  · rw [if_pos h, if_pos h]
  · rw [if_neg h, if_neg h, if_neg h]
theorem put_comm {g : AH} {p q L K : Nat} {b c : Nat → hE} (h : p + L ≤ q ∨ q + K ≤ p) : put (put g p L b) q K c = put (put g q K c) p L b := by
  refine Prod.ext (funext fun x => ?_) rfl
  show (if q ≤ x ∧ x < q + K then some (c (x - q)) else if p ≤ x ∧ x < p + L then some (b (x - p)) else g.1 x) = if p ≤ x ∧ x < p + L then some (b (x - p)) else if q ≤ x ∧ x < q + K then some (c (x - q)) else g.1 x
  by_cases h1 : p ≤ x ∧ x < p + L
  · rw [if_pos h1, if_pos h1, if_neg (by omega)]
  · rw [if_neg h1, if_neg h1]
theorem hset_put {g : AH} {p L d : Nat} {b : Nat → hE} {e : hE} (h : d < L) : hset (put g p L b) (p + d) e = put g p L (fun j => if j = d then e else b j) := by
  refine Prod.ext (funext fun x => ?_) rfl
  show (if x = p + d then some e else if p ≤ x ∧ x < p + L then some (b (x - p)) else g.1 x) = if p ≤ x ∧ x < p + L then some (if x - p = d then e else b (x - p)) else g.1 x
  by_cases h1 : x = p + d
  · subst h1
    rw [if_pos rfl, if_pos ⟨by omega, by omega⟩, if_pos (by omega)]
  · rw [if_neg h1]
    by_cases h2 : p ≤ x ∧ x < p + L
    · rw [if_pos h2, if_pos h2, if_neg (by omega)]
    · rw [if_neg h2, if_neg h2]
theorem put_congr {g : AH} {p L : Nat} {b c : Nat → hE} (h : ∀ d, d < L → b d = c d) : put g p L b = put g p L c := by
  refine Prod.ext (funext fun x => ?_) rfl
  show (if p ≤ x ∧ x < p + L then some (b (x - p)) else g.1 x) = if p ≤ x ∧ x < p + L then some (c (x - p)) else g.1 x
  by_cases h2 : p ≤ x ∧ x < p + L
  · rw [if_pos h2, if_pos h2, h _ (by omega)]
  · rw [if_neg h2, if_neg h2]
/-- a loop that counts -/
theorem loop_up {σ τ : Type} {body : σ → AH → Option ((σ ⊕ τ) × AH)} {n fuel : Nat} (s : Nat → σ) (g : Nat → AH) {t : τ} {g1 : AH} (hs : ∀ i, i < n → body (s i) (g i) = some (.inl (s (i + 1)), g (i + 1))) (he : body (s n) (g n) = some (.inr t, g1)) (hf : n < fuel) : loopX body fuel (s 0) (g 0) = some (t, g1) := by
  have H : ∀ k i : Nat, i + k = n → ∀ f : Nat, k < f → loopX body f (s i) (g i) = some (t, g1) := by
    intro k
    induction k with
    | zero =>
      intro i hi f hf
      match f, hf with
      | f + 1, _ =>
        have e : i = n := by omega
        subst e
        rw [loopX, he]
    | succ k ih =>
      intro i hi f hf
      match f, hf with
      | f + 1, hf =>
        rw [loopX, hs i (by omega)]
        exact ih (i + 1) (by omega) f (by omega)
  exact H n 0 (by omega) fuel hf
abbrev I (k : Nat) : Int32 := Int32.ofNat k
theorem I_add (a b : Nat) : I a + I b = I (a + b) := (Int32.ofNat_add a b).symm
theorem I_mul (a b : Nat) : I a * I b = I (a * b) := (Int32.ofNat_mul a b).symm
theorem I_sub {a b : Nat} (h : b ≤ a) : I a - I b = I (a - b) := (Int32.ofNat_sub a b h).symm
theorem I_nat {a : Nat} (h : a < 2 ^ 31) : (I a).toNatClampNeg = a := Int32.toNatClampNeg_ofNat_of_lt h
theorem I_le {a b : Nat} (ha : a < 2 ^ 31) (hb : b < 2 ^ 31) : I a ≤ I b ↔ a ≤ b := Int32.ofNat_le_iff_le ha hb
theorem I_lt {a b : Nat} (ha : a < 2 ^ 31) (hb : b < 2 ^ 31) : I a < I b ↔ a < b := Int32.ofNat_lt_iff_lt ha hb
theorem I_eq {a b : Nat} (ha : a < 2 ^ 31) (hb : b < 2 ^ 31) : I a = I b ↔ a = b := ⟨fun h => by rw [← I_nat ha, ← I_nat hb, h], fun h => by rw [h]⟩
theorem I_out {a n : Nat} (ha : a < n) (hn : n < 2 ^ 31) : ¬ outI (I a) n := by
  intro h
  rcases h with h | h
  · exact absurd (Int32.zero_le_ofNat_of_lt (a := a) (by omega)) (Int32.not_le.mpr h)
  · rw [I_nat (by omega)] at h
    omega
theorem I_ne_neg {a : Nat} (ha : a < 2 ^ 31) : I a ≠ -1 := by
  intro h
  have h1 := Int32.zero_le_ofNat_of_lt ha
  rw [show Int32.ofNat a = -1 from h] at h1
  exact absurd h1 (by decide)
theorem I_succ (a : Nat) : I a + 1 = I (a + 1) := I_add a 1
theorem gb_s {α β : Type} (a : α) (f : α → Option β) : gb (some a) f = f a := rfl
theorem cb_s {α β : Type} (a : α) (g : AH) (f : α → AH → Option β) : cb (some (a, g)) f = f a g := rfl


