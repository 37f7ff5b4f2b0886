/-! what is written: bytes and numbers -/
def dgs : Nat → Nat → List Nat
  | 0, _ => []
  | n + 1, v => if v ≤ 9 then [48 + v] else dgs n (v / 10) ++ [48 + v % 10]
/-- the class's output holds these bytes -/
def OC (s : OS) (l : List Nat) : Prop := s.1 = I l.length ∧ ∀ i, i < l.length → s.2 i = I (l.getD i 0)
/-- the reference's output holds these bytes -/
def OR (r : RS) (l : List Nat) : Prop := r.1 20 = I l.length ∧ ∀ i, i < l.length → r.2 10 i &&& 255 = I (l.getD i 0)
/-- what writing changes of the reference -/
def Ro (r r1 : RS) : Prop := (∀ k, k ≠ 20 → r1.1 k = r.1 k) ∧ ∀ d, d ≠ 10 → r1.2 d = r.2 d
theorem Ro.refl {r : RS} : Ro r r := ⟨fun _ _ => rfl, fun _ _ => rfl⟩
theorem Ro.trans {r r1 r2 : RS} (h : Ro r r1) (h1 : Ro r1 r2) : Ro r r2 := ⟨fun k hk0 => (h1.1 k hk0).trans (h.1 k hk0), fun d hd => (h1.2 d hd).trans (h.2 d hd)⟩
theorem dgs_len : ∀ n v, (dgs n v).length ≤ n := by
  intro n
  induction n with
  | zero => intro v; exact Nat.le_refl _
  | succ n ih =>
    intro v
    rw [dgs]
    split
    · rw [List.length_singleton]; omega
    · rw [List.length_append, List.length_singleton]
      have := ih (v / 10)
      omega
theorem dgs_dig : ∀ n v b, b ∈ dgs n v → 48 ≤ b ∧ b ≤ 57 := by
  intro n
  induction n with
  | zero => intro v b hb; exact absurd hb (by rw [dgs]; simp)
  | succ n ih =>
    intro v b hb
    rw [dgs] at hb
    by_cases h : v ≤ 9
    · rw [if_pos h, List.mem_singleton] at hb
      omega
    · rw [if_neg h] at hb
      rcases List.mem_append.mp hb with h1 | h1
      · exact ih _ _ h1
      · rw [List.mem_singleton] at h1
        omega
/-- enough fuel is enough -/
theorem dgs_fuel : ∀ n k v, v < 10 ^ n → dgs (n + k) v = dgs n v ∨ n = 0 := by
  intro n
  induction n with
  | zero => intro k v _; exact Or.inr rfl
  | succ n ih =>
    intro k v hv
    refine Or.inl ?_
    rw [show n + 1 + k = (n + k) + 1 by omega, dgs, dgs]
    by_cases h : v ≤ 9
    · rw [if_pos h, if_pos h]
    · rw [if_neg h, if_neg h]
      rcases ih k (v / 10) (by rw [Nat.pow_succ] at hv; omega) with e | e
      · rw [e]
      · exfalso
        subst e
        omega
theorem getD_app {l : List Nat} {b i : Nat} (h : i < l.length) : (l ++ [b]).getD i 0 = l.getD i 0 := by simp [List.getElem?_append_left h]
theorem getD_end {l : List Nat} {b : Nat} : (l ++ [b]).getD l.length 0 = b := by simp
theorem I_div {a b : Nat} (ha : a < 2 ^ 31) (hb : b < 2 ^ 31) : I a / I b = I (a / b) := (Int32.ofNat_div ha hb).symm
section Out1
variable {g : AH} {p m : Nat} {s : OS} {r : RS} {l : List Nat}
theorem O_put {b : Nat} {x : Int32} (h : OC s l) (hl : l.length < 400) (hx : x = I b) : ∃ s1, x4_put p x (putO g p s) = some ((), putO g p s1) ∧ OC s1 (l ++ [b]) := by
  obtain ⟨h1, h2⟩ := h
  unfold x4_put
  rw [O_getI, gb_s, O_getR, gb_s, O_alen, gb_s, h1, if_neg (by rw [I_le (by decide) (by omega)]; omega), gb_s, gb_s, O_ast rfl hl, gb_s, O_getI, gb_s, O_putI, gb_s]
  refine ⟨_, rfl, ?_, fun i hi => ?_⟩
  · show s.1 + 1 = I (l ++ [b]).length
    rw [h1, I_succ, List.length_append, List.length_singleton]
  · rw [List.length_append, List.length_singleton] at hi
    show upd s.2 l.length x i = _
    by_cases hil : i = l.length
    · rw [hil, upd_at, getD_end, hx]
    · rw [upd_ne hil, getD_app (by omega)]
      exact h2 i (by omega)
theorem O_clear : ∃ s1, x4_clear p (putO g p s) = some ((), putO g p s1) ∧ OC s1 [] := by
  unfold x4_clear
  rw [O_putI, gb_s]
  exact ⟨_, rfl, rfl, fun i hi => absurd hi (Nat.not_lt_zero _)⟩
/-- what has been written of v after the powers from the k-th on -/
def pre (v k : Nat) : List Nat := if v / 10 ^ k = 0 then [] else dgs 12 (v / 10 ^ k)
theorem pre_step {v k : Nat} (hv : v < 10 ^ 10) : pre v k = if v / 10 ^ k = 0 then [] else pre v (k + 1) ++ [48 + v / 10 ^ k % 10] := by
  have e : v / 10 ^ (k + 1) = v / 10 ^ k / 10 := by rw [Nat.pow_succ, Nat.div_div_eq_div_mul]
  have hk0 : v / 10 ^ k ≤ v := Nat.div_le_self _ _
  unfold pre
  rw [e]
  generalize v / 10 ^ k = y at hk0 ⊢
  by_cases h0 : y = 0
  · rw [if_pos h0, if_pos h0]
  · rw [if_neg h0, if_neg h0]
    by_cases h9 : y ≤ 9
    · rw [if_pos (show y / 10 = 0 by omega), show dgs 12 y = [48 + y] by rw [dgs, if_pos h9], List.nil_append, show y % 10 = y by omega]
    · rw [if_neg (show ¬ y / 10 = 0 by omega)]
      have e12 : dgs 12 y = dgs 11 (y / 10) ++ [48 + y % 10] := by rw [dgs, if_neg h9]
      have e11 : dgs 12 (y / 10) = dgs 11 (y / 10) := by
        rcases dgs_fuel 11 1 (y / 10) (by omega) with e | e
        · exact e
        · exact absurd e (by decide)
      rw [e12, e11]
theorem pw10 {k : Nat} (hk0 : k ≤ 9) : (10 : Nat) ^ k ≤ 1000000000 := Nat.pow_le_pow_right (n := 10) (by decide) hk0
theorem O_number {v : Nat} {x : Int32} (h : OC s l) (hv : v < 1000000000) (hl : l.length + 12 < 400) (hx : x = I v) : ∃ s1, x4_putNumber p x (putO g p s) = some ((), putO g p s1) ∧ OC s1 (l ++ dgs 12 v) := by
  have hlen : ∀ k, (pre v k).length ≤ 12 := fun k => by
    unfold pre
    split
    · exact Nat.zero_le _
    · exact dgs_len _ _
  -- one power
  have step : ∀ k s, k ≤ 9 → OC s (l ++ pre v (k + 1)) → ∃ s1, x4_putNumber_l3 p x (I (10 ^ k)) (putO g p s) = some (.inl (I (10 ^ k / 10)), putO g p s1) ∧ OC s1 (l ++ (if k = 0 then dgs 12 v else pre v k)) := by
    intro k s hk0 hs
    have hp := pw10 hk0
    have hp0 : 0 < 10 ^ k := Nat.pow_pos (by decide)
    have hln := hlen (k + 1)
    have ediv : I (10 ^ k) / 10 = I (10 ^ k / 10) := I_div (by omega) (by decide)
    have e31 : ∀ g, x4_putNumber_j31_3 p x (I (10 ^ k)) g = some (.inl (I (10 ^ k / 10)), g) := fun g => by
      unfold x4_putNumber_j31_3
      rw [ediv]
    have hdv : v / 10 ^ k ≤ v := Nat.div_le_self _ _
    have e18 : ∃ s1, x4_putNumber_j18_3 p x (I (10 ^ k)) (putO g p s) = some (.inl (I (10 ^ k / 10)), putO g p s1) ∧ OC s1 ((l ++ pre v (k + 1)) ++ [48 + v / 10 ^ k % 10]) := by
      have ed : (48 : Int32) + ((x / I (10 ^ k)) - (x / I (10 ^ k)) / 10 * 10) = I (48 + v / 10 ^ k % 10) := by
        rw [hx, I_div (by omega) (by omega), show (I (v / 10 ^ k) / 10 : Int32) = I (v / 10 ^ k / 10) from I_div (by omega) (by decide), show (I (v / 10 ^ k / 10) * 10 : Int32) = I (v / 10 ^ k / 10 * 10) from I_mul _ 10, I_sub (by omega), show (48 : Int32) = I 48 from rfl, I_add]
        congr 1
        omega
      obtain ⟨s1, e1, e2⟩ := O_put (g := g) (p := p) (b := 48 + v / 10 ^ k % 10) hs (by rw [List.length_append]; omega) rfl
      unfold x4_putNumber_j18_3
      rw [if_neg (show ¬ I (10 ^ k) = 0 from fun hc => by have := (I_eq (b := 0) (by omega) (by decide)).mp hc; omega), O_isO, gb_s, ed, e1, cb_s, e31]
      exact ⟨s1, rfl, e2⟩
    unfold x4_putNumber_l3
    rw [if_neg (show ¬ I (10 ^ k) < 1 by rw [show (1 : Int32) = I 1 from rfl, I_lt (by omega) (by decide)]; omega)]
    have hps := pre_step (v := v) (k := k) (by omega)
    by_cases hle : 10 ^ k ≤ v
    · have hne : ¬ v / 10 ^ k = 0 := fun hc => by
        have := (Nat.div_eq_zero_iff_lt hp0).mp hc
        omega
      obtain ⟨s1, e1, e2⟩ := e18
      rw [if_pos (show I (10 ^ k) ≤ x by rw [hx, I_le (by omega) (by omega)]; exact hle), e1]
      refine ⟨s1, rfl, ?_⟩
      rw [if_neg hne] at hps
      rw [List.append_assoc, ← hps] at e2
      by_cases h0 : k = 0
      · rw [if_pos h0]
        have : pre v k = dgs 12 v := by
          unfold pre
          rw [if_neg hne, h0, Nat.pow_zero, Nat.div_one]
        rw [← this]
        exact e2
      · rw [if_neg h0]
        exact e2
    · have hz : v / 10 ^ k = 0 := Nat.div_eq_of_lt (by omega)
      have hz1 : pre v (k + 1) = [] := by
        unfold pre
        rw [if_pos (by rw [Nat.pow_succ, ← Nat.div_div_eq_div_mul, hz])]
      rw [if_neg (show ¬ I (10 ^ k) ≤ x by rw [hx, I_le (by omega) (by omega)]; exact hle)]
      by_cases h0 : k = 0
      · obtain ⟨s1, e1, e2⟩ := e18
        rw [if_pos (show I (10 ^ k) = 1 by rw [h0]; rfl), e1, if_pos h0]
        refine ⟨s1, rfl, ?_⟩
        have hv0 : v = 0 := by
          rw [h0] at hle
          simp at hle
          omega
        rw [hz1, hz, List.append_nil] at e2
        rw [hv0]
        exact e2
      · have hk1 : 1 < 10 ^ k := Nat.one_lt_pow h0 (by decide)
        rw [if_neg (show ¬ I (10 ^ k) = 1 from fun hc => by have := (I_eq (b := 1) (by omega) (by decide)).mp hc; omega), e31, if_neg h0, show pre v k = [] from if_pos hz]
        rw [hz1] at hs
        exact ⟨s, rfl, hs⟩
  have H : ∀ k s F, k ≤ 9 → k + 1 < F → OC s (l ++ pre v (k + 1)) → ∃ s1, loopX (x4_putNumber_l3 p x) F (I (10 ^ k)) (putO g p s) = some ((), putO g p s1) ∧ OC s1 (l ++ dgs 12 v) := by
    intro k
    induction k with
    | zero =>
      intro s F _ hF hs
      obtain ⟨s1, e1, e2⟩ := step 0 s (by decide) hs
      match F, hF with
      | F + 2, _ =>
        rw [loopX_s, e1]
        refine ⟨s1, ?_, e2⟩
        show loopX (x4_putNumber_l3 p x) (F + 1) (I (10 ^ 0 / 10)) (putO g p s1) = _
        rw [loopX_s]
        unfold x4_putNumber_l3
        rw [if_pos (by decide)]
        rfl
    | succ k ih =>
      intro s F hk0 hF hs
      obtain ⟨s1, e1, e2⟩ := step (k + 1) s hk0 hs
      rw [if_neg (by omega)] at e2
      match F, hF with
      | F + 1, hF =>
        rw [loopX_s, e1, show 10 ^ (k + 1) / 10 = 10 ^ k by rw [Nat.pow_succ]; omega]
        exact ih s1 F (by omega) (by omega) e2
  obtain ⟨s1, e1, e2⟩ := H 9 s 1000 (by decide) (by decide) (by
    have : pre v 10 = [] := if_pos (Nat.div_eq_of_lt (by omega))
    rw [this, List.append_nil]
    exact h)
  unfold x4_putNumber
  rw [show (1000000000 : Int32) = I (10 ^ 9) from rfl, e1, cb_s]
  exact ⟨s1, rfl, e2⟩
end Out1
