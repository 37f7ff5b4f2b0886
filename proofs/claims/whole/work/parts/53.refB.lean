/-! the reference: warmth, noise, what a hiker does -/
theorem loop_sum {body : Int32 × Int32 → AH → Option (((Int32 × Int32) ⊕ Int32) × AH)} {n fuel : Nat} (f : Nat → Int32) {g : AH} (hs : ∀ i, i < n → ∀ a, body (a, I i) g = some (.inl (a + f i, I (i + 1)), g)) (he : ∀ a, body (a, I n) g = some (.inr a, g)) (hf : n < fuel) : loopX body fuel (0, 0) g = some (sm f n, g) :=
  loop_up (fun i => (sm f i, I i)) (fun _ => g) (fun i hi => hs i hi _) (he _) hf
abbrev kN (v : Int32) : Nat := v.toNatClampNeg
def hk (st : St) (k f : Nat) : Int32 := st (49 + 10 * k + f)
def inB (st : St) (b : Int32) : Int32 := if isB st b = true then hw st 4 b else -1
def ins (st : St) : Int32 := st (37 + nT st % nF st) + st 2
def thk (st : St) (k : Nat) : Int32 := if hk st k 5 = -1 then 0 else st (25 + kN (hk st k 5))
def near (st : St) (b : Int32) : Int32 := if inB st b = -1 then 0 else 1
def wB (st : St) (k : Nat) : Int32 := if hk st k 4 = -1 then ins st else (ins st + st (13 + kN (hk st k 4))) + (near st (hk st k 4 - 1) + near st (hk st k 4 + 1))
def wN (st : St) (k : Nat) : Int32 := wB st k + thk st k
def cold (st : St) (k : Nat) : Bool := !decide (hk st k 0 ≤ wN st k)
def sn (st : St) (b : Int32) : Int32 := if inB st b = -1 then 0 else if cold st (kN (inB st b)) = true then 0 else hk st (kN (inB st b)) 1
def noi (st : St) (b : Int32) : Int32 := (sn st (b - 1) + sn st (b + 1)) + (sn st (b - 2) + sn st (b + 2)) / 2
def deed (st : St) (k : Nat) : Int32 := if cold st k = true then 0 else if hk st k 4 = -1 then 3 else if noi st (hk st k 4) ≤ 6 then 2 else 1
def cntD (st : St) (d : Int32) : Int32 := sm (fun i => if deed st i = d then 1 else 0) (nH st)
def sumF (st : St) (f : Nat) : Int32 := sm (fun i => hk st i f) (nH st)
def cntW (st : St) : Int32 := sm (fun i => if hk st i 5 = -1 then 1 else 0) (nH st)
section RefB
variable {g : AH} {m : Nat} {r : RS} {st : St}
theorem hw_cases (f : Nat) (x : Int32) : hw st f x = -1 ∨ ∃ k, k < nH st ∧ hw st f x = I k ∧ st (49 + 10 * k + f) = x := by
  unfold hw
  cases h : ff (hwp st f x) (nH st) with
  | none => exact Or.inl rfl
  | some k =>
    obtain ⟨h1, h2, -⟩ := ff_some h
    exact Or.inr ⟨k, h1, rfl, by simpa [hwp] using h2⟩
theorem inB_cases (w : Ws st) (b : Int32) : inB st b = -1 ∨ ∃ k, k < nH st ∧ inB st b = I k ∧ kN (inB st b) = k ∧ hk st k 4 = b := by
  unfold inB
  by_cases h : isB st b = true
  · rw [if_pos h]
    rcases hw_cases (st := st) 4 b with h1 | ⟨k, h1, h2, h3⟩
    · exact Or.inl h1
    · exact Or.inr ⟨k, h1, h2, by rw [h2]; exact I_nat (by have := w.h.2; omega), h3⟩
  · rw [if_neg h]
    exact Or.inl rfl
theorem Ws.bunk (w : Ws st) {k : Nat} (hk0 : k < 10) (h : ¬ hk st k 4 = -1) : ∃ b, b < 12 ∧ b < nB st ∧ hk st k 4 = I b ∧ kN (hk st k 4) = b := by
  rcases w.2.2.2.2.2.1 k hk0 with h1 | ⟨b, h1, h2⟩
  · exact absurd h1 h
  · have := w.b.2
    exact ⟨b, by omega, h1, h2, by show kN (st _) = b; rw [h2]; exact I_nat (by omega)⟩
theorem Ws.blan (w : Ws st) {k : Nat} (hk0 : k < 10) (h : ¬ hk st k 5 = -1) : ∃ b, b < 12 ∧ (k < nH st → b < nL st) ∧ hk st k 5 = I b ∧ kN (hk st k 5) = b := by
  rcases w.2.2.2.2.2.2 k hk0 with h1 | ⟨b, h0, h1, h2⟩
  · exact absurd h1 h
  · exact ⟨b, h0, h1, h2, by show kN (st _) = b; rw [h2]; exact I_nat (by omega)⟩
theorem Ws.bl (w : Ws st) {k : Nat} (hk1 : k < nH st) : hk st k 5 = -1 ∨ ∃ b, b < nL st ∧ hk st k 5 = I b := by
  have hh := w.h.2
  rcases w.2.2.2.2.2.2 k (by omega) with h1 | ⟨b, h0, h1, h2⟩
  · exact Or.inl h1
  · exact Or.inr ⟨b, h1 hk1, h2⟩
theorem s_inBunk (w : Ws (r.2 1)) (b : Int32) : x9_inBunk m b (putR g m r) = some (inB (r.2 1) b, putR g m r) := by
  unfold x9_inBunk inB
  rw [R_isO, gb_s, s_isBunk, cb_s]
  by_cases h : isB (r.2 1) b = true
  · rw [if_neg (by rw [bI_z, h]; decide), R_isO, gb_s, s_hikerWith w (f := 4) (x := 4) rfl (by decide), cb_s, if_pos h]
  · rw [if_pos ((bI_z _).mpr (by simpa using h)), if_neg h]
theorem mod_I {a b : Nat} (ha : a < 2 ^ 31) (hb : b < 2 ^ 31) (h0 : 0 < b) : I a - I a / I b * I b = I (a % b) := by
  rw [show I a / I b = I (a / b) from (Int32.ofNat_div ha hb).symm, I_mul, I_sub (Nat.div_mul_le_self a b)]
  congr 1
  have := Nat.div_add_mod a b
  rw [Nat.mul_comm] at this
  omega
theorem s_inside (w : Ws (r.2 1)) : x9_inside m (putR g m r) = some (ins (r.2 1), putR g m r) := by
  unfold x9_inside ins
  obtain ⟨h1, h2⟩ := w.t
  obtain ⟨h3, h4, h5⟩ := w.f
  have hm : nT (r.2 1) % nF (r.2 1) < 12 := Nat.lt_of_lt_of_le (Nat.mod_lt _ h4) h5
  have hi : (37 : Int32) + (r.2 1 3 - r.2 1 3 / r.2 1 11 * r.2 1 11) = I (37 + nT (r.2 1) % nF (r.2 1)) := by
    rw [h1, h3, mod_I (by omega) (by omega) h4, ← I_add]
    rfl
  have h0 : ¬ r.2 1 11 = 0 := by
    rw [h3]
    intro h
    have h6 : I (nF (r.2 1)) = I 0 := h
    rw [I_eq (by omega) (by decide)] at h6
    omega
  (repeat first | rw [gb_s] | rw [cb_s] | rw [R_isO] | rw [R_getR rfl])
  rw [R_s (k := 3) (x := 3) rfl (by decide)]
  (repeat first | rw [gb_s] | rw [cb_s] | rw [R_isO] | rw [R_getR rfl])
  rw [R_s (k := 11) (x := 11) rfl (by decide)]
  (repeat first | rw [gb_s] | rw [cb_s] | rw [R_isO] | rw [R_getR rfl])
  rw [if_neg h0, R_s hi (by omega)]
  (repeat first | rw [gb_s] | rw [cb_s] | rw [R_isO] | rw [R_getR rfl])
  rw [R_s (k := 2) (x := 2) rfl (by decide)]
  (repeat first | rw [gb_s] | rw [cb_s] | rw [R_isO] | rw [R_getR rfl])
theorem s_thk (w : Ws (r.2 1)) {k : Nat} (hk0 : k < 10) : x9_thicknessFor m (I k) (putR g m r) = some (thk (r.2 1) k, putR g m r) := by
  unfold x9_thicknessFor thk
  rw [R_isO, gb_s, s_get (f := 5) (x := 5) rfl hk0 (by decide), cb_s]
  by_cases h : hk (r.2 1) k 5 = -1
  · rw [if_pos (show r.2 1 (49 + 10 * k + 5) = -1 from h), if_pos h]
  · rw [if_neg (show ¬ r.2 1 (49 + 10 * k + 5) = -1 from h), if_neg h]
    obtain ⟨b, h1, h2, h3, h4⟩ := w.blan hk0 h
    have hi : (25 : Int32) + r.2 1 (49 + 10 * k + 5) = I (25 + b) := by
      rw [show r.2 1 (49 + 10 * k + 5) = I b from h3, ← I_add]
      rfl
    rw [R_getR rfl, gb_s, R_s hi (by omega), gb_s, h4]
theorem s_warmthBare (w : Ws (r.2 1)) {k : Nat} (hk0 : k < 10) : x9_warmthBare m (I k) (putR g m r) = some (wB (r.2 1) k, putR g m r) := by
  unfold x9_warmthBare wB
  rw [R_isO, gb_s, s_get (f := 4) (x := 4) rfl hk0 (by decide), cb_s]
  show (if hk (r.2 1) k 4 = -1 then _ else _) = _
  by_cases h : hk (r.2 1) k 4 = -1
  · rw [if_pos h, if_pos h, R_isO, gb_s, s_inside w, cb_s]
  · rw [if_neg h, if_neg h, R_isO, gb_s]
    obtain ⟨b, h1, h2, h3, h4⟩ := w.bunk hk0 h
    have hi : (13 : Int32) + hk (r.2 1) k 4 = I (13 + b) := by
      rw [h3, ← I_add]
      rfl
    have e49 : ∀ s0 s1 : Int32, x9_warmthBare_j49 m (hk (r.2 1) k 4) s0 s1 (putR g m r) = some ((ins (r.2 1) + r.2 1 (13 + kN (hk (r.2 1) k 4))) + (s1 + s0), putR g m r) := by
      intro s0 s1
      unfold x9_warmthBare_j49
      rw [R_isO, gb_s, s_inside w, cb_s, R_getR rfl, gb_s, R_s hi (by omega), gb_s, h4]
    have e33 : ∀ s0 : Int32, x9_warmthBare_j33 m (hk (r.2 1) k 4) s0 (putR g m r) = some ((ins (r.2 1) + r.2 1 (13 + kN (hk (r.2 1) k 4))) + (s0 + near (r.2 1) (hk (r.2 1) k 4 + 1)), putR g m r) := by
      intro s0
      unfold x9_warmthBare_j33 near
      rw [R_isO, gb_s, s_inBunk w, cb_s]
      by_cases h5 : inB (r.2 1) (hk (r.2 1) k 4 + 1) = -1
      · rw [if_pos h5, if_pos h5, e49]
      · rw [if_neg h5, if_neg h5, e49]
    rw [show x9_inBunk m (r.2 1 (49 + 10 * k + 4) - 1) (putR g m r) = some (inB (r.2 1) (hk (r.2 1) k 4 - 1), putR g m r) from s_inBunk w _, cb_s]
    by_cases h5 : inB (r.2 1) (hk (r.2 1) k 4 - 1) = -1
    · rw [if_pos h5, show near (r.2 1) (hk (r.2 1) k 4 - 1) = 0 from if_pos h5]
      exact e33 0
    · rw [if_neg h5, show near (r.2 1) (hk (r.2 1) k 4 - 1) = 1 from if_neg h5]
      exact e33 1
theorem s_warmthNow (w : Ws (r.2 1)) {k : Nat} (hk0 : k < 10) : x9_warmthNow m (I k) (putR g m r) = some (wN (r.2 1) k, putR g m r) := by
  unfold x9_warmthNow wN
  rw [R_isO, gb_s, s_warmthBare w hk0, cb_s, R_isO, gb_s, s_thk w hk0, cb_s]
theorem s_isCold (w : Ws (r.2 1)) {k : Nat} (hk0 : k < 10) : x9_isCold m (I k) (putR g m r) = some (bI (cold (r.2 1) k), putR g m r) := by
  unfold x9_isCold cold
  rw [R_isO, gb_s, s_warmthNow w hk0, cb_s, R_isO, gb_s, s_get (f := 0) (x := 0) rfl hk0 (by decide), cb_s]
  show (if hk (r.2 1) k 0 ≤ _ then _ else _) = _
  by_cases h : hk (r.2 1) k 0 ≤ wN (r.2 1) k
  · rw [if_pos h]; simp [h, bI]
  · rw [if_neg h]; simp [h, bI]
theorem s_snoreIn (w : Ws (r.2 1)) (b : Int32) : x9_snoreIn m b (putR g m r) = some (sn (r.2 1) b, putR g m r) := by
  unfold x9_snoreIn sn x9_snoreIn_j19
  rw [R_isO, gb_s, s_inBunk w, cb_s]
  rcases inB_cases w b with h | ⟨k, h1, h2, h3, h4⟩
  · rw [if_pos h, if_pos h]
  · have hk0 : k < 10 := by have := w.h.2; omega
    have hn : ¬ inB (r.2 1) b = -1 := by rw [h2]; exact I_ne_neg (by omega)
    rw [if_neg hn, if_neg hn, R_isO, gb_s, h3, h2, s_isCold w hk0, cb_s]
    by_cases h5 : cold (r.2 1) k = true
    · rw [if_neg (by rw [bI_z, h5]; decide), if_pos h5]
    · rw [if_pos ((bI_z _).mpr (by simpa using h5)), if_neg h5, R_isO, gb_s, s_get (f := 1) (x := 1) rfl hk0 (by decide), cb_s]
      rfl
theorem s_noise (w : Ws (r.2 1)) (b : Int32) : x9_noise m b (putR g m r) = some (noi (r.2 1) b, putR g m r) := by
  unfold x9_noise noi
  rw [R_isO, gb_s, s_snoreIn w, cb_s, R_isO, gb_s, s_snoreIn w, cb_s, R_isO, gb_s, s_snoreIn w, cb_s, R_isO, gb_s, s_snoreIn w, cb_s]
theorem s_deed (w : Ws (r.2 1)) {k : Nat} (hk0 : k < 10) : x9_deed m (I k) (putR g m r) = some (deed (r.2 1) k, putR g m r) := by
  unfold x9_deed deed
  rw [R_isO, gb_s, s_isCold w hk0, cb_s]
  by_cases h : cold (r.2 1) k = true
  · rw [if_neg (by rw [bI_z, h]; decide), if_pos h]
  · rw [if_pos ((bI_z _).mpr (by simpa using h)), if_neg h, R_isO, gb_s, s_get (f := 4) (x := 4) rfl hk0 (by decide), cb_s]
    show (if hk (r.2 1) k 4 = -1 then _ else _) = _
    by_cases h1 : hk (r.2 1) k 4 = -1
    · rw [if_pos h1, if_pos h1]
    · rw [if_neg h1, if_neg h1, R_isO, gb_s, s_get (f := 4) (x := 4) rfl hk0 (by decide), cb_s, R_isO, gb_s]
      show cb (x9_noise m (hk (r.2 1) k 4) (putR g m r)) _ = _
      rw [s_noise w, cb_s]
      by_cases h2 : noi (r.2 1) (hk (r.2 1) k 4) ≤ 6
      · rw [if_pos h2, if_pos h2]
      · rw [if_neg h2, if_neg h2]
theorem s_head (w : Ws (r.2 1)) {α : Type} (i : Nat) (hi : i < nH (r.2 1)) (A B : Option (α × AH)) : (if r.2 1 12 ≤ I i then A else B) = B := by
  have h2 := w.h.2
  rw [if_neg]
  rw [w.h.1, I_le (by omega) (by omega)]
  omega
theorem s_tail (w : Ws (r.2 1)) {α : Type} (A B : Option (α × AH)) : (if r.2 1 12 ≤ I (nH (r.2 1)) then A else B) = A := by
  have h2 := w.h.2
  rw [if_pos]
  rw [w.h.1, I_le (by omega) (by omega)]
  omega
theorem s_countDeed (w : Ws (r.2 1)) (d : Int32) : x9_countDeed m d (putR g m r) = some (cntD (r.2 1) d, putR g m r) := by
  have h2 := w.h.2
  unfold x9_countDeed cntD
  have hs : ∀ i, i < nH (r.2 1) → ∀ a, x9_countDeed_l4 m d (a, I i) (putR g m r) = some (.inl (a + (if deed (r.2 1) i = d then 1 else 0), I (i + 1)), putR g m r) := by
    intro i hi a
    unfold x9_countDeed_l4 x9_countDeed_j30_4
    (repeat first | rw [gb_s] | rw [cb_s] | rw [R_isO] | rw [R_getR rfl]); rw [R_s (k := 12) (x := 12) rfl (by decide)]; (repeat first | rw [gb_s] | rw [cb_s] | rw [R_isO] | rw [R_getR rfl])
    refine (s_head w i hi _ _).trans ?_
    dsimp only
    rw [s_deed w (by omega), cb_s]
    by_cases h : deed (r.2 1) i = d
    · rw [if_pos h, if_pos h, I_succ]
    · rw [if_neg h, if_neg h, I_succ]
  have he : ∀ a, x9_countDeed_l4 m d (a, I (nH (r.2 1))) (putR g m r) = some (.inr a, putR g m r) := by
    intro a
    unfold x9_countDeed_l4
    (repeat first | rw [gb_s] | rw [cb_s] | rw [R_isO] | rw [R_getR rfl]); rw [R_s (k := 12) (x := 12) rfl (by decide)]; (repeat first | rw [gb_s] | rw [cb_s] | rw [R_isO] | rw [R_getR rfl])
    exact s_tail w _ _
  rw [loop_sum (fun i => if deed (r.2 1) i = d then 1 else 0) hs he (by omega), cb_s]
theorem s_sumOf (w : Ws (r.2 1)) {f : Nat} {x : Int32} (hx : x = I f) (hf : f < 10) : x9_sumOf m x (putR g m r) = some (sumF (r.2 1) f, putR g m r) := by
  have h2 := w.h.2
  unfold x9_sumOf sumF
  have hs : ∀ i, i < nH (r.2 1) → ∀ a, x9_sumOf_l4 m x (a, I i) (putR g m r) = some (.inl (a + hk (r.2 1) i f, I (i + 1)), putR g m r) := by
    intro i hi a
    unfold x9_sumOf_l4
    (repeat first | rw [gb_s] | rw [cb_s] | rw [R_isO] | rw [R_getR rfl]); rw [R_s (k := 12) (x := 12) rfl (by decide)]; (repeat first | rw [gb_s] | rw [cb_s] | rw [R_isO] | rw [R_getR rfl])
    refine (s_head w i hi _ _).trans ?_
    dsimp only
    rw [s_get hx (by omega) hf, cb_s, I_succ]
    rfl
  have he : ∀ a, x9_sumOf_l4 m x (a, I (nH (r.2 1))) (putR g m r) = some (.inr a, putR g m r) := by
    intro a
    unfold x9_sumOf_l4
    (repeat first | rw [gb_s] | rw [cb_s] | rw [R_isO] | rw [R_getR rfl]); rw [R_s (k := 12) (x := 12) rfl (by decide)]; (repeat first | rw [gb_s] | rw [cb_s] | rw [R_isO] | rw [R_getR rfl])
    exact s_tail w _ _
  rw [loop_sum (fun i => hk (r.2 1) i f) hs he (by omega), cb_s]
theorem s_countWithout (w : Ws (r.2 1)) : x9_countWithout m (putR g m r) = some (cntW (r.2 1), putR g m r) := by
  have h2 := w.h.2
  unfold x9_countWithout cntW
  have hs : ∀ i, i < nH (r.2 1) → ∀ a, x9_countWithout_l4 m (a, I i) (putR g m r) = some (.inl (a + (if hk (r.2 1) i 5 = -1 then 1 else 0), I (i + 1)), putR g m r) := by
    intro i hi a
    unfold x9_countWithout_l4 x9_countWithout_j31_4
    (repeat first | rw [gb_s] | rw [cb_s] | rw [R_isO] | rw [R_getR rfl]); rw [R_s (k := 12) (x := 12) rfl (by decide)]; (repeat first | rw [gb_s] | rw [cb_s] | rw [R_isO] | rw [R_getR rfl])
    refine (s_head w i hi _ _).trans ?_
    dsimp only
    rw [s_get (f := 5) (x := 5) rfl (by omega) (by decide), cb_s]
    show (if hk (r.2 1) i 5 = -1 then _ else _) = _
    by_cases h : hk (r.2 1) i 5 = -1
    · rw [if_pos h, if_pos h, I_succ]
    · rw [if_neg h, if_neg h, I_succ]
  have he : ∀ a, x9_countWithout_l4 m (a, I (nH (r.2 1))) (putR g m r) = some (.inr a, putR g m r) := by
    intro a
    unfold x9_countWithout_l4
    (repeat first | rw [gb_s] | rw [cb_s] | rw [R_isO] | rw [R_getR rfl]); rw [R_s (k := 12) (x := 12) rfl (by decide)]; (repeat first | rw [gb_s] | rw [cb_s] | rw [R_isO] | rw [R_getR rfl])
    exact s_tail w _ _
  rw [loop_sum (fun i => if hk (r.2 1) i 5 = -1 then 1 else 0) hs he (by omega), cb_s]
end RefB
