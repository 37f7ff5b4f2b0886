/-! the best exchange -/
theorem deed_cold (st : St) (i : Nat) : decide (deed st i = 0) = cold st i := by
  unfold deed
  by_cases h : cold st i = true
  · rw [if_pos h, h]; rfl
  · rw [if_neg h]
    have h0 : cold st i = false := by simpa using h
    rw [h0]
    split
    · rfl
    · split <;> rfl
def cN (st : St) : Nat := sN (fun x => b1 (cold st x)) (nH st)
theorem cntD_cN (st : St) : cntD st 0 = I (cN st) := by
  rw [cntD_I]
  unfold cN
  congr 1
  exact sN_congr _ fun i _ => by rw [deed_cold]
theorem cN_le (st : St) : cN st ≤ nH st := sN_le _
def xN (st : St) (i j : Nat) : Nat := cN (exS st i j)
def xStep (st : St) (i : Nat) (s : Int32 × Nat) (k : Nat) : Int32 × Nat := if xN st i (i + 1 + k) < s.2 then (10 * I i + I (i + 1 + k), xN st i (i + 1 + k)) else s
def xRow (st : St) (s : Int32 × Nat) (i : Nat) : Int32 × Nat := it (xStep st i) (nH st - (i + 1)) s
def xAll (st : St) (n : Nat) : Int32 × Nat := it (xRow st) n (-1, cN st)
theorem xStep_le {st : St} {i : Nat} {s : Int32 × Nat} {k N : Nat} (h : s.2 ≤ N) : (xStep st i s k).2 ≤ N := by
  unfold xStep
  split
  · rename_i hc
    exact Nat.le_trans (Nat.le_of_lt hc) h
  · exact h
theorem xIt_le {st : St} {i N : Nat} : ∀ n (s : Int32 × Nat), s.2 ≤ N → (it (xStep st i) n s).2 ≤ N := by
  intro n
  induction n with
  | zero => intro s h; exact h
  | succ n ih => intro s h; exact xStep_le (ih s h)
theorem xAll_le {st : St} : ∀ n, (xAll st n).2 ≤ cN st := by
  intro n
  induction n with
  | zero => exact Nat.le_refl _
  | succ n ih => exact xIt_le _ _ ih
theorem sN_chg {f g : Nat → Nat} {i : Nat} : ∀ n, i < n → (∀ x, x < n → x ≠ i → f x = g x) → sN f n + g i = sN g n + f i := by
  intro n
  induction n with
  | zero => intro h; omega
  | succ n ih =>
    intro hi h
    rw [sN, sN]
    by_cases hin : i = n
    · rw [hin, sN_congr n (fun x hx => h x (by omega) (by omega))]
      omega
    · have := ih (by omega) (fun x hx => h x (by omega))
      rw [h n (by omega) (by omega)]
      omega
theorem sN_two {f g : Nat → Nat} {i j n : Nat} (hi : i < n) (hj : j < n) (hij : i ≠ j) (h : ∀ x, x < n → x ≠ i → x ≠ j → f x = g x) : sN f n + g i + g j = sN g n + f i + f j := by
  have h1 := sN_chg (f := f) (g := fun x => if x = i then g x else f x) n hi (fun x _ hx => (if_neg hx).symm)
  have h2 := sN_chg (f := fun x => if x = i then g x else f x) (g := g) n hj (fun x hx hxj => by
    by_cases hxi : x = i
    · exact if_pos hxi
    · rw [if_neg hxi]; exact h x hx hxi hxj)
  try dsimp only at h1 h2
  rw [if_pos rfl] at h1
  rw [if_neg (Ne.symm hij)] at h2
  omega
section Exch
variable {g : AH} {p m : Nat} {h : HS} {st : St} {r : RS}
theorem wB_up5 (w : Ws st) {i x : Nat} {v : Int32} (hx : x < 10) : wB (upd st (49 + 10 * i + 5) v) x = wB st x := by
  have e : ∀ q, q < 49 → upd st (49 + 10 * i + 5) v q = st q := fun q hq => upd_ne (by omega)
  have eh : hk (upd st (49 + 10 * i + 5) v) x 4 = hk st x 4 := upd_ne (by omega)
  have ei : ins (upd st (49 + 10 * i + 5) v) = ins st := by
    obtain ⟨h3, h4, h5⟩ := w.f
    have hm : nT st % nF st < 12 := Nat.lt_of_lt_of_le (Nat.mod_lt _ h4) h5
    have e1 : nT (upd st (49 + 10 * i + 5) v) = nT st := by unfold nT; rw [e 3 (by decide)]
    have e2 : nF (upd st (49 + 10 * i + 5) v) = nF st := by unfold nF; rw [e 11 (by decide)]
    unfold ins
    rw [e1, e2, e _ (by omega), e 2 (by decide)]
  unfold wB near
  rw [eh, ei, inB_up5, inB_up5]
  by_cases hb : hk st x 4 = -1
  · rw [if_pos hb, if_pos hb]
  · obtain ⟨b, b1, b2, b3, b4⟩ := w.bunk hx hb
    rw [if_neg hb, if_neg hb, b4, e _ (by omega)]
theorem thk_of (z : St) (w : Ws st) (he : ∀ q, 25 ≤ q → q < 37 → z q = st q) {x y : Nat} (hy : y < 10) (h5 : hk z x 5 = hk st y 5) : thk z x = thk st y := by
  unfold thk
  rw [h5]
  by_cases hb : hk st y 5 = -1
  · rw [if_pos hb, if_pos hb]
  · obtain ⟨b, b1, b2, b3, b4⟩ := w.blan hy hb
    rw [if_neg hb, if_neg hb, b4, he _ (by omega) (by omega)]
theorem ex_ws (w : Ws st) {i j : Nat} (hi : i < nH st) (hj : j < nH st) : Ws (upd st (49 + 10 * i + 5) (hk st j 5)) ∧ Ws (exS st i j) := by
  have w1 : Ws (upd st (49 + 10 * i + 5) (hk st j 5)) := Ws_up5 w (w.bl hj)
  have hl : nL (upd st (49 + 10 * i + 5) (hk st j 5)) = nL st := by unfold nL; rw [upd_ne (by omega)]
  exact ⟨w1, Ws_up5 w1 (by rw [hl]; exact w.bl hi)⟩
theorem ex_cold (w : Ws st) {i j : Nat} (hi1 : i < nH st) (hj1 : j < nH st) (hij : i ≠ j) : cold (exS st i j) i = !decide (hk st i 0 ≤ wB st i + thk st j) ∧ cold (exS st i j) j = !decide (hk st j 0 ≤ wB st j + thk st i) ∧ ∀ x, x < 10 → x ≠ i → x ≠ j → cold (exS st i j) x = cold st x := by
  have hh := w.h.2
  have hi : i < 10 := by omega
  have hj : j < 10 := by omega
  have w1 := (ex_ws w hi1 hj1).1
  have he : ∀ q, 25 ≤ q → q < 37 → exS st i j q = st q := fun q h1 h2 => (upd_ne (by omega)).trans (upd_ne (by omega))
  have h0 : ∀ x, hk (exS st i j) x 0 = hk st x 0 := fun x => (upd_ne (by omega)).trans (upd_ne (by omega))
  have hB : ∀ x, x < 10 → wB (exS st i j) x = wB st x := fun x hx => (wB_up5 w1 hx).trans (wB_up5 w hx)
  have ti : thk (exS st i j) i = thk st j := thk_of _ w he hj ((upd_ne (by omega)).trans upd_at)
  have tj : thk (exS st i j) j = thk st i := thk_of _ w he hi upd_at
  have tx : ∀ x, x < 10 → x ≠ i → x ≠ j → thk (exS st i j) x = thk st x := fun x hx h1 h2 => thk_of _ w he hx ((upd_ne (by omega)).trans (upd_ne (by omega)))
  unfold cold wN
  refine ⟨by rw [h0, hB i hi, ti], by rw [h0, hB j hj, tj], fun x hx h1 h2 => by rw [h0, hB x hx, tx x hx h1 h2]⟩
theorem ex_n (st : St) (i j : Nat) : nH (exS st i j) = nH st := by
  unfold exS nH
  rw [upd_ne (by omega), upd_ne (by omega)]
/-- what the class counts of an exchange -/
def svB (st : St) (i j : Nat) : Nat := b1 (cold st i) + b1 (cold st j)
def svA (st : St) (i j : Nat) : Nat := b1 (cold (exS st i j) i) + b1 (cold (exS st i j) j)
theorem sv_eq (w : Ws st) {i j : Nat} (hi : i < nH st) (hj : j < nH st) (hij : i ≠ j) : cN st + svA st i j = xN st i j + svB st i j := by
  have hh := w.h.2
  have hx := (ex_cold w (i := i) (j := j) hi hj hij).2.2
  have h1 := sN_two (f := fun x => b1 (cold st x)) (g := fun x => b1 (cold (exS st i j) x)) hi hj hij (fun x hx1 hx2 hx3 => by
    try dsimp only
    rw [hx x (by omega) hx2 hx3])
  unfold svA svB xN
  have e : cN (exS st i j) = sN (fun x => b1 (cold (exS st i j) x)) (nH st) := by unfold cN; rw [ex_n]
  rw [e]
  unfold cN
  try dsimp only at h1
  omega
theorem bI_b1 (b : Bool) : bI b = I (b1 b) := by cases b <;> rfl
theorem c_saved (w : Ws st) (R : Rel st h) (M : Meas st h) {S C D O : Nat} (bd : Bl S C D O st) {i j : Nat} (hi : i < nH st) (hj : j < nH st) (hij : i ≠ j) : x3_savedByExchange (p + (7 + 2 * i)) (p + (7 + 2 * j)) (putH g p h) = some (I (svB st i j) - I (svA st i j), putH g p h) := by
  have hh := w.h.2
  have hi0 : i < 10 := by omega
  have hj0 : j < 10 := by omega
  obtain ⟨x1, x2, -⟩ := ex_cold w hi hj hij
  have lk : ∀ a b, a < nH st → b < nH st → (h.2.2.1 a 0 - (h.2.2.1 a 7 - h.2.2.1 a 6) ≤ h.2.2.1 b 6 ↔ hk st a 0 ≤ wB st a + thk st b) := by
    intro a b ha hb
    obtain ⟨x, x1, x2⟩ := bd.fld (i := a) (f := 0) (by omega) (by decide) rfl
    obtain ⟨y, y1, y2⟩ := wB_b w bd (i := a) (by omega)
    obtain ⟨z, z1, z2⟩ := thk_b w bd (i := b) (by omega)
    rw [lack_eq R M ha, (M.1 b hb).1, x2, y2, z2]
    have := lack_lt (n := x) (w := y) (t := z) (by omega) (by omega) (by omega)
    constructor
    · intro h1
      exact Decidable.not_not.mp (fun hc => absurd (this.mpr hc) (Int32.not_lt.mpr h1))
    · intro h1
      exact Int32.not_lt.mp (fun hc => this.mp hc h1)
  have ci : ∀ a, a < nH st → x1_isCold (p + (7 + 2 * a)) (putH g p h) = some (bI (cold st a), putH g p h) := by
    intro a ha
    rw [c_isCold ha (by omega) R, (M.1 a ha).2]
    rfl
  have e42 : ∀ a2 s0 : Int32, x3_savedByExchange_j42 (p + (7 + 2 * i)) (p + (7 + 2 * j)) a2 s0 (putH g p h) = some (a2 - (s0 + bI (cold (exS st i j) j)), putH g p h) := by
    intro a2 s0
    unfold x3_savedByExchange_j42 x3_savedByExchange_j58
    rw [K_isO hj0, gb_s, c_lack hj0, cb_s, K_getI hi0 (by decide), gb_s, x2]
    by_cases h1 : h.2.2.1 j 0 - (h.2.2.1 j 7 - h.2.2.1 j 6) ≤ h.2.2.1 i 6
    · rw [if_pos h1]; simp [(lk j i hj hi).mp h1, bI]
    · rw [if_neg h1, decide_eq_false (fun hc => h1 ((lk j i hj hi).mpr hc))]; rfl
  have e24 : ∀ s0 s1 : Int32, x3_savedByExchange_j24 (p + (7 + 2 * i)) (p + (7 + 2 * j)) s0 s1 (putH g p h) = some ((s1 + s0) - (bI (cold (exS st i j) i) + bI (cold (exS st i j) j)), putH g p h) := by
    intro s0 s1
    unfold x3_savedByExchange_j24
    rw [K_isO hi0, gb_s, c_lack hi0, cb_s, K_getI hj0 (by decide), gb_s, e42, e42, x1]
    by_cases h1 : h.2.2.1 i 0 - (h.2.2.1 i 7 - h.2.2.1 i 6) ≤ h.2.2.1 j 6
    · rw [if_pos h1]; simp [(lk i j hi hj).mp h1, bI]
    · rw [if_neg h1, decide_eq_false (fun hc => h1 ((lk i j hi hj).mpr hc))]; rfl
  have e12 : ∀ s0 : Int32, x3_savedByExchange_j12 (p + (7 + 2 * i)) (p + (7 + 2 * j)) s0 (putH g p h) = some ((s0 + bI (cold st j)) - (bI (cold (exS st i j) i) + bI (cold (exS st i j) j)), putH g p h) := by
    intro s0
    unfold x3_savedByExchange_j12
    rw [K_isO hj0, gb_s, ci j hj, cb_s, e24, e24]
    cases cold st j <;> rfl
  unfold x3_savedByExchange svB svA
  rw [K_isO hi0, gb_s, ci i hi, cb_s, e12, e12, ← I_add, ← I_add, ← bI_b1, ← bI_b1, ← bI_b1, ← bI_b1]
  cases cold st i <;> rfl
theorem c_exchangeBest (w : Ws st) (R : Rel st h) (M : Meas st h) {S C D O : Nat} (bd : Bl S C D O st) : x3_exchangeForFewestCold p (putH g p h) = some ((xAll st (nH st)).1, putH g p h) := by
  have hh := w.h.2
  have hN := cN_le st
  unfold x3_exchangeForFewestCold
  have hin : ∀ i, i < nH st → ∀ s : Int32 × Nat, s.2 ≤ cN st → loopX (x3_exchangeForFewestCold_l19 p (I i)) 1000 (s.1, I (cN st - s.2), I i + 1) (putH g p h) = some (((xRow st s i).1, I (cN st - (xRow st s i).2)), putH g p h) := by
    intro i hi s hs0
    have H := loop_up (body := x3_exchangeForFewestCold_l19 p (I i)) (fuel := 1000) (n := nH st - (i + 1)) (fun k => ((it (xStep st i) k s).1, I (cN st - (it (xStep st i) k s).2), I (i + 1 + k))) (fun _ => putH g p h) (t := ((xRow st s i).1, I (cN st - (xRow st s i).2))) (g1 := putH g p h) (fun k hk0 => by
      have hj : i + 1 + k < nH st := by omega
      have hle := xIt_le (st := st) (i := i) (N := cN st) k s hs0
      have hsv := sv_eq w hi hj (by omega)
      unfold x3_exchangeForFewestCold_l19 x3_exchangeForFewestCold_j63_19
      dsimp only
      rw [H_getI (by decide), gb_s, c_lt w R hj, H_getR (d := 6) rfl (by decide) (by decide), gb_s, H_hik (i := i) (by omega), gb_s, gb_s, H_hik (i := i + 1 + k) (by omega), gb_s, c_saved w R M bd hi hj (by omega), cb_s, I_succ]
      show _ = (some (Sum.inl ((xStep st i (it (xStep st i) k s) k).1, I (cN st - (xStep st i (it (xStep st i) k s) k).2), I (i + 1 + (k + 1))), putH g p h) : Option (((Int32 × Int32 × Int32) ⊕ (Int32 × Int32)) × AH))
      have hA : svA st i (i + 1 + k) ≤ 2 := by
        unfold svA b1
        split <;> split <;> omega
      have hB : svB st i (i + 1 + k) ≤ 2 := by
        unfold svB b1
        split <;> split <;> omega
      generalize it (xStep st i) k s = y at hle ⊢
      have hcmp : I (svB st i (i + 1 + k)) - I (svA st i (i + 1 + k)) ≤ I (cN st - y.2) ↔ ¬ xN st i (i + 1 + k) < y.2 := by
        rw [Int32.le_iff_toInt_le, Is_int (by omega) (by omega), I_int (by omega)]
        omega
      unfold xStep
      by_cases h1 : xN st i (i + 1 + k) < y.2
      · rw [if_neg (fun hc => hcmp.mp hc h1), if_pos h1]
        have e : I (svB st i (i + 1 + k)) - I (svA st i (i + 1 + k)) = I (cN st - xN st i (i + 1 + k)) := by
          rw [I_sub (by omega)]
          congr 1
          omega
        rw [e]
        rfl
      · rw [if_pos (hcmp.mpr h1), if_neg h1]
        rfl) (by
      unfold x3_exchangeForFewestCold_l19
      dsimp only
      rw [H_getI (by decide), gb_s, show i + 1 + (nH st - (i + 1)) = nH st by omega, c_ge w R]
      rfl) (by omega)
    rw [I_succ]
    exact H
  have H := loop_up (body := x3_exchangeForFewestCold_l6 p) (fuel := 1000) (n := nH st) (fun i => ((xAll st i).1, I (cN st - (xAll st i).2), I i)) (fun _ => putH g p h) (t := (xAll st (nH st)).1) (g1 := putH g p h) (fun i hi => by
    unfold x3_exchangeForFewestCold_l6
    dsimp only
    rw [H_getI (by decide), gb_s, c_lt w R hi, hin i hi _ (xAll_le i), cb_s, I_succ]
    rfl) (by
    unfold x3_exchangeForFewestCold_l6
    dsimp only
    rw [H_getI (by decide), gb_s, c_ge w R]) (by omega)
  have e0 : (-1, 0, 0) = ((xAll st 0).1, I (cN st - (xAll st 0).2), I 0) := by
    show ((-1 : Int32), (0 : Int32), (0 : Int32)) = ((-1 : Int32), I (cN st - cN st), I 0)
    rw [Nat.sub_self]
    rfl
  rw [e0, H, cb_s]
theorem s_coldBehind {a z du : St} {i j : Nat} (hi : i < 10) (hj : j < 10) (hij : i ≠ j) (w1 : Ws (exS z i j)) : x9_coldBehind m (I i) (I j) (putR g m (RD (RS_setA r 2 a) z du)) = some (I (xN z i j), putR g m (RD (RS_setA r 2 a) (exS z i j) du)) := by
  have w1' : Ws (upd (upd z (49 + 10 * i + 5) (hk z j 5)) (49 + 10 * j + 5) (hk z i 5)) := w1
  unfold x9_coldBehind x9_exchange
  rw [R_isO, gb_s, gb_s, D_get (f := 5) (x := 5) rfl hi (by decide), cb_s, R_isO, gb_s, D_get (f := 5) (x := 5) rfl hj (by decide), cb_s, R_isO, gb_s, D_set (f := 5) (x := 5) rfl hi (by decide), cb_s, R_isO, gb_s, D_set (f := 5) (x := 5) rfl hj (by decide), cb_s, cb_s, R_isO, gb_s, D_countDeed w1', cb_s]
  show some (cntD (exS z i j) 0, _) = _
  rw [cntD_cN]
  rfl
theorem s_exchangeBest (w : Ws (r.2 1)) : ∃ r1, x9_bestExchange m (putR g m r) = some ((xAll (r.2 1) (nH (r.2 1))).1, putR g m r1) ∧ Sq r r1 ∧ r1.1 6 = 0 := by
  have hh := w.h.2
  have hN := cN_le (r.2 1)
  have w' : Ws ((RS_setF r 6 0).2 1) := w
  unfold x9_bestExchange
  rw [R_putI rfl, gb_s, R_isO, gb_s, s_countDeed w', cb_s]
  have hS : ∀ r1 : RS, Sq (RS_setF r 6 0) r1 → r1.2 1 = r.2 1 := fun r1 h => h.st
  have hin : ∀ i, i < nH (r.2 1) → ∀ s : Int32 × Nat, s.2 ≤ cN (r.2 1) → ∀ r1, Sq (RS_setF r 6 0) r1 → r1.1 6 = 0 → ∃ r2, loopX (x9_bestExchange_l31 m (I i)) 1000 (s.1, I s.2, I i + 1) (putR g m r1) = some (((xRow (r.2 1) s i).1, I (xRow (r.2 1) s i).2), putR g m r2) ∧ Sq (RS_setF r 6 0) r2 ∧ r2.1 6 = 0 := by
    intro i hi s hs0 r1 q1 q2
    have H := loop_inv (body := x9_bestExchange_l31 m (I i)) (n := nH (r.2 1) - (i + 1)) (fuel := 1000) (s := (s.1, I s.2, I (i + 1))) (g := putR g m r1) (fun k y g1 => y = ((it (xStep (r.2 1) i) k s).1, I (it (xStep (r.2 1) i) k s).2, I (i + 1 + k)) ∧ ∃ r1, g1 = putR g m r1 ∧ Sq (RS_setF r 6 0) r1 ∧ r1.1 6 = 0) (fun y g1 => y = ((xRow (r.2 1) s i).1, I (xRow (r.2 1) s i).2) ∧ ∃ r1, g1 = putR g m r1 ∧ Sq (RS_setF r 6 0) r1 ∧ r1.1 6 = 0) (fun k y g1 hk0 h0 => by
      obtain ⟨rfl, r1, rfl, q1, q2⟩ := h0
      have e1 := hS r1 q1
      have hj : i + 1 + k < nH (r.2 1) := by omega
      have hle := xIt_le (st := r.2 1) (i := i) (N := cN (r.2 1)) k s hs0
      have w4 := (ex_ws w (i := i) (j := i + 1 + k) hi hj).2
      have hhi : Hi (r1.2 1) (exS (r1.2 1) i (i + 1 + k)) := (Hi.refl.up (by omega)).up (by omega)
      have q3 := q1.trans (s_asideSq (r := r1) (du := r1.2 6))
      have hxn : xN (r.2 1) i (i + 1 + k) ≤ 10 := by
        have := cN_le (exS (r.2 1) i (i + 1 + k))
        rw [ex_n] at this
        show cN _ ≤ 10
        omega
      unfold x9_bestExchange_l31 x9_bestExchange_j77_31
      dsimp only
      rw [R_getR rfl, gb_s, R_s (k := 12) (x := 12) rfl (by decide), gb_s, e1, s_head w _ hj, R_isO, gb_s, s_goAside2, cb_s, R_isO, gb_s, s_coldBehind (by omega) (by omega) (by omega) (by rw [e1]; exact w4), cb_s, R_isO, gb_s, s_aside hhi, cb_s, e1]
      rw [e1] at q3
      show ∃ s1 g1, _ = some (Sum.inl s1, g1) ∧ s1 = ((xStep (r.2 1) i (it (xStep (r.2 1) i) k s) k).1, I (xStep (r.2 1) i (it (xStep (r.2 1) i) k s) k).2, I (i + 1 + (k + 1))) ∧ _
      generalize it (xStep (r.2 1) i) k s = y at hle ⊢
      unfold xStep
      by_cases hc : xN (r.2 1) i (i + 1 + k) < y.2
      · have hc2 : ¬ I y.2 ≤ I (xN (r.2 1) i (i + 1 + k)) := by rw [I_le (by omega) (by omega)]; omega
        rw [if_neg hc2, if_pos (Int32.not_le.mp hc2), if_pos hc, I_succ]
        exact ⟨_, _, rfl, rfl, _, rfl, q3, q2⟩
      · have hc2 : I y.2 ≤ I (xN (r.2 1) i (i + 1 + k)) := by rw [I_le (by omega) (by omega)]; omega
        rw [if_pos hc2, if_neg (Int32.not_lt.mpr hc2), if_neg hc, I_succ]
        exact ⟨_, _, rfl, rfl, _, rfl, q3, q2⟩) (fun y g1 h0 => by
      obtain ⟨rfl, r1, rfl, q1, q2⟩ := h0
      have e1 := hS r1 q1
      unfold x9_bestExchange_l31
      dsimp only
      rw [R_getR rfl, gb_s, R_s (k := 12) (x := 12) rfl (by decide), gb_s, e1, show i + 1 + (nH (r.2 1) - (i + 1)) = nH (r.2 1) by omega, s_tail w]
      exact ⟨_, _, rfl, rfl, r1, rfl, q1, q2⟩) (by omega) ⟨rfl, r1, rfl, q1, q2⟩
    obtain ⟨t2, g2, e3, rfl, r3, rfl, q3, q4⟩ := H
    rw [I_succ]
    exact ⟨r3, e3, q3, q4⟩
  have H := loop_inv (body := x9_bestExchange_l15 m) (n := nH (r.2 1)) (fuel := 1000) (s := (-1, I (cN (r.2 1)), 0)) (g := putR g m (RS_setF r 6 0)) (fun n s g1 => s = ((xAll (r.2 1) n).1, I (xAll (r.2 1) n).2, I n) ∧ ∃ r1, g1 = putR g m r1 ∧ Sq (RS_setF r 6 0) r1 ∧ r1.1 6 = 0) (fun s g1 => s = (xAll (r.2 1) (nH (r.2 1))).1 ∧ ∃ r1, g1 = putR g m r1 ∧ Sq (RS_setF r 6 0) r1 ∧ r1.1 6 = 0) (fun n s g1 hn h0 => by
      obtain ⟨rfl, r1, rfl, q1, q2⟩ := h0
      have e1 := hS r1 q1
      obtain ⟨r2, e2, q3, q4⟩ := hin n hn (xAll (r.2 1) n) (xAll_le n) r1 q1 q2
      unfold x9_bestExchange_l15
      dsimp only
      rw [R_getR rfl, gb_s, R_s (k := 12) (x := 12) rfl (by decide), gb_s, e1, s_head w n hn, e2, cb_s, I_succ]
      exact ⟨_, _, rfl, rfl, _, rfl, q3, q4⟩) (fun s g1 h0 => by
      obtain ⟨rfl, r1, rfl, q1, q2⟩ := h0
      have e1 := hS r1 q1
      unfold x9_bestExchange_l15
      dsimp only
      rw [R_getR rfl, gb_s, R_s (k := 12) (x := 12) rfl (by decide), gb_s, e1, s_tail w]
      exact ⟨_, _, rfl, rfl, r1, rfl, q1, q2⟩) (by omega) ⟨rfl, _, rfl, Sq.refl, rfl⟩
  obtain ⟨t2, g2, e3, rfl, r1, rfl, q1, q2⟩ := H
  rw [← cntD_cN] at e3
  have e3' : loopX (x9_bestExchange_l15 m) 1000 (-1, cntD ((RS_setF r 6 0).2 1) 0, 0) (putR g m (RS_setF r 6 0)) = some ((xAll (r.2 1) (nH (r.2 1))).1, putR g m r1) := e3
  rw [e3', cb_s]
  exact ⟨r1, rfl, Sq.f6.trans q1, q2⟩
end Exch
