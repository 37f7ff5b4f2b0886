/-! searches: hikers by rank, the coldest; sums -/
def rkB (st : St) (a b : Nat) : Bool := if hk st a 8 = hk st b 8 then decide (hk st a 6 < hk st b 6) else decide (hk st b 8 < hk st a 8)
def rhP (st : St) (h i : Nat) : Bool := (decide (i < h) && !rkB st h i) || rkB st i h
def rhS (st : St) (h : Nat) : Int32 := sm (fun i => if rhP st h i = true then 1 else 0) (nH st)
def rhQ (st : St) (x : Int32) (i : Nat) : Bool := decide (rhS st i = x)
def msS (st : St) (i : Nat) : Int32 := hk st i 0 - wN st i
def csS (st : St) : Nat → Nat
  | 0 => 0
  | n + 1 => if msS st (n + 1) ≤ msS st (csS st n) then csS st n else n + 1
theorem csS_le {st : St} : ∀ n, csS st n ≤ n := by
  intro n
  induction n with
  | zero => exact Nat.le_refl _
  | succ n ih =>
    rw [csS]
    split <;> omega
section Rank
variable {g : AH} {p m : Nat} {h : HS} {st : St} {r : RS}
theorem c_ranksBefore (R : Rel st h) {a b : Nat} (ha : a < nH st) (hb : b < nH st) (ha0 : a < 10) (hb0 : b < 10) : x1_ranksBefore (p + (7 + 2 * a)) (p + (7 + 2 * b)) (putH g p h) = some (bI (rkB st a b), putH g p h) := by
  unfold x1_ranksBefore rkB
  have e2 : ∀ i, i < nH st → h.2.2.2 i 2 = hk st i 8 := fun i hi => R.2.2.2.1 i hi 2 (by decide)
  have e0 : ∀ i, i < nH st → h.2.2.2 i 0 = hk st i 6 := fun i hi => R.2.2.2.1 i hi 0 (by decide)
  repeat first | rw [gb_s] | rw [K_getR ha0] | rw [K_getR hb0] | rw [K_ald ha0 (show (2 : Int32) = I 2 from rfl) (by decide)] | rw [K_ald hb0 (show (2 : Int32) = I 2 from rfl) (by decide)] | rw [K_ald ha0 (show (0 : Int32) = I 0 from rfl) (by decide)] | rw [K_ald hb0 (show (0 : Int32) = I 0 from rfl) (by decide)]
  rw [e2 a ha, e2 b hb, e0 a ha, e0 b hb]
  by_cases h1 : hk st a 8 = hk st b 8
  · rw [if_pos h1, if_pos h1]
    by_cases h2 : hk st b 6 ≤ hk st a 6
    · rw [if_pos h2]; simp [Int32.not_lt.mpr h2, bI]
    · rw [if_neg h2]; simp [Int32.not_le.mp h2, bI]
  · rw [if_neg h1, if_neg h1]
    by_cases h2 : hk st a 8 ≤ hk st b 8
    · rw [if_pos h2]; simp [Int32.not_lt.mpr h2, bI]
    · rw [if_neg h2]; simp [Int32.not_le.mp h2, bI]
theorem c_rankOfHiker (w : Ws st) (R : Rel st h) {b : Nat} (hb : b < nH st) : x3_rankOfHiker p (I b) (putH g p h) = some (rhS st b, putH g p h) := by
  have hh := w.h.2
  have hb0 : b < 10 := by omega
  unfold x3_rankOfHiker rhS
  have hs : ∀ i, i < nH st → ∀ a, x3_rankOfHiker_l4 p (I b) (a, I i) (putH g p h) = some (.inl (a + (if rhP st b i = true then 1 else 0), I (i + 1)), putH g p h) := by
    intro i hi a
    have hi0 : i < 10 := by omega
    have e40 : ∀ x : Bool, x3_rankOfHiker_j40_4 p (I b) a (I i) (bI x) (putH g p h) = some (.inl (a + (if (x || rkB st i b) = true then 1 else 0), I (i + 1)), putH g p h) := by
      intro x
      unfold x3_rankOfHiker_j40_4 x3_rankOfHiker_j65_4 x3_rankOfHiker_j68_4
      rw [H_getR (d := 6) rfl (by decide) (by decide), gb_s, H_hik hi0, gb_s, gb_s, H_hik hb0, gb_s, K_isO hi0, gb_s, c_ranksBefore R hi hb hi0 hb0, cb_s]
      cases x with
      | true =>
        rw [if_neg (by decide), I_succ]
        rfl
      | false =>
        rw [if_pos (show bI false = 0 from rfl)]
        by_cases h1 : rkB st i b = true
        · rw [if_neg (by rw [bI_z, h1]; decide), I_succ]; simp [h1]
        · rw [if_pos ((bI_z _).mpr (by simpa using h1)), I_succ]; simp [h1, Int32.add_zero]
    unfold x3_rankOfHiker_l4 x3_rankOfHiker_j39_4
    dsimp only
    rw [H_getI (by decide), gb_s, c_lt w R hi]
    have e0 : x3_rankOfHiker_j40_4 p (I b) a (I i) 0 (putH g p h) = some (.inl (a + (if (false || rkB st i b) = true then 1 else 0), I (i + 1)), putH g p h) := e40 false
    have e1 : x3_rankOfHiker_j40_4 p (I b) a (I i) 1 (putH g p h) = some (.inl (a + (if (true || rkB st i b) = true then 1 else 0), I (i + 1)), putH g p h) := e40 true
    have hp : rhP st b i = ((decide (i < b) && !rkB st b i) || rkB st i b) := rfl
    rw [e0, hp]
    by_cases h1 : I b ≤ I i
    · have h2 : ¬ i < b := by rw [I_le (by omega) (by omega)] at h1; omega
      rw [if_pos h1]; simp [h2]
    · have h2 : i < b := by rw [I_le (by omega) (by omega)] at h1; omega
      rw [if_neg h1, H_getR (d := 6) rfl (by decide) (by decide), gb_s, H_hik hb0, gb_s, gb_s, H_hik hi0, gb_s, K_isO hb0, gb_s, c_ranksBefore R hb hi hb0 hi0, cb_s, e1, e0]
      by_cases h3 : rkB st b i = true
      · rw [if_neg (by rw [bI_z, h3]; decide)]; simp [h3]
      · rw [if_pos ((bI_z _).mpr (by simpa using h3))]; simp [h2, h3]
  have he : ∀ a, x3_rankOfHiker_l4 p (I b) (a, I (nH st)) (putH g p h) = some (.inr a, putH g p h) := by
    intro a
    unfold x3_rankOfHiker_l4
    dsimp only
    rw [H_getI (by decide), gb_s, c_ge w R]
  rw [loop_sum (fun o => if rhP st b o = true then 1 else 0) hs he (by omega), cb_s]
theorem c_hikerOfRank (w : Ws st) (R : Rel st h) (x : Int32) : x3_hikerOfRank p x (putH g p h) = some (oI (ff (rhQ st x) (nH st)), putH g p h) := by
  have hh := w.h.2
  unfold x3_hikerOfRank
  have hs : ∀ i, i < nH st → rhQ st x i = false → x3_hikerOfRank_l2 p x (I i) (putH g p h) = some (.inl (I (i + 1)), putH g p h) := by
    intro i hi hp
    unfold x3_hikerOfRank_l2
    rw [H_getI (by decide), gb_s, c_lt w R hi, H_isO, gb_s, c_rankOfHiker w R hi, cb_s, if_neg (of_decide_eq_false hp), I_succ]
  have hy : ∀ i, i < nH st → rhQ st x i = true → x3_hikerOfRank_l2 p x (I i) (putH g p h) = some (.inr (.inr (I i)), putH g p h) := by
    intro i hi hp
    unfold x3_hikerOfRank_l2
    rw [H_getI (by decide), gb_s, c_lt w R hi, H_isO, gb_s, c_rankOfHiker w R hi, cb_s, if_pos (of_decide_eq_true hp)]
  have he : x3_hikerOfRank_l2 p x (I (nH st)) (putH g p h) = some (.inr (.inl ()), putH g p h) := by
    unfold x3_hikerOfRank_l2
    rw [H_getI (by decide), gb_s, c_ge w R]
  rw [loop_find (rhQ st x) (fun k => .inr (I k)) hs hy he (by omega), cb_s]
  cases ff (rhQ st x) (nH st) <;> rfl
def ahB (st : St) (a b : Nat) : Bool := if hk st a 8 = hk st b 8 then (if hk st b 6 = hk st a 6 then decide (a < b) else decide (hk st a 6 < hk st b 6)) else decide (hk st b 8 < hk st a 8)
theorem s_isAhead (w : Ws (r.2 1)) {S C D O : Nat} (bd : Bl S C D O (r.2 1)) (hO : O < 2 ^ 29) {a b : Nat} (ha : a < 10) (hb : b < 10) : x9_isAhead m (I a) (I b) (putR g m r) = some (bI (ahB (r.2 1) a b), putR g m r) := by
  obtain ⟨x, x1, x2⟩ := bd.fld (i := a) (f := 8) ha (by decide) rfl
  obtain ⟨y, y1, y2⟩ := bd.fld (i := b) (f := 8) hb (by decide) rfl
  obtain ⟨z, z1, z2⟩ := bd.fld (i := a) (f := 6) ha (by decide) rfl
  obtain ⟨t, t1, t2⟩ := bd.fld (i := b) (f := 6) hb (by decide) rfl
  unfold x9_isAhead x9_isAhead_j36 ahB
  rw [R_isO, gb_s, s_get (f := 8) (x := 8) rfl ha (by decide), cb_s, R_isO, gb_s, s_get (f := 8) (x := 8) rfl hb (by decide), cb_s, R_isO, gb_s, s_get (f := 6) (x := 6) rfl hb (by decide), cb_s, R_isO, gb_s, s_get (f := 6) (x := 6) rfl ha (by decide), cb_s]
  show (if hk (r.2 1) a 8 - hk (r.2 1) b 8 = 0 then (if hk (r.2 1) b 6 - hk (r.2 1) a 6 = 0 then _ else if hk (r.2 1) b 6 - hk (r.2 1) a 6 ≤ 0 then _ else _) else (if hk (r.2 1) a 8 - hk (r.2 1) b 8 = 0 then _ else if hk (r.2 1) a 8 - hk (r.2 1) b 8 ≤ 0 then _ else _)) = _
  rw [x2, y2, z2, t2]
  have e1 := d_pos (a := x) (b := y) (by omega) (by omega)
  have e2 := d_zero (a := x) (b := y) (by omega) (by omega)
  have e3 := d_pos (a := t) (b := z) (by omega) (by omega)
  have e4 := d_zero (a := t) (b := z) (by omega) (by omega)
  by_cases h1 : I x = I y
  · rw [if_pos (e2.mpr h1), if_pos h1]
    by_cases h2 : I t = I z
    · rw [if_pos (e4.mpr h2), if_pos h2]
      by_cases h3 : I b ≤ I a
      · have h5 : ¬ a < b := by rw [I_le (by omega) (by omega)] at h3; omega
        rw [if_pos h3]; simp [h5, bI]
      · have h5 : a < b := by rw [I_le (by omega) (by omega)] at h3; omega
        rw [if_neg h3]; simp [h5, bI]
    · rw [if_neg (fun hc => h2 (e4.mp hc)), if_neg h2]
      by_cases h3 : I t - I z ≤ 0
      · rw [if_pos h3]
        have h5 : ¬ I z < I t := fun hc => absurd (e3.mpr hc) (Int32.not_lt.mpr h3)
        simp [h5, bI]
      · rw [if_neg h3]
        have h5 : I z < I t := e3.mp (Int32.not_le.mp h3)
        simp [h5, bI]
  · rw [if_neg (fun hc => h1 (e2.mp hc)), if_neg (fun hc => h1 (e2.mp hc)), if_neg h1]
    by_cases h3 : I x - I y ≤ 0
    · rw [if_pos h3]
      have h5 : ¬ I y < I x := fun hc => absurd (e1.mpr hc) (Int32.not_lt.mpr h3)
      simp [h5, bI]
    · rw [if_neg h3]
      have h5 : I y < I x := e1.mp (Int32.not_le.mp h3)
      simp [h5, bI]
theorem rh_eq (st : St) {a b : Nat} (hab : a ≠ b) : rhP st b a = ahB st a b := by
  unfold rhP ahB rkB
  by_cases h1 : hk st a 8 = hk st b 8
  · rw [if_pos h1, if_pos h1.symm, if_pos h1]
    by_cases h2 : hk st b 6 = hk st a 6
    · rw [if_pos h2, h2]
      simp
    · rw [if_neg h2]
      rcases Int32.lt_or_le (hk st a 6) (hk st b 6) with h3 | h3
      · simp [h3]
      · have h4 : hk st b 6 < hk st a 6 := Int32.lt_of_le_of_ne h3 h2
        simp [h4, Int32.not_lt.mpr h3]
  · rw [if_neg h1, if_neg (Ne.symm h1), if_neg h1]
    rcases Int32.lt_or_le (hk st b 8) (hk st a 8) with h3 | h3
    · simp [h3]
    · have h4 : hk st a 8 < hk st b 8 := Int32.lt_of_le_of_ne h3 h1
      simp [h4, Int32.not_lt.mpr h3]
theorem rh_self (st : St) (b : Nat) : rhP st b b = false := by
  unfold rhP rkB
  simp
theorem s_rankOf (w : Ws (r.2 1)) {S C D O : Nat} (bd : Bl S C D O (r.2 1)) (hO : O < 2 ^ 29) {b : Nat} (hb : b < nH (r.2 1)) : x9_rankOf m (I b) (putR g m r) = some (rhS (r.2 1) b, putR g m r) := by
  have hh := w.h.2
  unfold x9_rankOf rhS
  have hs : ∀ i, i < nH (r.2 1) → ∀ a, x9_rankOf_l4 m (I b) (a, I i) (putR g m r) = some (.inl (a + (if rhP (r.2 1) b i = true then 1 else 0), I (i + 1)), putR g m r) := by
    intro i hi a
    unfold x9_rankOf_l4 x9_rankOf_j34_4 x9_rankOf_j35_4
    dsimp only
    rw [R_getR rfl, gb_s, R_s (k := 12) (x := 12) rfl (by decide), gb_s, s_head w i hi, R_isO, gb_s, s_isAhead w bd hO (by omega) (by omega), cb_s]
    by_cases h1 : I i = I b
    · have h2 : i = b := (I_eq (by omega) (by omega)).mp h1
      rw [if_pos h1, h2, rh_self, I_succ]
      rfl
    · have h2 : i ≠ b := fun hc => h1 (by rw [hc])
      rw [if_neg h1, rh_eq _ h2]
      by_cases h3 : ahB (r.2 1) i b = true
      · rw [if_neg (by rw [bI_z, h3]; decide), if_pos h3, I_succ]
      · rw [if_pos ((bI_z _).mpr (by simpa using h3)), if_neg h3, I_succ]
  have he : ∀ a, x9_rankOf_l4 m (I b) (a, I (nH (r.2 1))) (putR g m r) = some (.inr a, putR g m r) := by
    intro a
    unfold x9_rankOf_l4
    dsimp only
    rw [R_getR rfl, gb_s, R_s (k := 12) (x := 12) rfl (by decide), gb_s, s_tail w]
  rw [loop_sum (fun o => if rhP (r.2 1) b o = true then 1 else 0) hs he (by omega), cb_s]
theorem s_hikerAtRank (w : Ws (r.2 1)) {S C D O : Nat} (bd : Bl S C D O (r.2 1)) (hO : O < 2 ^ 29) (x : Int32) : x9_hikerAtRank m x (putR g m r) = some ((ansO r (ff (rhQ (r.2 1) x) (nH (r.2 1)))).1, putR g m (ansO r (ff (rhQ (r.2 1) x) (nH (r.2 1)))).2) := by
  have hh := w.h.2
  have w' : Ws ((RS_setF r 6 0).2 1) := w
  have bd' : Bl S C D O ((RS_setF r 6 0).2 1) := bd
  unfold x9_hikerAtRank
  rw [R_putI rfl, gb_s]
  have hs : ∀ i, i < nH (r.2 1) → rhQ (r.2 1) x i = false → x9_hikerAtRank_l7 m x (I i) (putR g m (RS_setF r 6 0)) = some (.inl (I (i + 1)), putR g m (RS_setF r 6 0)) := by
    intro i hi hp
    unfold x9_hikerAtRank_l7
    rw [R_getR rfl, gb_s, R_s (k := 12) (x := 12) rfl (by decide), gb_s, s_head w' i hi, R_isO, gb_s, s_rankOf w' bd' hO hi, cb_s]
    show (if rhS (r.2 1) i = x then _ else _) = _
    rw [if_neg (of_decide_eq_false hp), I_succ]
  have hy : ∀ i, i < nH (r.2 1) → rhQ (r.2 1) x i = true → x9_hikerAtRank_l7 m x (I i) (putR g m (RS_setF r 6 0)) = some (.inr (.inr (I i)), putR g m (RS_setF r 6 0)) := by
    intro i hi hp
    unfold x9_hikerAtRank_l7
    rw [R_getR rfl, gb_s, R_s (k := 12) (x := 12) rfl (by decide), gb_s, s_head w' i hi, R_isO, gb_s, s_rankOf w' bd' hO hi, cb_s]
    show (if rhS (r.2 1) i = x then _ else _) = _
    rw [if_pos (of_decide_eq_true hp)]
  have he : x9_hikerAtRank_l7 m x (I (nH (r.2 1))) (putR g m (RS_setF r 6 0)) = some (.inr (.inl ()), putR g m (RS_setF r 6 0)) := by
    unfold x9_hikerAtRank_l7
    rw [R_getR rfl, gb_s, R_s (k := 12) (x := 12) rfl (by decide), gb_s]
    exact s_tail w' _ _
  rw [loop_find (rhQ (r.2 1) x) (fun k => .inr (I k)) hs hy he (by omega), cb_s]
  cases ff (rhQ (r.2 1) x) (nH (r.2 1)) with
  | some k => rfl
  | none =>
    show gb (isO 9 (putR g m (RS_setF r 6 0)) m) _ = _
    rw [R_isO, gb_s, s_fail, cb_s, RSF_two]
    rfl
theorem c_missingMost (w : Ws st) (R : Rel st h) (M : Meas st h) (h1 : 1 ≤ nH st) : x3_hikerMissingMost p (putH g p h) = some (I (csS st (nH st - 1)), putH g p h) := by
  have hh := w.h.2
  unfold x3_hikerMissingMost
  have H := loop_up (body := x3_hikerMissingMost_l4 p) (fuel := 1000) (n := nH st - 1) (fun i => (I (csS st i), I (i + 1))) (fun _ => putH g p h) (t := I (csS st (nH st - 1))) (g1 := putH g p h) (fun i hi => by
    have hc := csS_le (st := st) i
    have e : ∀ q, q < nH st → h.2.2.1 q 0 - h.2.2.1 q 7 = msS st q := fun q hq => by
      rw [R.2.2.1 q hq 0 (by decide), (M.1 q hq).2]
      rfl
    unfold x3_hikerMissingMost_l4 x3_hikerMissingMost_j55_4
    dsimp only
    have x1 : i + 1 < 10 := by omega
    have x2 : csS st i < 10 := by omega
    rw [H_getI (by decide), gb_s, c_lt w R (by omega)]
    repeat first | rw [gb_s] | rw [H_getR (d := 6) rfl (by decide) (by decide)] | rw [H_hik x1] | rw [H_hik x2] | rw [K_getI (k := 0) x1 (by decide)] | rw [K_getI (k := 0) x2 (by decide)] | rw [K_getI (k := 7) x1 (by decide)] | rw [K_getI (k := 7) x2 (by decide)]
    rw [e _ (by omega), e _ (by omega), csS]
    by_cases h3 : msS st (i + 1) ≤ msS st (csS st i)
    · rw [if_pos h3, if_pos h3, I_succ]
    · rw [if_neg h3, if_neg h3, I_succ]) (by
    unfold x3_hikerMissingMost_l4
    dsimp only
    rw [H_getI (by decide), gb_s, show nH st - 1 + 1 = nH st by omega, c_ge w R]) (by omega)
  rw [show loopX (x3_hikerMissingMost_l4 p) 1000 (0, 1) (putH g p h) = _ from H, cb_s]
theorem s_missing (w : Ws (r.2 1)) {i : Nat} (hi : i < 10) : x9_missing m (I i) (putR g m r) = some (msS (r.2 1) i, putR g m r) := by
  unfold x9_missing
  rw [R_isO, gb_s, s_get (f := 0) (x := 0) rfl hi (by decide), cb_s, R_isO, gb_s, s_warmthNow w hi, cb_s]
  rfl
theorem s_coldestHiker (w : Ws (r.2 1)) (h1 : 1 ≤ nH (r.2 1)) : x9_coldestHiker m (putR g m r) = some (I (csS (r.2 1) (nH (r.2 1) - 1)), putR g m (RS_setF r 6 0)) := by
  have hh := w.h.2
  have w' : Ws ((RS_setF r 6 0).2 1) := w
  unfold x9_coldestHiker
  rw [R_putI rfl, gb_s]
  have H := loop_up (body := x9_coldestHiker_l9 m) (fuel := 1000) (n := nH (r.2 1) - 1) (fun i => (I (csS (r.2 1) i), I (i + 1))) (fun _ => putR g m (RS_setF r 6 0)) (t := I (csS (r.2 1) (nH (r.2 1) - 1))) (g1 := putR g m (RS_setF r 6 0)) (fun i hi => by
    have hc := csS_le (st := r.2 1) i
    unfold x9_coldestHiker_l9 x9_coldestHiker_j38_9
    dsimp only
    rw [R_getR rfl, gb_s, R_s (k := 12) (x := 12) rfl (by decide), gb_s, s_head w' (i + 1) (show i + 1 < nH (r.2 1) by omega), R_isO, gb_s, s_missing w' (i := i + 1) (by omega), cb_s, R_isO, gb_s, s_missing w' (i := csS (r.2 1) i) (by omega), cb_s, csS]
    show (if msS (r.2 1) (i + 1) ≤ msS (r.2 1) (csS (r.2 1) i) then _ else _) = _
    by_cases h3 : msS (r.2 1) (i + 1) ≤ msS (r.2 1) (csS (r.2 1) i)
    · rw [if_pos h3, if_pos h3, I_succ]
    · rw [if_neg h3, if_neg h3, I_succ]) (by
    unfold x9_coldestHiker_l9
    dsimp only
    rw [R_getR rfl, gb_s, R_s (k := 12) (x := 12) rfl (by decide), gb_s, show nH (r.2 1) - 1 + 1 = nH (r.2 1) by omega]
    exact s_tail w' _ _) (by omega)
  rw [show loopX (x9_coldestHiker_l9 m) 1000 (0, 1) (putR g m (RS_setF r 6 0)) = _ from H, cb_s]
def sumW (st : St) : Int32 := sm (fun i => wN st i) (nH st)
theorem c_sumOfWarmths (w : Ws st) (R : Rel st h) (M : Meas st h) : x3_sumOfWarmths p (putH g p h) = some (sumW st, putH g p h) := by
  have hh := w.h.2
  unfold x3_sumOfWarmths sumW
  have hs : ∀ i, i < nH st → ∀ a, x3_sumOfWarmths_l4 p (a, I i) (putH g p h) = some (.inl (a + wN st i, I (i + 1)), putH g p h) := by
    intro i hi a
    unfold x3_sumOfWarmths_l4
    dsimp only
    rw [H_getI (by decide), gb_s, c_lt w R hi, H_getR (d := 6) rfl (by decide) (by decide), gb_s, H_hik (by omega), gb_s, K_getI (by omega) (by decide), gb_s, (M.1 i hi).2, I_succ]
  have he : ∀ a, x3_sumOfWarmths_l4 p (a, I (nH st)) (putH g p h) = some (.inr a, putH g p h) := by
    intro a
    unfold x3_sumOfWarmths_l4
    dsimp only
    rw [H_getI (by decide), gb_s, c_ge w R]
  rw [loop_sum (fun i => wN st i) hs he (by omega), cb_s]
theorem c_sumOfHours (w : Ws st) (R : Rel st h) {d : Nat} (hd : d < 4) {x : Int32} (hx : x = I d) : x3_sumOfHours p x (putH g p h) = some (sumF st (6 + d), putH g p h) := by
  have hh := w.h.2
  unfold x3_sumOfHours sumF
  have hs : ∀ i, i < nH st → ∀ a, x3_sumOfHours_l4 p x (a, I i) (putH g p h) = some (.inl (a + hk st i (6 + d), I (i + 1)), putH g p h) := by
    intro i hi a
    unfold x3_sumOfHours_l4
    dsimp only
    rw [H_getI (by decide), gb_s, c_lt w R hi, H_getR (d := 6) rfl (by decide) (by decide), gb_s, H_hik (by omega), gb_s, K_getR (by omega), gb_s, K_ald (by omega) hx hd, gb_s, R.2.2.2.1 i hi d hd, I_succ]
  have he : ∀ a, x3_sumOfHours_l4 p x (a, I (nH st)) (putH g p h) = some (.inr a, putH g p h) := by
    intro a
    unfold x3_sumOfHours_l4
    dsimp only
    rw [H_getI (by decide), gb_s, c_ge w R]
  rw [loop_sum (fun i => hk st i (6 + d)) hs he (by omega), cb_s]
end Rank
