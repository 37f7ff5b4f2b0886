/-! the start: the class's other objects -/
section Ini3
variable {f : Nat → Option hE} {n L : Nat} {e : Nat → hE}
theorem d5_s {q : Nat} : updV (fun k => defaultValue (tyX5 k)) 0 (.ref q) = fun k => if k = 0 then .ref q else .null := by
  funext k
  match k with
  | 0 => rfl
  | k + 1 => rfl
theorem mk5 (h5 : e L = .inl (5, fun k => if k = 0 then .ref (n + (L + 1)) else .null)) (he : ∀ d, d < 27 → e (L + 1 + d) = hutB (n + (L + 1)) hut0 d) : ∃ G, newO 5 tyX5 (put (f, some (n + L)) n L e) = some (n + L, G) ∧ x5_init (n + L) G = some ((), put (f, some (n + (L + 1 + 27))) n (L + 1 + 27) e) := by
  refine ⟨_, newO_p, ?_⟩
  obtain ⟨G, m1, m2⟩ := mk3 (f := f) (n := n) (L := L + 1) (e := sC e L (.inl (5, fun k => defaultValue (tyX5 k)))) (fun d hd => by rw [sC_ne (by omega)]; exact he d hd)
  unfold x5_init
  rw [m1, cb_s, m2, cb_s, putV_p (by omega) sC_at, gb_s, sC_two, d5_s, sC_id h5]
theorem d2_s {q : Nat} : updV (fun k => defaultValue (tyX2 k)) 0 (.ref q) = fun k => if k = 0 then .ref q else .int 0 := by
  funext k
  match k with
  | 0 => rfl
  | 1 => rfl
  | k + 2 => rfl
theorem mk2 (h2 : e L = .inl (2, fun k => if k = 0 then .ref (n + (L + 1)) else .int 0)) (h5 : e (L + 1) = .inr (5, 6, .inr (.inr (rHut (n + (L + 1 + 1)) 6)))) (he : ∀ i, i < 6 → ∀ d, d < 27 → e (L + 1 + 1 + 27 * i + d) = hutB (n + (L + 1 + 1 + 27 * i)) hut0 d) : ∃ G, newO 2 tyX2 (put (f, some (n + L)) n L e) = some (n + L, G) ∧ x2_init (n + L) G = some ((), put (f, some (n + (L + 1 + 1 + 27 * 6))) n (L + 1 + 1 + 27 * 6) e) := by
  refine ⟨_, newO_p, ?_⟩
  unfold x2_init
  rw [mkHuts (c := 6) (x := 6) rfl (by decide) (by rw [sC_ne (by omega)]; exact h5) (fun i hi d hd => by rw [sC_ne (by omega)]; exact he i hi d hd), cb_s, putV_p (by omega) sC_at, gb_s, sC_two, d2_s, sC_id h2]
theorem d7_s {q : Nat} : updV (fun k => defaultValue (tyX7 k)) 0 (.ref q) = oRI q (tiC 0 0 0 0) := by
  funext k
  match k with
  | 0 => rfl
  | 1 => rfl
  | 2 => rfl
  | 3 => rfl
  | 4 => rfl
  | k + 5 => rfl
theorem d0_s {q : Nat} : updV (updV (updV (fun k => defaultValue (tyX0 k)) 0 (.ref q)) 1 (.int 0)) 2 (.int (-1)) = oRI q (giC 0 (-1) 0) := by
  funext k
  match k with
  | 0 => rfl
  | 1 => rfl
  | 2 => rfl
  | 3 => rfl
  | k + 4 => rfl
theorem mk0 (h0 : e L = .inl (0, oRI (n + (L + 1)) (giC 0 (-1) 0))) (h7 : e (L + 1) = .inl (7, oRI (n + (L + 1 + 1)) (tiC 0 0 0 0))) (ha : e (L + 1 + 1) = .inr (0, 500, .inl (fun _ => 0))) : ∃ G, newO 0 tyX0 (put (f, some (n + L)) n L e) = some (n + L, G) ∧ x0_init (n + L) G = some ((), put (f, some (n + (L + 1 + 1 + 1))) n (L + 1 + 1 + 1) e) := by
  refine ⟨_, newO_p, ?_⟩
  unfold x0_init x7_init
  rw [newO_p, cb_s, newA_i (K := 500) (x := 500) rfl (by decide) (by rw [sC_ne (by omega), sC_ne (by omega)]; exact ha), cb_s, putV_p (by omega) sC_at, gb_s, sC_two, d7_s, sC_id (d := L + 1) (by rw [sC_ne (by omega)]; exact h7), cb_s, putV_p (by omega) sC_at, gb_s, sC_two, putV_p (by omega) sC_at, gb_s, sC_two, putV_p (by omega) sC_at, gb_s, sC_two, d0_s, sC_id h0]
theorem d6_s {a b c : Nat} : updV (updV (updV (fun k => defaultValue (tyX6 k)) 0 (.ref a)) 1 (.ref b)) 2 (.ref c) = fun k => if k = 0 then .ref a else if k = 1 then .ref b else if k = 2 then .ref c else .int 0 := by
  funext k
  match k with
  | 0 => rfl
  | 1 => rfl
  | 2 => rfl
  | k + 3 => rfl
theorem mk6 (h6 : e L = .inl (6, fun k => if k = 0 then .ref (n + (L + 1)) else if k = 1 then .ref (n + (L + 1 + 1)) else if k = 2 then .ref (n + (L + 1 + 1 + 1)) else .int 0)) (h1 : e (L + 1) = .inr (0, 30, .inl (fun _ => 0))) (h2 : e (L + 1 + 1) = .inr (0, 30, .inl (fun _ => 0))) (h3 : e (L + 1 + 1 + 1) = .inr (0, 30, .inl (fun _ => 0))) : ∃ G, newO 6 tyX6 (put (f, some (n + L)) n L e) = some (n + L, G) ∧ x6_init (n + L) G = some ((), put (f, some (n + (L + 1 + 1 + 1 + 1))) n (L + 1 + 1 + 1 + 1) e) := by
  refine ⟨_, newO_p, ?_⟩
  unfold x6_init
  rw [newA_i (K := 30) (x := 30) rfl (by decide) (by rw [sC_ne (by omega)]; exact h1), cb_s, putV_p (by omega) sC_at, gb_s, sC_two, newA_i (K := 30) (x := 30) rfl (by decide) (by rw [sC_ne (by omega)]; exact h2), cb_s, putV_p (by omega) sC_at, gb_s, sC_two, newA_i (K := 30) (x := 30) rfl (by decide) (by rw [sC_ne (by omega)]; exact h3), cb_s, putV_p (by omega) sC_at, gb_s, sC_two, d6_s, sC_id h6]
theorem d4_s {q : Nat} : updV (fun k => defaultValue (tyX4 k)) 0 (.ref q) = fun k => if k = 0 then .ref q else .int 0 := by
  funext k
  match k with
  | 0 => rfl
  | 1 => rfl
  | k + 2 => rfl
theorem mk4 (h4 : e L = .inl (4, fun k => if k = 0 then .ref (n + (L + 1)) else .int 0)) (h1 : e (L + 1) = .inr (0, 400, .inl (fun _ => 0))) : ∃ G, newO 4 tyX4 (put (f, some (n + L)) n L e) = some (n + L, G) ∧ x4_init (n + L) G = some ((), put (f, some (n + (L + 1 + 1))) n (L + 1 + 1) e) := by
  refine ⟨_, newO_p, ?_⟩
  unfold x4_init
  rw [newA_i (K := 400) (x := 400) rfl (by decide) (by rw [sC_ne (by omega)]; exact h1), cb_s, putV_p (by omega) sC_at, gb_s, sC_two, d4_s, sC_id h4]
/-- the object itself -/
def q8 (n j k : Nat) : Value := if k < j then o8 n k else .null
theorem q8_0 : (fun k => defaultValue (tyX8 k)) = q8 n 0 := by
  funext k
  unfold q8
  rw [if_neg (Nat.not_lt_zero k)]
  match k with
  | 0 | 1 | 2 | 3 | 4 | 5 | 6 | 7 | 8 => rfl
  | k + 9 => rfl
theorem q8_s {j : Nat} {v : Value} (hv : v = o8 n j) : updV (q8 n j) j v = q8 n (j + 1) := by
  funext k
  show (if k = j then v else q8 n j k) = q8 n (j + 1) k
  unfold q8
  by_cases h : k = j
  · rw [if_pos h, if_pos (by omega), hv, h]
  · rw [if_neg h]
    by_cases h1 : k < j
    · rw [if_pos h1, if_pos (by omega)]
    · rw [if_neg h1, if_neg (by omega)]
theorem q8_9 : q8 n 9 = o8 n := by
  funext k
  match k with
  | 0 | 1 | 2 | 3 | 4 | 5 | 6 | 7 | 8 => rfl
  | k + 9 =>
    unfold q8
    rw [if_neg (by omega)]
    rfl
/-- the world's first cells -/
def T8 (f : Nat → Option hE) (n : Nat) (w : WS) (j M : Nat) : AH := put (f, some (n + M)) n M (sC (cellsW n w) 0 (.inl (8, q8 n j)))
theorem T8_put {w : WS} {j M q : Nat} (hM : 0 < M) (hq : .ref q = o8 n j) : putV 8 (T8 f n w j M) n j (.ref q) = some (T8 f n w (j + 1) M) := by
  unfold T8
  have := putV_p (g := (f, some (n + M))) (n := n) (k := j) (v := .ref q) hM (sC_at (e := cellsW n w) (d := 0) (v := .inl (8, q8 n j)))
  rw [Nat.add_zero] at this
  rw [this, sC_two, q8_s hq]
theorem T8_hut {w : WS} {j k M : Nat} (hk0 : k < 11) (hM : M = hp k) (hw : w.1 k = hut0) : ∃ G, newO 3 tyX3 (T8 f n w j M) = some (n + M, G) ∧ x3_init (n + M) G = some ((), T8 f n w j (M + 27)) :=
  mk3 (f := f) (n := n) (L := M) (e := sC (cellsW n w) 0 (.inl (8, q8 n j))) (fun d hd => by
    have := hp_lt hk0
    rw [sC_ne (by omega), hM, cell_hut hk0 hd, hw])
theorem cellW_hut {w : WS} {k M d : Nat} (hk0 : k < 11) (hM : M = hp k) (hw : w.1 k = hut0) (hd : d < 27) : cellsW n w (M + d) = hutB (n + M) hut0 d := by
  rw [hM, cell_hut hk0 hd, hw]
end Ini3


