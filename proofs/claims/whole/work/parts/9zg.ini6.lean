/-! the start: the reference -/
def r00 : RS := ((fun k => if k = 15 then -1 else 0), fun _ _ => 0)
/-- digits of a number, the last first -/
def amS (b : Nat) : Nat → Int32 → St → St
  | 0, _, st => st
  | k + 1, v, st => amS b k (v / 10) (upd st (b + k) (v - v / 10 * 10))
def ahS (st : St) (i : Nat) (a b c : Int32) : St :=
  let s := upd (upd (upd (upd (upd st (49 + 10 * i + 0) a) (49 + 10 * i + 1) b) (49 + 10 * i + 2) c) (49 + 10 * i + 4) (-1)) (49 + 10 * i + 5) (-1)
  let s7 := upd s 7 (s 7 + c)
  upd s7 12 (s7 12 + 1)
section Ini6
variable {g : AH} {m : Nat} {r : RS}
theorem RS_self1 : RS_setA r 1 (r.2 1) = r := by
  refine Prod.ext rfl (funext fun j => ?_)
  show (if j = 1 then r.2 1 else r.2 j) = r.2 j
  by_cases h : j = 1
  · rw [if_pos h, h]
  · rw [if_neg h]
theorem RS_two1 {z z1 : Nat → Int32} : RS_setA (RS_setA r 1 z) 1 z1 = RS_setA r 1 z1 := by
  refine Prod.ext rfl (funext fun j => ?_)
  show (if j = 1 then z1 else if j = 1 then z else r.2 j) = if j = 1 then z1 else r.2 j
  by_cases h : j = 1
  · rw [if_pos h, if_pos h]
  · rw [if_neg h, if_neg h, if_neg h]
theorem RS_got1 {z : Nat → Int32} : (RS_setA r 1 z).2 1 = z := by
  show (if 1 = 1 then z else r.2 1) = z
  exact if_pos rfl
theorem R_st1 {k : Nat} {x v : Int32} (hx : x = I k) (hk0 : k < 149) : astI 0 (putR g m r) (m + 1) x v = some (putR g m (RS_setA r 1 (upd (r.2 1) k v))) := by
  rw [hx]
  exact R_astN (d := 1) (t := 0) (by decide) (by decide) rfl (by show _ < 149; omega)
theorem s_addLoop {a d : Int32} {b : Nat} : ∀ k F (v : Int32) (r : RS), k < F → b + k ≤ 149 → k ≤ 12 → loopX (x9_addMany_l9 m a (I b) d) F (v, I k - 1) (putR g m r) = some ((), putR g m (RS_setA r 1 (amS b k v (r.2 1)))) := by
  intro k
  induction k with
  | zero =>
    intro F v r hF hb hk0
    match F, hF with
    | F + 1, _ =>
      rw [loopX]
      unfold x9_addMany_l9
      dsimp only
      rw [if_pos (by decide)]
      show some ((), putR g m r) = some ((), putR g m (RS_setA r 1 (r.2 1)))
      rw [RS_self1]
  | succ k ih =>
    intro F v r hF hb hk0
    match F, hF with
    | F + 1, hF =>
      have e : I (k + 1) - 1 = I k := by
        rw [show (1 : Int32) = I 1 from rfl, I_sub (by omega)]
        rfl
      have e2 : I k + (-1) = I k - 1 := (Int32.sub_eq_add_neg _ _).symm
      rw [loopX]
      unfold x9_addMany_l9
      dsimp only
      rw [e, if_neg (by rw [show (0 : Int32) = I 0 from rfl, I_lt (by omega) (by decide)]; omega), R_getR (d := 1) rfl, gb_s, R_st1 (k := b + k) (I_add b k) (by omega), gb_s, e2]
      have := ih F (v / 10) (RS_setA r 1 (upd (r.2 1) (b + k) (v - v / 10 * 10))) (by omega) (by omega) (by omega)
      rw [RS_two1, RS_got1] at this
      exact this
theorem s_addMany {a c : Int32} {b k q : Nat} {x y : Int32} (hx : x = I b) (hy : y = I k) (ha : a = I q) (hq : q < 149) (hb : b + k ≤ 149) (hk0 : k ≤ 12) : x9_addMany m a x c y (putR g m r) = some ((), putR g m (RS_setA r 1 (upd (amS b k c (r.2 1)) q y))) := by
  unfold x9_addMany
  rw [hx, hy, s_addLoop k 1000 c r (by omega) hb hk0, cb_s, R_getR (d := 1) rfl, gb_s, R_st1 ha hq, gb_s, RS_two1, RS_got1]
theorem s_set1 {k f : Nat} {x v : Int32} (hx : x = I f) (hk : k < 10) (hf : f < 10) : x9_set m (I k) x v (putR g m r) = some ((), putR g m (RS_setA r 1 (upd (r.2 1) (49 + 10 * k + f) v))) := s_set hx hk hf
theorem s_addHik {i : Nat} {a b c : Int32} (hi : i < 10) (h12 : r.2 1 12 = I i) : x9_addHiker m a b c (putR g m r) = some ((), putR g m (RS_setA r 1 (ahS (r.2 1) i a b c))) := by
  unfold x9_addHiker
  rw [R_getR (d := 1) rfl, gb_s, R_s (k := 12) (x := 12) rfl (by decide), gb_s, h12, R_isO, gb_s, s_set1 (f := 0) (x := 0) rfl hi (by decide), cb_s, R_isO, gb_s, s_set1 (f := 1) (x := 1) rfl hi (by decide), cb_s, R_isO, gb_s, s_set1 (f := 2) (x := 2) rfl hi (by decide), cb_s, R_isO, gb_s, s_set1 (f := 4) (x := 4) rfl hi (by decide), cb_s, R_isO, gb_s, s_set1 (f := 5) (x := 5) rfl hi (by decide), cb_s, RS_two1, RS_two1, RS_two1, RS_two1, RS_got1, RS_got1, RS_got1, RS_got1, R_getR (d := 1) rfl, gb_s, R_s (k := 7) (x := 7) rfl (by decide), gb_s, R_st1 (k := 7) (x := 7) rfl (by decide), gb_s, R_getR (d := 1) rfl, gb_s, R_s (k := 12) (x := 12) rfl (by decide), gb_s, R_st1 (k := 12) (x := 12) rfl (by decide), gb_s, RS_two1, RS_two1, RS_got1, RS_got1]
  rfl
end Ini6
/-- the reference's array as it begins -/
def b0S : St := upd (upd (fun _ => 0) 0 20) 8 20
def b1S : St := upd (amS 13 5 1310 b0S) 9 5
def b2S : St := upd (amS 25 3 352 b1S) 10 3
def b3S : St := upd (amS 37 4 6314 b2S) 11 4
def b4S : St := ahS b3S 0 10 8 12
def b5S : St := ahS b4S 1 7 2 5
def b6S : St := ahS b5S 2 12 0 30
def b7S : St := ahS b6S 3 9 5 1
theorem b7_lo : ∀ j : Nat, j < 149 → b7S j = zA u00 j := by decide +kernel
theorem amS_hi {b j : Nat} : ∀ k v (st : St), b + k ≤ j → amS b k v st j = st j := by
  intro k
  induction k with
  | zero => intro v st h; rfl
  | succ k ih =>
    intro v st h
    rw [amS, ih _ _ (by omega), upd_ne (by omega)]
theorem ahS_hi {st : St} {i j : Nat} {a b c : Int32} (h : 49 + 10 * i + 6 ≤ j) : ahS st i a b c j = st j := by
  unfold ahS
  rw [upd_ne (by omega), upd_ne (by omega), upd_ne (by omega), upd_ne (by omega), upd_ne (by omega), upd_ne (by omega), upd_ne (by omega)]
theorem b7_hi {j : Nat} (h : 149 ≤ j) : b7S j = 0 := by
  unfold b7S b6S b5S b4S
  rw [ahS_hi (by omega), ahS_hi (by omega), ahS_hi (by omega), ahS_hi (by omega)]
  unfold b3S
  rw [upd_ne (by omega), amS_hi _ _ _ (by omega)]
  unfold b2S
  rw [upd_ne (by omega), amS_hi _ _ _ (by omega)]
  unfold b1S
  rw [upd_ne (by omega), amS_hi _ _ _ (by omega)]
  unfold b0S
  rw [upd_ne (by omega), upd_ne (by omega)]
theorem b7_st : b7S = st00 := by
  funext j
  unfold st00
  by_cases h : j < 149
  · rw [if_pos h, b7_lo j h]
  · rw [if_neg h, b7_hi (by omega)]
section Ini7
variable {f : Nat → Option hE} {n : Nat} {w : WS}
theorem d9_s {m : Nat} : updV (updV (updV (updV (updV (updV (updV (updV (updV (updV (updV (fun k => defaultValue (tyX9 k)) 0 (.ref (m + 1))) 1 (.ref (m + 2))) 2 (.ref (m + 3))) 3 (.ref (m + 4))) 4 (.ref (m + 5))) 7 (.ref (m + 6))) 8 (.ref (m + 7))) 15 (.int (-1))) 16 (.ref (m + 8))) 18 (.ref (m + 9))) 19 (.ref (m + 10)) = rVal m r00 := by
  funext k
  match k with
  | 0 | 1 | 2 | 3 | 4 | 5 | 6 | 7 | 8 | 9 | 10 | 11 | 12 | 13 | 14 | 15 | 16 | 17 | 18 | 19 | 20 => rfl
  | k + 21 => rfl
/-- the reference's first cells -/
def U9 (f : Nat → Option hE) (n : Nat) (w : WS) (o : Nat → Value) (M : Nat) : AH := put (f, some (n + M)) n M (sC (cellsW n w) 312 (.inl (9, o)))
theorem U9_a {t K M : Nat} {o : Nat → Value} {x : Int32} (hx : x = I K) (hK : K ≤ 65536) (hM : M ≠ 312) (he : cellsW n w M = .inr (t, K, .inl (fun _ => 0))) : newA t (.inl (fun _ => 0)) (U9 f n w o M) x = some (n + M, U9 f n w o (M + 1)) := newA_i hx hK (by rw [sC_ne hM]; exact he)
theorem U9_v {k M : Nat} {o : Nat → Value} {v : Value} (hM : 312 < M) : putV 9 (U9 f n w o M) (n + 312) k v = some (U9 f n w (updV o k v) M) := by
  unfold U9
  rw [putV_p hM sC_at, sC_two]
theorem U9_e : U9 f n (wR w r00) (rVal (n + 312) r00) 323 = putR (Xw f n 323 w) (n + 312) r00 := by
  rw [X_R (by decide)]
  unfold U9
  rw [sC_id (show cellsW n (wR w r00) 312 = .inl (9, rVal (n + 312) r00) from rfl)]
  rfl
theorem ini9 (hw : wr w = r00) : ∃ G, newO 9 tyX9 (Xw f n 312 w) = some (n + 312, G) ∧ x9_init (n + 312) G = some ((), Xw f n 323 (wR w (RS_setA r00 1 st00))) := by
  have ew : w = wR w r00 := by rw [← hw]; rfl
  refine ⟨U9 f n (wR w r00) (fun k => defaultValue (tyX9 k)) 313, ?_, ?_⟩
  · rw [show Xw f n 312 w = put (f, some (n + 312)) n 312 (cellsW n (wR w r00)) from congrArg (Xw f n 312) ew]
    exact newO_p
  · have d := d9_s (m := n + 312)
    have a1 : ∀ o, newA 0 (.inl (fun _ => 0)) (U9 f n (wR w r00) o 313) 149 = some (n + 312 + 1, U9 f n (wR w r00) o 314) := fun o => U9_a (K := 149) rfl (by decide) (by decide) rfl
    have a2 : ∀ o, newA 0 (.inl (fun _ => 0)) (U9 f n (wR w r00) o 314) 149 = some (n + 312 + 2, U9 f n (wR w r00) o 315) := fun o => U9_a (K := 149) rfl (by decide) (by decide) rfl
    have a3 : ∀ o, newA 0 (.inl (fun _ => 0)) (U9 f n (wR w r00) o 315) 894 = some (n + 312 + 3, U9 f n (wR w r00) o 316) := fun o => U9_a (K := 894) rfl (by decide) (by decide) rfl
    have a4 : ∀ o, newA 0 (.inl (fun _ => 0)) (U9 f n (wR w r00) o 316) 298 = some (n + 312 + 4, U9 f n (wR w r00) o 317) := fun o => U9_a (K := 298) rfl (by decide) (by decide) rfl
    have a5 : ∀ o, newA 2 (.inl (fun _ => 0)) (U9 f n (wR w r00) o 317) 2 = some (n + 312 + 5, U9 f n (wR w r00) o 318) := fun o => U9_a (K := 2) rfl (by decide) (by decide) rfl
    have a6 : ∀ o, newA 0 (.inl (fun _ => 0)) (U9 f n (wR w r00) o 318) 10 = some (n + 312 + 6, U9 f n (wR w r00) o 319) := fun o => U9_a (K := 10) rfl (by decide) (by decide) rfl
    have a7 : ∀ o, newA 1 (.inl (fun _ => 0)) (U9 f n (wR w r00) o 319) 500 = some (n + 312 + 7, U9 f n (wR w r00) o 320) := fun o => U9_a (K := 500) rfl (by decide) (by decide) rfl
    have a8 : ∀ o, newA 0 (.inl (fun _ => 0)) (U9 f n (wR w r00) o 320) 93 = some (n + 312 + 8, U9 f n (wR w r00) o 321) := fun o => U9_a (K := 93) rfl (by decide) (by decide) rfl
    have a9 : ∀ o, newA 2 (.inl (fun _ => 0)) (U9 f n (wR w r00) o 321) 12 = some (n + 312 + 9, U9 f n (wR w r00) o 322) := fun o => U9_a (K := 12) rfl (by decide) (by decide) rfl
    have a10 : ∀ o, newA 1 (.inl (fun _ => 0)) (U9 f n (wR w r00) o 322) 300 = some (n + 312 + 10, U9 f n (wR w r00) o 323) := fun o => U9_a (K := 300) rfl (by decide) (by decide) rfl
    have v : ∀ o k x M, 312 < M → putV 9 (U9 f n (wR w r00) o M) (n + 312) k x = some (U9 f n (wR w r00) (updV o k x) M) := fun o k x M h => U9_v h
    unfold x9_init
    rw [a1, cb_s, v _ _ _ _ (by decide), gb_s, a2, cb_s, v _ _ _ _ (by decide), gb_s, a3, cb_s, v _ _ _ _ (by decide), gb_s, a4, cb_s, v _ _ _ _ (by decide), gb_s, a5, cb_s, v _ _ _ _ (by decide), gb_s, a6, cb_s, v _ _ _ _ (by decide), gb_s, a7, cb_s, v _ _ _ _ (by decide), gb_s, v _ _ _ _ (by decide), gb_s, a8, cb_s, v _ _ _ _ (by decide), gb_s, a9, cb_s, v _ _ _ _ (by decide), gb_s, a10, cb_s, v _ _ _ _ (by decide), gb_s, d, U9_e]
    rw [R_getR (d := 1) rfl, gb_s, R_st1 (k := 0) (x := 0) rfl (by decide), gb_s, R_getR (d := 1) rfl, gb_s, R_st1 (k := 8) (x := 8) rfl (by decide), gb_s, RS_two1, RS_got1, show upd (upd (r00.2 1) 0 20) 8 20 = b0S from rfl, R_isO, gb_s, s_addMany (a := 9) (x := 13) (y := 5) (b := 13) (k := 5) (q := 9) rfl rfl rfl (by decide) (by decide) (by decide), cb_s, RS_two1, RS_got1, show upd (amS 13 5 1310 b0S) 9 5 = b1S from rfl, R_isO, gb_s, s_addMany (a := 10) (x := 25) (y := 3) (b := 25) (k := 3) (q := 10) rfl rfl rfl (by decide) (by decide) (by decide), cb_s, RS_two1, RS_got1, show upd (amS 25 3 352 b1S) 10 3 = b2S from rfl, R_isO, gb_s, s_addMany (a := 11) (x := 37) (y := 4) (b := 37) (k := 4) (q := 11) rfl rfl rfl (by decide) (by decide) (by decide), cb_s, RS_two1, RS_got1, show upd (amS 37 4 6314 b2S) 11 4 = b3S from rfl]
    have h0 : (RS_setA r00 1 b3S).2 1 12 = I 0 := by decide +kernel
    have h1 : (RS_setA r00 1 b4S).2 1 12 = I 1 := by decide +kernel
    have h2 : (RS_setA r00 1 b5S).2 1 12 = I 2 := by decide +kernel
    have h3 : (RS_setA r00 1 b6S).2 1 12 = I 3 := by decide +kernel
    rw [R_isO, gb_s, s_addHik (by decide) h0, cb_s, RS_two1, RS_got1, show ahS b3S 0 10 8 12 = b4S from rfl, R_isO, gb_s, s_addHik (by decide) h1, cb_s, RS_two1, RS_got1, show ahS b4S 1 7 2 5 = b5S from rfl, R_isO, gb_s, s_addHik (by decide) h2, cb_s, RS_two1, RS_got1, show ahS b5S 2 12 0 30 = b6S from rfl, R_isO, gb_s, s_addHik (by decide) h3, cb_s, RS_two1, RS_got1, show ahS b6S 3 9 5 1 = b7S from rfl, b7_st, X_R (by decide)]
end Ini7
