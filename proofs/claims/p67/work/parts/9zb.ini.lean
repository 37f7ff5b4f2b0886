/-! the start: cells are made one after the other -/
def sC (e : Nat → hE) (d : Nat) (v : hE) : Nat → hE := fun j => if j = d then v else e j
theorem sC_at {e : Nat → hE} {d : Nat} {v : hE} : sC e d v d = v := if_pos rfl
theorem sC_ne {e : Nat → hE} {d j : Nat} {v : hE} (h : j ≠ d) : sC e d v j = e j := if_neg h
theorem sC_two {e : Nat → hE} {d : Nat} {v u : hE} : sC (sC e d v) d u = sC e d u := by
  funext j
  unfold sC
  by_cases h : j = d
  · rw [if_pos h, if_pos h]
  · rw [if_neg h, if_neg h, if_neg h]
theorem sC_id {e : Nat → hE} {d : Nat} {v : hE} (h : e d = v) : sC e d v = e := by
  funext j
  unfold sC
  by_cases hj : j = d
  · rw [if_pos hj, hj, h]
  · rw [if_neg hj]
section Ini
variable {f : Nat → Option hE} {n L : Nat} {e : Nat → hE}
theorem hnew_put {v : hE} : hnew (put (f, some (n + L)) n L e) (n + L) v = put (f, some (n + (L + 1))) n (L + 1) (sC e L v) := by
  refine Prod.ext (funext fun q => ?_) rfl
  show (if q = n + L then some v else if n ≤ q ∧ q < n + L then some (e (q - n)) else f q) = if n ≤ q ∧ q < n + (L + 1) then some (sC e L v (q - n)) else f q
  by_cases h : q = n + L
  · rw [if_pos h, if_pos (by omega), show q - n = L by omega, sC_at]
  · rw [if_neg h]
    by_cases h2 : n ≤ q ∧ q < n + L
    · rw [if_pos h2, if_pos (by omega), sC_ne (by omega)]
    · rw [if_neg h2, if_neg (by omega)]
theorem newO_p {ci : Nat} {ty : Nat → FieldType} : newO ci ty (put (f, some (n + L)) n L e) = some (n + L, put (f, some (n + (L + 1))) n (L + 1) (sC e L (.inl (ci, fun k => defaultValue (ty k))))) := by
  rw [← hnew_put]
  rfl
theorem newA_p {t K : Nat} {c : (Nat → Int32) ⊕ (Nat → Int64) ⊕ (Nat → Option Nat)} {x : Int32} (hx : x = I K) (hK : K ≤ 65536) : newA t c (put (f, some (n + L)) n L e) x = some (n + L, put (f, some (n + (L + 1))) n (L + 1) (sC e L (.inr (t, K, c)))) := by
  rw [← hnew_put, hx]
  show (if I K < 0 ∨ 65536 < (I K).toNatClampNeg then none else some (n + L, hnew _ (n + L) (.inr (t, (I K).toNatClampNeg, c)))) = _
  rw [I_nat (by omega), if_neg]
  intro h
  rcases h with h | h
  · exact absurd (Int32.zero_le_ofNat_of_lt (a := K) (by omega)) (Int32.not_le.mpr h)
  · omega
/-- an array that is zero from the start -/
theorem newA_i {t K : Nat} {c : (Nat → Int32) ⊕ (Nat → Int64) ⊕ (Nat → Option Nat)} {x : Int32} (hx : x = I K) (hK : K ≤ 65536) (he : e L = .inr (t, K, c)) : newA t c (put (f, some (n + L)) n L e) x = some (n + L, put (f, some (n + (L + 1))) n (L + 1) e) := by
  rw [newA_p hx hK, sC_id he]
theorem putV_p {g : AH} {ci d k : Nat} {o : Nat → Value} {v : Value} (hd : d < L) (hb : e d = .inl (ci, o)) : putV ci (put g n L e) (n + d) k v = some (put g n L (sC e d (.inl (ci, updV o k v)))) :=
  B_putV hd hb sC_at (fun _ _ hj => sC_ne hj)
theorem getR_p {g : AH} {ci d k x : Nat} {o : Nat → Value} (hd : d < L) (hb : e d = .inl (ci, o)) (ho : o k = .ref x) : getR ci (put g n L e) (n + d) k = some x := B_getR hd hb ho
/-- a hiker is made -/
def k0 (p i : Nat) (k : Nat) : Value := if k < 8 then .int (if k = 4 ∨ k = 5 then -1 else 0) else if k = 8 then .ref (p + (8 + 2 * i)) else .null
def d1 (j : Nat) (r : Value) (k : Nat) : Value := if k < 8 then .int (if (k = 4 ∧ 0 < j) ∨ (k = 5 ∧ 1 < j) then -1 else 0) else if k = 8 then r else .null
theorem d1_0 : (fun k => defaultValue (tyX1 k)) = d1 0 .null := by
  funext k
  match k with
  | 0 | 1 | 2 | 3 | 4 | 5 | 6 | 7 | 8 => rfl
  | k + 9 => rfl
theorem d1_1 : updV (d1 0 .null) 4 (.int (-1)) = d1 1 .null := by
  funext k
  match k with
  | 0 | 1 | 2 | 3 | 4 | 5 | 6 | 7 | 8 => rfl
  | k + 9 => rfl
theorem d1_2 : updV (d1 1 .null) 5 (.int (-1)) = d1 2 .null := by
  funext k
  match k with
  | 0 | 1 | 2 | 3 | 4 | 5 | 6 | 7 | 8 => rfl
  | k + 9 => rfl
theorem d1_3 {r : Value} : updV (d1 2 .null) 8 r = d1 2 r := by
  funext k
  match k with
  | 0 | 1 | 2 | 3 | 4 | 5 | 6 | 7 | 8 => rfl
  | k + 9 => rfl
theorem mk1 (h0 : e L = .inl (1, d1 2 (.ref (n + (L + 1))))) (h1 : e (L + 1) = .inr (0, 4, .inl (fun _ => 0))) : ∃ G, newO 1 tyX1 (put (f, some (n + L)) n L e) = some (n + L, G) ∧ x1_init (n + L) G = some ((), put (f, some (n + (L + 2))) n (L + 2) e) := by
  refine ⟨_, newO_p, ?_⟩
  unfold x1_init
  rw [putV_p (by omega) sC_at, gb_s, sC_two, d1_0, d1_1, putV_p (by omega) sC_at, gb_s, sC_two, d1_2, newA_i (K := 4) (x := 4) rfl (by decide) (by rw [sC_ne (by omega)]; exact h1), cb_s, putV_p (by omega) sC_at, gb_s, sC_two, d1_3, sC_id h0]
/-- a hut is made -/
def zS (i : Nat) : Nat → Int32 := fun j => if j < i then -1 else 0
def hut0 : HS := (fun _ => 0, (fun d => if d = 4 then zS 16 else fun _ => 0), (fun _ k => if k = 4 ∨ k = 5 then -1 else 0), fun _ _ => 0)
def d3 (p j : Nat) (k : Nat) : Value := if k < 13 then .int 0 else if k < 13 + j then .ref (p + (k - 12)) else .null
theorem d3_0 {p : Nat} : (fun k => defaultValue (tyX3 k)) = d3 p 0 := by
  funext k
  match k with
  | 0 | 1 | 2 | 3 | 4 | 5 | 6 | 7 | 8 | 9 | 10 | 11 | 12 | 13 | 14 | 15 | 16 | 17 | 18 => rfl
  | k + 19 =>
    unfold d3
    rw [if_neg (by omega), if_neg (by omega)]
    rfl
theorem d3_s {p j q : Nat} (hq : q = p + (j + 1)) : updV (d3 p j) (13 + j) (.ref q) = d3 p (j + 1) := by
  funext k
  show (if k = 13 + j then Value.ref q else d3 p j k) = d3 p (j + 1) k
  unfold d3
  by_cases h : k = 13 + j
  · rw [if_pos h, if_neg (by omega), if_pos (by omega), hq, show k - 12 = j + 1 by omega]
  · rw [if_neg h]
    by_cases h1 : k < 13
    · rw [if_pos h1, if_pos h1]
    · rw [if_neg h1, if_neg h1]
      by_cases h2 : k < 13 + j
      · rw [if_pos h2, if_pos (by omega)]
      · rw [if_neg h2, if_neg (by omega)]
theorem d3_6 {p : Nat} : d3 p 6 = hVal p hut0 := rfl
def hikT (p t i : Nat) : Option Nat := if i < t then some (p + (7 + 2 * i)) else none
/-- a hut that is not yet finished -/
def eH (e : Nat → hE) (L : Nat) (o : Nat → Value) (a : Nat → Int32) (r : Nat → Option Nat) (d : Nat) : hE := if d = L then .inl (3, o) else if d = L + 4 then .inr (0, 16, .inl a) else if d = L + 6 then .inr (4, 10, .inr (.inr r)) else e d
variable {o : Nat → Value} {a : Nat → Int32} {r : Nat → Option Nat}
theorem eH_0 : eH e L o a r L = .inl (3, o) := if_pos rfl
theorem eH_4 : eH e L o a r (L + 4) = .inr (0, 16, .inl a) := by
  unfold eH
  rw [if_neg (by omega), if_pos rfl]
theorem eH_6 : eH e L o a r (L + 6) = .inr (4, 10, .inr (.inr r)) := by
  unfold eH
  rw [if_neg (by omega), if_neg (by omega), if_pos rfl]
theorem eH_ne {d : Nat} (h0 : d ≠ L) (h4 : d ≠ L + 4) (h6 : d ≠ L + 6) : eH e L o a r d = e d := by
  unfold eH
  rw [if_neg h0, if_neg h4, if_neg h6]
theorem eH_o {o1 : Nat → Value} : sC (eH e L o a r) L (.inl (3, o1)) = eH e L o1 a r := by
  funext d
  unfold sC eH
  by_cases h : d = L
  · rw [if_pos h, if_pos h]
  · rw [if_neg h, if_neg h, if_neg h]
theorem eH_a {a1 : Nat → Int32} : sC (eH e L o a r) (L + 4) (.inr (0, 16, .inl a1)) = eH e L o a1 r := by
  funext d
  unfold sC eH
  by_cases h : d = L + 4
  · rw [if_pos h, if_neg (by omega), if_pos h]
  · rw [if_neg h]
    by_cases h1 : d = L
    · rw [if_pos h1, if_pos h1]
    · rw [if_neg h1, if_neg h1, if_neg h, if_neg h]
theorem eH_r {r1 : Nat → Option Nat} : sC (eH e L o a r) (L + 6) (.inr (4, 10, .inr (.inr r1))) = eH e L o a r1 := by
  funext d
  unfold sC eH
  by_cases h : d = L + 6
  · rw [if_pos h, if_neg (by omega), if_neg (by omega), if_pos h]
  · rw [if_neg h]
    by_cases h1 : d = L
    · rw [if_pos h1, if_pos h1]
    · rw [if_neg h1, if_neg h1]
      by_cases h4 : d = L + 4
      · rw [if_pos h4, if_pos h4]
      · rw [if_neg h4, if_neg h4, if_neg h, if_neg h]
theorem put_upto {g : AH} {b c : Nat → hE} (h : ∀ d, d < L → b d = c d) : put g n L b = put g n L c := put_congr h
theorem hik_s {p t : Nat} : va_up (hikT p t) t (some (p + (7 + 2 * t))) = hikT p (t + 1) := by
  funext i
  show (if i = t then some (p + (7 + 2 * t)) else hikT p t i) = hikT p (t + 1) i
  unfold hikT
  by_cases h : i = t
  · rw [if_pos h, if_pos (by omega), h]
  · rw [if_neg h]
    by_cases h1 : i < t
    · rw [if_pos h1, if_pos (by omega)]
    · rw [if_neg h1, if_neg (by omega)]
theorem zS_s {t : Nat} : upd (zS t) t (-1) = zS (t + 1) := by
  funext i
  show (if i = t then (-1 : Int32) else zS t i) = zS (t + 1) i
  unfold zS
  by_cases h : i = t
  · rw [if_pos h, if_pos (by omega)]
  · rw [if_neg h]
    by_cases h1 : i < t
    · rw [if_pos h1, if_pos (by omega)]
    · rw [if_neg h1, if_neg (by omega)]
end Ini


