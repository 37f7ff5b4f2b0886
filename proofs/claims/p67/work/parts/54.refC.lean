/-! the reference: what changes the array -/
def RS_up (r : RS) (z : St) : RS := RS_setA r 1 z
def RD (r : RS) (z du : St) : RS := RS_setA (RS_setA r 1 z) 6 du
theorem RS_eq {r r1 : RS} (h1 : ∀ k, r.1 k = r1.1 k) (h2 : ∀ d k, r.2 d k = r1.2 d k) : r = r1 := Prod.ext (funext h1) (funext fun d => funext fun k => h2 d k)
theorem RS_self {r : RS} {d : Nat} : RS_setA r d (r.2 d) = r := by
  refine RS_eq (fun k => rfl) (fun j k => ?_)
  show (if j = d then r.2 d else r.2 j) k = r.2 j k
  by_cases h : j = d
  · rw [if_pos h, h]
  · rw [if_neg h]
theorem RS_set2 {r : RS} {d : Nat} {z z1 : Nat → Int32} : RS_setA (RS_setA r d z) d z1 = RS_setA r d z1 := by
  refine RS_eq (fun k => rfl) (fun j k => ?_)
  show (if j = d then z1 else if j = d then z else r.2 j) k = (if j = d then z1 else r.2 j) k
  by_cases h : j = d
  · rw [if_pos h, if_pos h]
  · rw [if_neg h, if_neg h, if_neg h]
theorem RS_at {r : RS} {d : Nat} {z : Nat → Int32} : (RS_setA r d z).2 d = z := if_pos rfl
theorem RS_ne {r : RS} {d j : Nat} {z : Nat → Int32} (h : j ≠ d) : (RS_setA r d z).2 j = r.2 j := if_neg h
theorem RS_comm {r : RS} {d e : Nat} {z y : Nat → Int32} (h : d ≠ e) : RS_setA (RS_setA r d z) e y = RS_setA (RS_setA r e y) d z := by
  refine RS_eq (fun k => rfl) (fun j k => ?_)
  show (if j = e then y else if j = d then z else r.2 j) k = (if j = d then z else if j = e then y else r.2 j) k
  by_cases h1 : j = e
  · rw [if_pos h1, if_neg (by omega), if_pos h1]
  · rw [if_neg h1, if_neg h1]
def cpF (a b : Nat → Int32) (F T n : Nat) : Nat → Int32 := fun j => if T ≤ j ∧ j < T + n then a (F + (j - T)) else b j
theorem cpF_zero {a b : Nat → Int32} {F T : Nat} : cpF a b F T 0 = b := funext fun j => if_neg (by omega)
theorem cpF_succ {a b : Nat → Int32} {F T n : Nat} : upd (cpF a b F T n) (T + n) (a (F + n)) = cpF a b F T (n + 1) := by
  funext j
  show (if j = T + n then a (F + n) else if T ≤ j ∧ j < T + n then a (F + (j - T)) else b j) = if T ≤ j ∧ j < T + (n + 1) then a (F + (j - T)) else b j
  by_cases h : j = T + n
  · rw [if_pos h, if_pos ⟨by omega, by omega⟩, h, Nat.add_sub_cancel_left]
  · rw [if_neg h]
    by_cases h1 : T ≤ j ∧ j < T + n
    · rw [if_pos h1, if_pos ⟨h1.1, by omega⟩]
    · rw [if_neg h1, if_neg (by omega)]
section RefC
variable {g : AH} {m : Nat} {r : RS} {st : St}
/-- two arrays of 149 that agree -/
abbrev cp1 (a b : Nat → Int32) : Nat → Int32 := cpF a b 0 0 149
/-- reading and writing the array of 149 -/
theorem D_ald {z du : St} {k : Nat} {x : Int32} (hx : x = I k) (hk : k < 149) : aldI 0 (putR g m (RD r z du)) (m + 1) x = some (z k) := R_s hx hk
theorem D_ast {z du : St} {k : Nat} {x v : Int32} (hx : x = I k) (hk : k < 149) : astI 0 (putR g m (RD r z du)) (m + 1) x v = some (putR g m (RD r (upd z k v) du)) := by
  rw [hx, R_astN (t := 0) (d := 1) (by decide) (by decide) rfl hk]
  unfold RD
  rw [RS_comm (d := 6) (e := 1) (by decide), RS_set2, RS_ne (by decide), RS_at]
theorem D_ald6 {z du : St} {k : Nat} (hk : k < 10) : aldI 0 (putR g m (RD r z du)) (m + 6) (I k) = some (du k) := R_aldN (d := 6) (by decide) (by decide) rfl hk
theorem D_ast6 {z du : St} {k : Nat} {v : Int32} (hk : k < 10) : astI 0 (putR g m (RD r z du)) (m + 6) (I k) v = some (putR g m (RD r z (upd du k v))) := by
  rw [R_astN (t := 0) (d := 6) (by decide) (by decide) rfl hk]
  unfold RD
  rw [RS_set2, RS_at]
theorem D_st {z du : St} : (RD r z du).2 1 = z := rfl
theorem D_du {z du : St} : (RD r z du).2 6 = du := rfl
theorem D_self : RD r (r.2 1) (r.2 6) = r := by
  unfold RD
  rw [RS_self]
  exact RS_self
def burnB (st : St) : Int32 := if st 0 < st 1 then st 0 else st 1
def burnS (st : St) : St := upd (upd (upd (upd st 0 (st 0 - burnB st)) 4 (st 4 + burnB st)) 5 (st 5 + burnB st)) 2 (st 2 / 2 + 4 * burnB st)
theorem upd_at {f : Nat → Int32} {k : Nat} {v : Int32} : upd f k v k = v := if_pos rfl
theorem upd_ne {f : Nat → Int32} {k j : Nat} {v : Int32} (h : j ≠ k) : upd f k v j = f j := if_neg h
def payP (st : St) (k : Nat) (a : Int32) : Int32 := if hk st k 2 < a then hk st k 2 else a
def payS (st : St) (k : Nat) (a : Int32) : St := upd (upd st (49 + 10 * k + 2) (hk st k 2 + -payP st k a)) (49 + 10 * k + 3) (hk st k 3 + (a - payP st k a))
end RefC


