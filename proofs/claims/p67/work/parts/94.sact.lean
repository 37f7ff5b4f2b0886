/-! the reference's actions -/
def shF (p : Nat → Int32) (i : Nat) : Nat → Int32 := fun j => if j < i then p (j + 149) else p j
def recP (r : RS) : Nat → Int32 := if r.1 5 = 6 then shF (r.2 3) 745 else r.2 3
def recN (r : RS) : Int32 := if r.1 5 = 6 then 5 else r.1 5
def recS (r : RS) : RS := RS_setF (RS_setA r 3 (cpF (r.2 1) (recP r) 0 (149 * kN (recN r)) 149)) 5 (recN r + 1)
section SAct
variable {g : AH} {m : Nat} {r : RS} {st : St}
variable {a : Nat} (ha : a ≤ 6) (h5 : r.1 5 = I a)
end SAct


