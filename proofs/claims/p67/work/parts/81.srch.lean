/-! searches: bunks and blankets -/
def oI : Option Nat → Int32 := fun o => match o with
  | none => -1
  | some k => I k
section Srch
variable {g : AH} {p m : Nat} {h : HS} {st : St} {r : RS}
end Srch


