/-! the reference reads a whole script -/
/-- what reading a script changes in the reference's base -/
def Rs (r r1 : RS) : Prop := (∀ k, k ≠ 17 → r1.1 k = r.1 k) ∧ ∀ d, d ≠ 8 → r1.2 d = r.2 d
theorem Rs.refl {r : RS} : Rs r r := ⟨fun _ _ => rfl, fun _ _ => rfl⟩
theorem Rs.trans {r r1 r2 : RS} (h : Rs r r1) (h1 : Rs r1 r2) : Rs r r2 := ⟨fun k hk0 => (h1.1 k hk0).trans (h.1 k hk0), fun d hd => (h1.2 d hd).trans (h.2 d hd)⟩
section SLoop
variable {g : AH} {m L : Nat} {T : Nat → Int32} {z : St}
end SLoop
