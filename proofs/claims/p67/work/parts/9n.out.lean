/-! what is written: bytes and numbers -/
/-- what writing changes of the reference -/
def Ro (r r1 : RS) : Prop := (∀ k, k ≠ 20 → r1.1 k = r.1 k) ∧ ∀ d, d ≠ 10 → r1.2 d = r.2 d
theorem Ro.refl {r : RS} : Ro r r := ⟨fun _ _ => rfl, fun _ _ => rfl⟩
theorem Ro.trans {r r1 r2 : RS} (h : Ro r r1) (h1 : Ro r1 r2) : Ro r r2 := ⟨fun k hk0 => (h1.1 k hk0).trans (h.1 k hk0), fun d hd => (h1.2 d hd).trans (h.2 d hd)⟩
section Out1
variable {g : AH} {p m : Nat} {s : OS} {r : RS} {l : List Nat}
end Out1


