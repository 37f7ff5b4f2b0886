/-! a script runs in both -/
/-- what running leaves alone of the reference -/
def Re (r r1 : RS) : Prop := (∀ k, k ≠ 5 → k ≠ 6 → r1.1 k = r.1 k) ∧ ∀ d, d ≠ 1 → d ≠ 3 → d ≠ 6 → r1.2 d = r.2 d
theorem Re.refl {r : RS} : Re r r := ⟨fun _ _ _ => rfl, fun _ _ _ _ => rfl⟩
theorem Re.trans {r r1 r2 : RS} (h : Re r r1) (h1 : Re r1 r2) : Re r r2 := ⟨fun k a b => (h1.1 k a b).trans (h.1 k a b), fun d a b c => (h1.2 d a b c).trans (h.2 d a b c)⟩
section Run
variable {g : AH} {n m : Nat} {w : WS} {r : RS}
end Run


