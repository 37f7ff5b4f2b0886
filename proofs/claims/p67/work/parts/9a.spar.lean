/-! the reference's parser: tokens -/
def Pf (r r1 : RS) : Prop := (∀ k, k < 10 ∨ 13 < k → r1.1 k = r.1 k) ∧ r1.2 = r.2
theorem Pf.refl {r : RS} : Pf r r := ⟨fun _ _ => rfl, rfl⟩
theorem Pf.trans {r r1 r2 : RS} (h : Pf r r1) (h1 : Pf r1 r2) : Pf r r2 := ⟨fun k hk0 => (h1.1 k hk0).trans (h.1 k hk0), h1.2.trans h.2⟩
theorem Pf.f {r : RS} {k : Nat} {v : Int32} (h1 : 10 ≤ k) (h2 : k ≤ 13) : Pf r (RS_setF r k v) := ⟨fun j hj => upd_ne (by omega), rfl⟩
theorem RSF_ne {r : RS} {k j : Nat} {v : Int32} (h : j ≠ k) : (RS_setF r k v).1 j = r.1 j := upd_ne h
section SPar
variable {g : AH} {m L s e : Nat} {T : Nat → Int32} {r : RS}
end SPar


