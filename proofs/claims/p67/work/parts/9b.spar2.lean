/-! the reference's parser: words, numbers, rows -/
/-- what a parser's step of the reference may change -/
def Pq (r0 r : RS) : Prop := (∀ k, k < 9 ∨ 15 < k → r.1 k = r0.1 k) ∧ ∀ d, d ≠ 1 → r.2 d = r0.2 d
theorem Pq.refl {r : RS} : Pq r r := ⟨fun _ _ => rfl, fun _ _ => rfl⟩
theorem Pq.trans {r r1 r2 : RS} (h : Pq r r1) (h1 : Pq r1 r2) : Pq r r2 := ⟨fun k hk0 => (h1.1 k hk0).trans (h.1 k hk0), fun d hd => (h1.2 d hd).trans (h.2 d hd)⟩
theorem Pq.f {r0 r : RS} (p : Pq r0 r) {k : Nat} {v : Int32} (h1 : 9 ≤ k) (h2 : k ≤ 15) : Pq r0 (RS_setF r k v) := ⟨fun j hj => (upd_ne (by omega)).trans (p.1 j hj), p.2⟩
theorem Pq.a {r0 r : RS} (p : Pq r0 r) {z : Nat → Int32} : Pq r0 (RS_setA r 1 z) := ⟨p.1, fun d hd => (RS_ne hd).trans (p.2 d hd)⟩
section SPar2
variable {g : AH} {m L s e c : Nat} {T : Nat → Int32} {r0 r : RS} {z : St}
end SPar2


