/-! predictions: what they rest on -/
/-- what the stove and the coins change -/
def mi (k : Nat) : Prop := k < 7 ∨ ∃ i, k = 49 + 10 * i + 2 ∨ k = 49 + 10 * i + 3
def Ch (z z1 : St) : Prop := ∀ k, ¬ mi k → z1 k = z k
theorem Ch.refl {z : St} : Ch z z := fun _ _ => rfl
theorem Ch.trans {z z1 z2 : St} (h : Ch z z1) (h1 : Ch z1 z2) : Ch z z2 := fun k hk0 => (h1 k hk0).trans (h k hk0)
theorem Ch.up {z z1 : St} (h : Ch z z1) {k : Nat} {v : Int32} (hk0 : mi k) : Ch z (upd z1 k v) := fun j hj => by
  rw [upd_ne (fun hc : j = k => hj (by rw [hc]; exact hk0))]
  exact h j hj
theorem mi_lo {k : Nat} (h : k < 7) : mi k := Or.inl h
theorem Ch.burn {z : St} : Ch z (burnS z) := (((Ch.refl.up (mi_lo (by decide))).up (mi_lo (by decide))).up (mi_lo (by decide))).up (mi_lo (by decide))
theorem Ch.pay {z : St} {i : Nat} {a : Int32} : Ch z (payS z i a) := (Ch.refl.up (Or.inr ⟨i, Or.inl rfl⟩)).up (Or.inr ⟨i, Or.inr rfl⟩)
theorem Ch.its {step : St × St → Nat → St × St} (hs : ∀ s i, Ch s.1 (step s i).1) : ∀ n s, Ch s.1 (it step n s).1 := by
  intro n
  induction n with
  | zero => intro s; exact Ch.refl
  | succ n ih => intro s; exact (ih s).trans (hs _ n)
theorem Ch.d3 : ∀ n (s : St × St × Int32), Ch s.1 (it d3Step n s).1 := by
  intro n
  induction n with
  | zero => intro s; exact Ch.refl
  | succ n ih => intro s; exact (ih s).trans Ch.pay
theorem Ch.dawn (s : St × St) : Ch s.1 (dawnS s).1 := by
  have h1 : Ch s.1 (it d1Step (nH s.1) s).1 := Ch.its (fun s i => Ch.pay.up (mi_lo (by decide))) _ s
  have h2 : Ch s.1 (plS (it d1Step (nH s.1) s)).1 := (h1.trans (Ch.its (fun s i => Ch.pay.up (mi_lo (by decide))) _ _)).up (mi_lo (by decide))
  have h3 := h2.trans (Ch.d3 (nH s.1) ((plS (it d1Step (nH s.1) s)).1, (plS (it d1Step (nH s.1) s)).2, 0))
  exact (h3.trans (Ch.its (fun s i => Ch.refl.up (Or.inr ⟨i, Or.inl rfl⟩)) _ _)).up (mi_lo (by decide))
