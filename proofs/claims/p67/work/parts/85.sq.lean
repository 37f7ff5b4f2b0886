/-! the reference tries something out and comes back -/
def Hi (z z1 : St) : Prop := ∀ j, 149 ≤ j → z1 j = z j
theorem Hi.refl {z : St} : Hi z z := fun _ _ => rfl
theorem Hi.trans {z z1 z2 : St} (h : Hi z z1) (h1 : Hi z1 z2) : Hi z z2 := fun j hj => (h1 j hj).trans (h j hj)
theorem Hi.up {z z1 : St} (h : Hi z z1) {k : Nat} {v : Int32} (hk0 : k < 149) : Hi z (upd z1 k v) := fun j hj => (upd_ne (by omega)).trans (h j hj)
theorem Hi.burn {z : St} : Hi z (burnS z) := (((Hi.refl.up (by decide)).up (by decide)).up (by decide)).up (by decide)
theorem Hi.pay {z : St} {i : Nat} {a : Int32} (hi : i < 10) : Hi z (payS z i a) := (Hi.refl.up (by omega)).up (by omega)
theorem Hi.its {step : St × St → Nat → St × St} (hs : ∀ s i, i < 10 → Hi s.1 (step s i).1) : ∀ n, n ≤ 10 → ∀ s, Hi s.1 (it step n s).1 := by
  intro n
  induction n with
  | zero => intro _ s; exact Hi.refl
  | succ n ih => intro hn s; exact (ih (by omega) s).trans (hs _ n (by omega))
theorem Hi.d3 : ∀ n, n ≤ 10 → ∀ s : St × St × Int32, Hi s.1 (it d3Step n s).1 := by
  intro n
  induction n with
  | zero => intro _ s; exact Hi.refl
  | succ n ih => intro hn s; exact (ih (by omega) s).trans (Hi.pay (by omega))
theorem Hi.dawn {s : St × St} (w : Ws s.1) : Hi s.1 (dawnS s).1 := by
  have k1 := it_kp d1Step_kp (nH s.1) w.h.2 s
  have w1 := k1.ws w
  have k2 := k1.trans (plS_kp w1)
  have k3 := k2.trans (d3_kp (nH s.1) w.h.2 ((plS (it d1Step (nH s.1) s)).1, (plS (it d1Step (nH s.1) s)).2, 0))
  have h1 : Hi s.1 (it d1Step (nH s.1) s).1 := Hi.its (fun s i hi => (Hi.pay hi).up (by decide)) _ w.h.2 s
  have h2 : Hi s.1 (plS (it d1Step (nH s.1) s)).1 := (h1.trans (Hi.its (fun s i hi => (Hi.pay hi).up (by decide)) _ w1.h.2 _)).up (by decide)
  have h3 := h2.trans (Hi.d3 (nH s.1) w.h.2 ((plS (it d1Step (nH s.1) s)).1, (plS (it d1Step (nH s.1) s)).2, 0))
  exact (h3.trans (Hi.its (fun s i hi => Hi.refl.up (by omega)) _ ((k3.ws w).h.2) _)).up (by decide)
theorem Hi.hour {s : St × St} (w : Ws s.1) (h : nT s.1 + 1 ≤ 20000) : Hi s.1 (hourS s).1 := by
  have kb := burn_kp s.1
  have wb := kb.ws w
  have k := kb.trans (ntS_kp (s := (burnS s.1, s.2)) wb)
  have hn : Hi s.1 (ntS (burnS s.1, s.2)).1 := Hi.burn.trans (Hi.its (fun s i hi => by
    obtain ⟨d, h1, -, h3⟩ := deed_I s.1 i
    unfold ntStep
    rw [h3]
    exact Hi.refl.up (by omega)) _ wb.h.2 (burnS s.1, s.2))
  have wt := tick_ws (k.ws w) (by rw [Kp_nT k]; exact h)
  have ht : Hi s.1 (tick (ntS (burnS s.1, s.2))).1 := hn.up (by decide)
  unfold hourS endS
  split
  · exact ht.trans (Hi.dawn wt.1)
  · exact ht
theorem Hi.many {s : St × St} (w : Ws s.1) : ∀ n, nT s.1 + n ≤ 20000 → Hi s.1 (manyS n s).1 := by
  intro n
  induction n with
  | zero => intro _; exact Hi.refl
  | succ n ih =>
    intro hn
    obtain ⟨h1, h2⟩ := manyS_ws w n (by omega)
    exact (ih (by omega)).trans (Hi.hour h1 (by omega))
/-- what a query of the reference leaves -/
def Sq (r r1 : RS) : Prop := (∀ k, k ≠ 6 → r1.1 k = r.1 k) ∧ ∀ d, d ≠ 2 → d ≠ 6 → d ≠ 9 → r1.2 d = r.2 d
theorem Sq.refl {r : RS} : Sq r r := ⟨fun _ _ => rfl, fun _ _ _ _ => rfl⟩
theorem Sq.trans {r r1 r2 : RS} (h : Sq r r1) (h1 : Sq r1 r2) : Sq r r2 := ⟨fun k hk0 => (h1.1 k hk0).trans (h.1 k hk0), fun d a b c => (h1.2 d a b c).trans (h.2 d a b c)⟩
section SqS
variable {g : AH} {m : Nat} {r : RS}
end SqS


