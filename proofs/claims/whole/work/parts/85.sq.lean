/-! the reference tries something out and comes back -/
def Hi (z z1 : St) : Prop := ∀ j, 149 ≤ j → z1 j = z j
theorem Hi.refl {z : St} : Hi z z := fun _ _ => rfl
theorem Hi.trans {z z1 z2 : St} (h : Hi z z1) (h1 : Hi z1 z2) : Hi z z2 := fun j hj => (h1 j hj).trans (h j hj)
theorem Hi.up {z z1 : St} (h : Hi z z1) {k : Nat} {v : Int32} (hk0 : k < 149) : Hi z (upd z1 k v) := fun j hj => (upd_ne (by omega)).trans (h j hj)
theorem Hi.burn {z : St} : Hi z (burnS z) := (((Hi.refl.up (by decide)).up (by decide)).up (by decide)).up (by decide)
theorem Hi.pay {z : St} {i : Nat} {a : Int32} (hi : i < 10) : Hi z (payS z i a) := (Hi.refl.up (by omega)).up (by omega)
theorem Hi.its {step : St × St → Nat → St × St} (hs : ∀ s i, i < 10 → Hi s.1 (step s i).1) : ∀ n, n ≤ 10 → ∀ s, Hi s.1 (it step n s).1 := by
  intro n
  induction n with
  | zero => intro _ s; exact Hi.refl
  | succ n ih => intro hn s; exact (ih (by omega) s).trans (hs _ n (by omega))
theorem Hi.d3 : ∀ n, n ≤ 10 → ∀ s : St × St × Int32, Hi s.1 (it d3Step n s).1 := by
  intro n
  induction n with
  | zero => intro _ s; exact Hi.refl
  | succ n ih => intro hn s; exact (ih (by omega) s).trans (Hi.pay (by omega))
theorem Hi.dawn {s : St × St} (w : Ws s.1) : Hi s.1 (dawnS s).1 := by
  have k1 := it_kp d1Step_kp (nH s.1) w.h.2 s
  have w1 := k1.ws w
  have k2 := k1.trans (plS_kp w1)
  have k3 := k2.trans (d3_kp (nH s.1) w.h.2 ((plS (it d1Step (nH s.1) s)).1, (plS (it d1Step (nH s.1) s)).2, 0))
  have h1 : Hi s.1 (it d1Step (nH s.1) s).1 := Hi.its (fun s i hi => (Hi.pay hi).up (by decide)) _ w.h.2 s
  have h2 : Hi s.1 (plS (it d1Step (nH s.1) s)).1 := (h1.trans (Hi.its (fun s i hi => (Hi.pay hi).up (by decide)) _ w1.h.2 _)).up (by decide)
  have h3 := h2.trans (Hi.d3 (nH s.1) w.h.2 ((plS (it d1Step (nH s.1) s)).1, (plS (it d1Step (nH s.1) s)).2, 0))
  exact (h3.trans (Hi.its (fun s i hi => Hi.refl.up (by omega)) _ ((k3.ws w).h.2) _)).up (by decide)
theorem Hi.hour {s : St × St} (w : Ws s.1) (h : nT s.1 + 1 ≤ 20000) : Hi s.1 (hourS s).1 := by
  have kb := burn_kp s.1
  have wb := kb.ws w
  have k := kb.trans (ntS_kp (s := (burnS s.1, s.2)) wb)
  have hn : Hi s.1 (ntS (burnS s.1, s.2)).1 := Hi.burn.trans (Hi.its (fun s i hi => by
    obtain ⟨d, h1, -, h3⟩ := deed_I s.1 i
    unfold ntStep
    rw [h3]
    exact Hi.refl.up (by omega)) _ wb.h.2 (burnS s.1, s.2))
  have wt := tick_ws (k.ws w) (by rw [Kp_nT k]; exact h)
  have ht : Hi s.1 (tick (ntS (burnS s.1, s.2))).1 := hn.up (by decide)
  unfold hourS endS
  split
  · exact ht.trans (Hi.dawn wt.1)
  · exact ht
theorem Hi.many {s : St × St} (w : Ws s.1) : ∀ n, nT s.1 + n ≤ 20000 → Hi s.1 (manyS n s).1 := by
  intro n
  induction n with
  | zero => intro _; exact Hi.refl
  | succ n ih =>
    intro hn
    obtain ⟨h1, h2⟩ := manyS_ws w n (by omega)
    exact (ih (by omega)).trans (Hi.hour h1 (by omega))
theorem cp_back {st a z : St} (h : Hi st z) : cp1 (cp1 st a) z = st := by
  funext j
  show (if 0 ≤ j ∧ j < 0 + 149 then (if 0 ≤ 0 + (j - 0) ∧ 0 + (j - 0) < 0 + 149 then st (0 + (0 + (j - 0) - 0)) else a (0 + (j - 0))) else z j) = st j
  by_cases hj : j < 149
  · rw [if_pos ⟨by omega, by omega⟩, if_pos ⟨by omega, by omega⟩]
    congr 1
    omega
  · rw [if_neg (by omega)]
    exact h j (by omega)
/-- what a query of the reference leaves -/
def Sq (r r1 : RS) : Prop := (∀ k, k ≠ 6 → r1.1 k = r.1 k) ∧ ∀ d, d ≠ 2 → d ≠ 6 → d ≠ 9 → r1.2 d = r.2 d
theorem Sq.refl {r : RS} : Sq r r := ⟨fun _ _ => rfl, fun _ _ _ _ => rfl⟩
theorem Sq.trans {r r1 r2 : RS} (h : Sq r r1) (h1 : Sq r1 r2) : Sq r r2 := ⟨fun k hk0 => (h1.1 k hk0).trans (h.1 k hk0), fun d a b c => (h1.2 d a b c).trans (h.2 d a b c)⟩
theorem Sq.f6 {r : RS} {v : Int32} : Sq r (RS_setF r 6 v) := ⟨fun _ hk0 => upd_ne hk0, fun _ _ _ _ => rfl⟩
theorem Sq.ar {r : RS} {d : Nat} {z : Nat → Int32} (h : d = 2 ∨ d = 6 ∨ d = 9) : Sq r (RS_setA r d z) := ⟨fun _ _ => rfl, fun j a b c => RS_ne (by omega)⟩
theorem Sq.st {r r1 : RS} (h : Sq r r1) : r1.2 1 = r.2 1 := h.2 1 (by decide) (by decide) (by decide)
section SqS
variable {g : AH} {m : Nat} {r : RS}
/-- goAside .. comeBack around something that changes the array only below 149, and due -/
theorem s_aside {z du : St} (h : Hi (r.2 1) z) (v : Int32) : x9_comeBack m v (putR g m (RD (RS_setA r 2 (cp1 (r.2 1) (r.2 2))) z du)) = some (v, putR g m (RS_setA (RS_setA r 2 (cp1 (r.2 1) (r.2 2))) 6 du)) := by
  rw [s_comeBack]
  refine congrArg (fun q => some (v, putR g m q)) ?_
  have e2 : (RD (RS_setA r 2 (cp1 (r.2 1) (r.2 2))) z du).2 2 = cp1 (r.2 1) (r.2 2) := rfl
  have e1 : (RD (RS_setA r 2 (cp1 (r.2 1) (r.2 2))) z du).2 1 = z := rfl
  rw [e2, e1, cp_back h]
  unfold RD
  refine RS_eq (fun k => rfl) (fun j k => ?_)
  show (if j = 1 then r.2 1 else if j = 6 then du else if j = 1 then z else if j = 2 then cp1 (r.2 1) (r.2 2) else r.2 j) k = (if j = 6 then du else if j = 2 then cp1 (r.2 1) (r.2 2) else r.2 j) k
  by_cases h1 : j = 1
  · subst h1
    rfl
  · rw [if_neg h1, if_neg h1]
theorem RD_self2 {a : St} : RD (RS_setA r 2 a) (r.2 1) (r.2 6) = RS_setA r 2 a := by
  have : (RS_setA r 2 a).2 1 = r.2 1 := rfl
  have h6 : (RS_setA r 2 a).2 6 = r.2 6 := rfl
  rw [← this, ← h6]
  exact D_self
theorem s_asideSq {du : St} : Sq r (RS_setA (RS_setA r 2 (cp1 (r.2 1) (r.2 2))) 6 du) := Sq.trans (Sq.ar (Or.inl rfl)) (Sq.ar (Or.inr (Or.inl rfl)))
theorem D_set {z du : St} {k f : Nat} {x v : Int32} (hx : x = I f) (hk0 : k < 10) (hf : f < 10) : x9_set m (I k) x v (putR g m (RD r z du)) = some ((), putR g m (RD r (upd z (49 + 10 * k + f) v) du)) := by
  rw [s_set hx hk0 hf]
  unfold RS_st RD
  rw [RS_comm (d := 6) (e := 1) (by decide), RS_set2, RS_ne (by decide), RS_at]
theorem D_countDeed {z du : St} (w : Ws z) (d : Int32) : x9_countDeed m d (putR g m (RD r z du)) = some (cntD z d, putR g m (RD r z du)) := s_countDeed (r := RD r z du) w d
theorem D_warmthNow {z du : St} (w : Ws z) {k : Nat} (hk0 : k < 10) : x9_warmthNow m (I k) (putR g m (RD r z du)) = some (wN z k, putR g m (RD r z du)) := s_warmthNow (r := RD r z du) w hk0
theorem D_noise {z du : St} (w : Ws z) (b : Int32) : x9_noise m b (putR g m (RD r z du)) = some (noi z b, putR g m (RD r z du)) := s_noise (r := RD r z du) w b
theorem s_goAside2 : x9_goAside m (putR g m r) = some ((), putR g m (RD (RS_setA r 2 (cp1 (r.2 1) (r.2 2))) (r.2 1) (r.2 6))) := by
  rw [s_goAside, RD_self2]
end SqS
