/-! the reference: the hours -/
def it {α : Type} (f : α → Nat → α) : Nat → α → α
  | 0, s => s
  | n + 1, s => f (it f n s) n
/-- the counts and places stay -/
def Kp (z z1 : St) : Prop := (∀ k, k = 3 ∨ k = 9 ∨ k = 10 ∨ k = 11 ∨ k = 12 → z1 k = z k) ∧ ∀ i, i < 10 → z1 (49 + 10 * i + 4) = z (49 + 10 * i + 4) ∧ z1 (49 + 10 * i + 5) = z (49 + 10 * i + 5)
theorem Kp.refl {z : St} : Kp z z := ⟨fun _ _ => rfl, fun _ _ => ⟨rfl, rfl⟩⟩
theorem Kp.trans {z z1 z2 : St} (h : Kp z z1) (h1 : Kp z1 z2) : Kp z z2 := ⟨fun k hk0 => (h1.1 k hk0).trans (h.1 k hk0), fun i hi => ⟨(h1.2 i hi).1.trans (h.2 i hi).1, (h1.2 i hi).2.trans (h.2 i hi).2⟩⟩
theorem Kp.ws {z z1 : St} (h : Kp z z1) (w : Ws z) : Ws z1 := by
  obtain ⟨w1, w2, w3, w4, w5, w6, w7⟩ := w
  have e3 := h.1 3 (by decide)
  have e9 := h.1 9 (by decide)
  have e10 := h.1 10 (by decide)
  have e11 := h.1 11 (by decide)
  have e12 := h.1 12 (by decide)
  unfold Ws nH nB nL nF nT at *
  rw [e3, e9, e10, e11, e12]
  exact ⟨w1, w2, w3, w4, w5, fun k hk0 => by rw [(h.2 k hk0).1]; exact w6 k hk0, fun k hk0 => by rw [(h.2 k hk0).2]; exact w7 k hk0⟩
theorem Kp.up {z z1 : St} (h : Kp z z1) {k : Nat} {v : Int32} (h1 : k ≠ 3 ∧ k ≠ 9 ∧ k ≠ 10 ∧ k ≠ 11 ∧ k ≠ 12) (h2 : ∀ i, i < 10 → k ≠ 49 + 10 * i + 4 ∧ k ≠ 49 + 10 * i + 5) : Kp z (upd z1 k v) :=
  h.trans ⟨fun j hj => upd_ne (by omega), fun i hi => ⟨upd_ne (Ne.symm (h2 i hi).1), upd_ne (Ne.symm (h2 i hi).2)⟩⟩
theorem it_kp {step : St × St → Nat → St × St} (hs : ∀ s i, i < 10 → Kp s.1 (step s i).1) : ∀ n, n ≤ 10 → ∀ s, Kp s.1 (it step n s).1 := by
  intro n
  induction n with
  | zero => intro _ s; exact Kp.refl
  | succ n ih => intro hn s; exact (ih (by omega) s).trans (hs _ n (by omega))
section RefD
variable {g : AH} {m : Nat} {r : RS} {st : St}
/-- a loop over the hikers that changes the array -/
theorem loop_hik {body : Int32 → AH → Option ((Int32 ⊕ Unit) × AH)} {fuel : Nat} (step : St × St → Nat → St × St) (hk1 : ∀ s i, i < 10 → Kp s.1 (step s i).1) {s0 : St × St} (w : Ws s0.1) (hf : 10 < fuel)
    (hs : ∀ i s, i < nH s0.1 → Ws s.1 → s.1 12 = s0.1 12 → body (I i) (putR g m (RD r s.1 s.2)) = some (.inl (I (i + 1)), putR g m (RD r (step s i).1 (step s i).2))) (he : ∀ s : St × St, s.1 12 = s0.1 12 → body (I (nH s0.1)) (putR g m (RD r s.1 s.2)) = some (.inr (), putR g m (RD r s.1 s.2))) :
    loopX body fuel 0 (putR g m (RD r s0.1 s0.2)) = some ((), putR g m (RD r (it step (nH s0.1) s0).1 (it step (nH s0.1) s0).2)) := by
  have h2 := w.h.2
  refine loop_up (n := nH s0.1) (fun i => I i) (fun i => putR g m (RD r (it step i s0).1 (it step i s0).2)) (fun i hi => ?_) ?_ (by omega)
  · have hk2 := it_kp hk1 i (by omega) s0
    exact hs i _ hi (hk2.ws w) (hk2.1 12 (by decide))
  · exact he _ ((it_kp hk1 (nH s0.1) h2 s0).1 12 (by decide))
theorem hd_lt (w : Ws st) {α : Type} {x : Int32} (hx : x = st 12) (i : Nat) (hi : i < nH st) (A B : Option (α × AH)) : (if x ≤ I i then A else B) = B := by
  have h2 := w.h.2
  rw [if_neg]
  rw [hx, w.h.1, I_le (by omega) (by omega)]
  omega
theorem hd_ge (w : Ws st) {α : Type} {x : Int32} (hx : x = st 12) (A B : Option (α × AH)) : (if x ≤ I (nH st) then A else B) = A := by
  have h2 := w.h.2
  rw [if_pos]
  rw [hx, w.h.1, I_le (by omega) (by omega)]
  omega
def plPart (c N : Int32) (i : Nat) : Int32 := c / N + if (c - c / N * N) ≤ I i then 0 else 1
def plStep (c N : Int32) (s : St × St) (i : Nat) : St × St := (upd (payS s.1 i (plPart c N i)) 6 (s.1 6 + payP s.1 i (plPart c N i)), upd s.2 i (s.2 i + plPart c N i))
theorem pay_kp {z : St} {i : Nat} {a : Int32} (hi : i < 10) : Kp z (payS z i a) :=
  (Kp.refl.up (by omega) (fun j hj => by omega)).up (by omega) (fun j hj => by omega)
theorem plStep_kp (c N : Int32) (s : St × St) (i : Nat) (hi : i < 10) : Kp s.1 (plStep c N s i).1 := (pay_kp hi).up (by decide) (fun j hj => by omega)
def plS (s : St × St) : St × St :=
  let t := it (plStep (2 * s.1 5) (s.1 12)) (nH s.1) s
  (upd t.1 5 0, t.2)
end RefD


