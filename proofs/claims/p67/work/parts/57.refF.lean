/-! the reference: an hour, many hours -/
section RefF
variable {g : AH} {m : Nat} {r : RS} {st : St}
theorem deed_I (z : St) (i : Nat) : ∃ d, d < 4 ∧ deed z i = I d ∧ kN (deed z i) = d := by
  unfold deed
  by_cases h : cold z i = true
  · rw [if_pos h]; exact ⟨0, by decide, rfl, rfl⟩
  · rw [if_neg h]
    by_cases h1 : hk z i 4 = -1
    · rw [if_pos h1]; exact ⟨3, by decide, rfl, rfl⟩
    · rw [if_neg h1]
      by_cases h2 : noi z (hk z i 4) ≤ 6
      · rw [if_pos h2]; exact ⟨2, by decide, rfl, rfl⟩
      · rw [if_neg h2]; exact ⟨1, by decide, rfl, rfl⟩
def ntStep (s : St × St) (i : Nat) : St × St := (upd s.1 (49 + 10 * i + (6 + kN (deed s.1 i))) (hk s.1 i (6 + kN (deed s.1 i)) + 1), s.2)
theorem ntStep_kp (s : St × St) (i : Nat) (hi : i < 10) : Kp s.1 (ntStep s i).1 := by
  obtain ⟨d, h1, -, h3⟩ := deed_I s.1 i
  unfold ntStep
  rw [h3]
  exact Kp.refl.up (by omega) (fun j hj => by omega)
theorem burn_kp (z : St) : Kp z (burnS z) := (((Kp.refl.up (by decide) (fun j hj => by omega)).up (by decide) (fun j hj => by omega)).up (by decide) (fun j hj => by omega)).up (by decide) (fun j hj => by omega)
def ntS (s : St × St) : St × St := it ntStep (nH s.1) s
theorem ntS_kp {s : St × St} (w : Ws s.1) : Kp s.1 (ntS s).1 := it_kp ntStep_kp _ w.h.2 s
def tick (s : St × St) : St × St := (upd s.1 3 (s.1 3 + 1), s.2)
def endS (s : St × St) : St × St := if (tick s).1 3 - (tick s).1 3 / 8 * 8 = 0 then dawnS (tick s) else tick s
def hourS (s : St × St) : St × St := endS (ntS (burnS s.1, s.2))
theorem tick_ws {s : St × St} (w : Ws s.1) (h : nT s.1 + 1 ≤ 20000) : Ws (tick s).1 ∧ nT (tick s).1 = nT s.1 + 1 := by
  have e : (tick s).1 3 = I (nT s.1 + 1) := by
    show upd s.1 3 (s.1 3 + 1) 3 = _
    rw [upd_at, w.t.1, I_succ]
  have e1 : nT (tick s).1 = nT s.1 + 1 := by
    unfold nT at e ⊢
    rw [e]
    exact I_nat (by unfold nT at h; omega)
  refine ⟨?_, e1⟩
  have ne : ∀ k, k ≠ 3 → (tick s).1 k = s.1 k := fun k hk0 => upd_ne hk0
  obtain ⟨w1, w2, w3, w4, w5, w6, w7⟩ := w
  refine ⟨?_, ?_, ?_, ?_, ⟨?_, by rw [e1]; exact h⟩, ?_, ?_⟩
  · unfold nH at *; rw [ne 12 (by decide)]; exact w1
  · unfold nB at *; rw [ne 9 (by decide)]; exact w2
  · unfold nL at *; rw [ne 10 (by decide)]; exact w3
  · unfold nF at *; rw [ne 11 (by decide)]; exact w4
  · rw [e]; exact Int32.zero_le_ofNat_of_lt (by omega)
  · unfold nB at *; rw [ne 9 (by decide)]; exact fun k hk0 => by rw [ne _ (by omega)]; exact w6 k hk0
  · unfold nL nH at *; rw [ne 10 (by decide), ne 12 (by decide)]; exact fun k hk0 => by rw [ne _ (by omega)]; exact w7 k hk0
theorem Kp_nT {z z1 : St} (h : Kp z z1) : nT z1 = nT z := by
  unfold nT
  rw [h.1 3 (by decide)]
theorem dawnS_kp {s : St × St} (w : Ws s.1) : Kp s.1 (dawnS s).1 := by
  have k1 := it_kp d1Step_kp (nH s.1) w.h.2 s
  have k2 := k1.trans (plS_kp (k1.ws w))
  have k4 := k2.trans (d3_kp (nH s.1) w.h.2 ((plS (it d1Step (nH s.1) s)).1, (plS (it d1Step (nH s.1) s)).2, 0))
  exact k4.trans (shS_kp (s := ((it d3Step (nH s.1) ((plS (it d1Step (nH s.1) s)).1, (plS (it d1Step (nH s.1) s)).2, 0)).1, (it d3Step (nH s.1) ((plS (it d1Step (nH s.1) s)).1, (plS (it d1Step (nH s.1) s)).2, 0)).2.1)) (k4.ws w) _)
theorem endS_ws {s : St × St} (w : Ws s.1) (h : nT s.1 + 1 ≤ 20000) : Ws (endS s).1 ∧ nT (endS s).1 = nT s.1 + 1 := by
  obtain ⟨w1, e1⟩ := tick_ws w h
  unfold endS
  by_cases hc : (tick s).1 3 - (tick s).1 3 / 8 * 8 = 0
  · rw [if_pos hc]
    exact ⟨(dawnS_kp w1).ws w1, by rw [Kp_nT (dawnS_kp w1), e1]⟩
  · rw [if_neg hc]
    exact ⟨w1, e1⟩
theorem hourS_ws {s : St × St} (w : Ws s.1) (h : nT s.1 + 1 ≤ 20000) : Ws (hourS s).1 ∧ nT (hourS s).1 = nT s.1 + 1 := by
  have k := (burn_kp s.1).trans (ntS_kp (s := (burnS s.1, s.2)) ((burn_kp s.1).ws w))
  have := endS_ws (s := ntS (burnS s.1, s.2)) (k.ws w) (by rw [Kp_nT k]; exact h)
  rw [Kp_nT k] at this
  exact this
def manyS (n : Nat) (s : St × St) : St × St := it (fun s _ => hourS s) n s
theorem manyS_ws {s : St × St} (w : Ws s.1) : ∀ n, nT s.1 + n ≤ 20000 → Ws (manyS n s).1 ∧ nT (manyS n s).1 = nT s.1 + n := by
  intro n
  induction n with
  | zero => intro _; exact ⟨w, rfl⟩
  | succ n ih =>
    intro hn
    obtain ⟨h1, h2⟩ := ih (by omega)
    have := hourS_ws h1 (by omega)
    rw [h2] at this
    exact this
theorem mod8 {a : Nat} (ha : a < 2 ^ 31) : I a - I a / 8 * 8 = I (a % 8) := mod_I ha (by decide) (by decide)
def toDawn (st : St) : Nat := 8 - nT st % 8
end RefF


