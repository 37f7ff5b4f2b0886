/-! nothing is lost: coins and logs are accounted for, whatever is done -/
theorem sm_up {f1 f2 : Nat → Int32} {i : Nat} {d : Int32} (h : ∀ k, k ≠ i → f2 k = f1 k) (hi : f2 i = f1 i + d) : ∀ m, sm f2 m = sm f1 m + if i < m then d else 0 := by
  intro m
  induction m with
  | zero => rw [if_neg (by omega)]; rfl
  | succ m ih =>
    rw [sm, sm, ih]
    by_cases h1 : i = m
    · subst h1
      rw [if_neg (by omega), if_pos (by omega), hi, Int32.add_zero, Int32.add_assoc]
    · rw [h m (fun hc => h1 hc.symm)]
      by_cases h2 : i < m
      · rw [if_pos h2, if_pos (by omega)]
        ac_rfl
      · rw [if_neg h2, if_neg (by omega), Int32.add_zero, Int32.add_zero]
theorem nH_up {z : St} {k : Nat} {v : Int32} (h : k ≠ 12) : nH (upd z k v) = nH z := congrArg Int32.toNatClampNeg (upd_ne (fun hc => h hc.symm))
theorem sumF_up {z : St} {i : Nat} {v d : Int32} (hi : i < nH z) (hv : v = hk z i 2 + d) : sumF (upd z (49 + 10 * i + 2) v) 2 = sumF z 2 + d := by
  unfold sumF
  rw [nH_up (by omega), sm_up (f1 := fun k => hk z k 2) (i := i) (d := d) (fun k hk0 => hk_ne (by omega)) (by show upd z (49 + 10 * i + 2) v (49 + 10 * i + 2) = _; rw [upd_at, hv]), if_pos hi]
theorem sumF_ne {z : St} {k : Nat} {v : Int32} (h : k ≠ 12) (h2 : k < 49 ∨ (k - 49) % 10 ≠ 2) : sumF (upd z k v) 2 = sumF z 2 := by
  unfold sumF
  rw [nH_up h]
  exact sm_congr _ (fun i hi => hk_ne (by omega))
def TT (z : St) : Int32 := z 6 + sumF z 2
theorem TT_pay {z : St} {i : Nat} {a : Int32} (hi : i < nH z) : sumF (payS z i a) 2 = sumF z 2 + -payP z i a ∧ payS z i a 6 = z 6 := by
  refine ⟨?_, (upd_ne (by omega)).trans (upd_ne (by omega))⟩
  unfold payS
  rw [sumF_ne (by omega) (Or.inr (by omega)), sumF_up hi rfl]
theorem TT_lp {z : St} {i : Nat} {a : Int32} (hi : i < nH z) : TT (upd (payS z i a) 6 (z 6 + payP z i a)) = TT z := by
  unfold TT
  rw [upd_at, sumF_ne (by decide) (Or.inl (by decide)), (TT_pay hi).1]
  have : ∀ a b p : Int32, (a + p) + (b + -p) = a + b := fun a b p => by
    rw [Int32.add_assoc, ← Int32.add_assoc p b, Int32.add_comm p b, Int32.add_assoc b p, Int32.add_right_neg, Int32.add_zero]
  exact this _ _ _
/-- what stays of the sums -/
def Cs (z z1 : St) : Prop := TT z1 = TT z ∧ (∀ k, k = 0 ∨ k = 4 ∨ k = 7 ∨ k = 8 → z1 k = z k)
theorem Cs.refl {z : St} : Cs z z := ⟨rfl, fun _ _ => rfl⟩
theorem Cs.trans {z z1 z2 : St} (h : Cs z z1) (h1 : Cs z1 z2) : Cs z z2 := ⟨h1.1.trans h.1, fun k hk0 => (h1.2 k hk0).trans (h.2 k hk0)⟩
theorem Cs.up {z z1 : St} (h : Cs z z1) {k : Nat} {v : Int32} (h1 : k ≠ 0 ∧ k ≠ 4 ∧ k ≠ 6 ∧ k ≠ 7 ∧ k ≠ 8 ∧ k ≠ 12) (h2 : k < 49 ∨ (k - 49) % 10 ≠ 2) : Cs z (upd z1 k v) := by
  refine ⟨?_, fun j hj => (upd_ne (by omega)).trans (h.2 j hj)⟩
  rw [← h.1]
  unfold TT
  rw [upd_ne (by omega), sumF_ne (by omega) h2]
theorem Cs.au {z z1 : St} (h : Cs z z1) (a : Au z) : Au z1 := by
  obtain ⟨h1, h2⟩ := h
  refine ⟨?_, ?_⟩
  · rw [h2 7 (by decide), a.1]
    exact h1.symm
  · rw [h2 8 (by decide), h2 0 (by decide), h2 4 (by decide), a.2]
theorem Cs_lp {z : St} {i : Nat} {a : Int32} (hi : i < nH z) : Cs z (upd (payS z i a) 6 (z 6 + payP z i a)) := ⟨TT_lp hi, fun k hk0 => (upd_ne (by omega)).trans ((upd_ne (by omega)).trans (upd_ne (by omega)))⟩
theorem Cs_it {step : St × St → Nat → St × St} (hs : ∀ s i, i < nH s.1 → Cs s.1 (step s i).1 ∧ nH (step s i).1 = nH s.1) : ∀ m (s : St × St), m ≤ nH s.1 → Cs s.1 (it step m s).1 ∧ nH (it step m s).1 = nH s.1 := by
  intro m
  induction m with
  | zero => intro s _; exact ⟨Cs.refl, rfl⟩
  | succ m ih =>
    intro s hm
    obtain ⟨i1, i2⟩ := ih s (by omega)
    obtain ⟨j1, j2⟩ := hs (it step m s) m (by omega)
    exact ⟨i1.trans j1, j2.trans i2⟩
theorem Cs_d1 (s : St × St) (i : Nat) (hi : i < nH s.1) : Cs s.1 (d1Step s i).1 ∧ nH (d1Step s i).1 = nH s.1 := ⟨Cs_lp hi, by unfold d1Step payS; dsimp only; rw [nH_up (by decide), nH_up (by omega), nH_up (by omega)]⟩
theorem Cs_pl (c N : Int32) (s : St × St) (i : Nat) (hi : i < nH s.1) : Cs s.1 (plStep c N s i).1 ∧ nH (plStep c N s i).1 = nH s.1 := ⟨Cs_lp hi, by unfold plStep payS; dsimp only; rw [nH_up (by decide), nH_up (by omega), nH_up (by omega)]⟩
theorem Cs_nt (s : St × St) (i : Nat) (hi : i < nH s.1) : Cs s.1 (ntStep s i).1 ∧ nH (ntStep s i).1 = nH s.1 := by
  obtain ⟨d, d1, d2, d3⟩ := deed_I s.1 i
  unfold ntStep
  dsimp only
  rw [d3]
  exact ⟨Cs.refl.up (by omega) (Or.inr (by omega)), nH_up (by omega)⟩
/-- the fees: the pot holds what is paid -/
theorem d3_c : ∀ m (s : St × St × Int32), m ≤ nH s.1 → TT (it d3Step m s).1 + (it d3Step m s).2.2 = TT s.1 + s.2.2 ∧ (it d3Step m s).1 6 = s.1 6 ∧ nH (it d3Step m s).1 = nH s.1 ∧ ∀ k, k = 0 ∨ k = 4 ∨ k = 7 ∨ k = 8 → (it d3Step m s).1 k = s.1 k := by
  intro m
  induction m with
  | zero => intro s _; exact ⟨rfl, rfl, rfl, fun _ _ => rfl⟩
  | succ m ih =>
    intro s hm
    obtain ⟨i1, i2, i3, i4⟩ := ih s (by omega)
    have hi : m < nH (it d3Step m s).1 := by omega
    obtain ⟨p1, p2⟩ := TT_pay (a := fee (it d3Step m s).1 m) hi
    refine ⟨?_, ?_, ?_, fun k hk0 => ?_⟩
    · show TT (payS (it d3Step m s).1 m (fee (it d3Step m s).1 m)) + ((it d3Step m s).2.2 + payP (it d3Step m s).1 m (fee (it d3Step m s).1 m)) = _
      rw [← i1]
      unfold TT
      rw [p1, p2]
      have : ∀ a b c p : Int32, (a + (b + -p)) + (c + p) = (a + b) + c := fun a b c p => by
        rw [Int32.add_comm c p, ← Int32.add_assoc (a + (b + -p)), Int32.add_assoc a, Int32.add_assoc b, Int32.add_left_neg, Int32.add_zero]
      exact this _ _ _ _
    · exact p2.trans i2
    · refine (show nH (payS (it d3Step m s).1 m (fee (it d3Step m s).1 m)) = _ from ?_).trans i3
      unfold payS
      rw [nH_up (by omega), nH_up (by omega)]
    · exact ((upd_ne (by omega)).trans (upd_ne (by omega))).trans (i4 k hk0)
theorem sh_c (part : Int32) : ∀ m (s : St × St), m ≤ nH s.1 → sumF (it (shStep part) m s).1 2 = sumF s.1 2 + part * sm (fun i => if hk s.1 i 5 = -1 then 1 else 0) m ∧ nH (it (shStep part) m s).1 = nH s.1 ∧ (∀ i, hk (it (shStep part) m s).1 i 5 = hk s.1 i 5) ∧ ∀ k, k < 49 → (it (shStep part) m s).1 k = s.1 k := by
  intro m
  induction m with
  | zero =>
    intro s _
    refine ⟨?_, rfl, fun _ => rfl, fun _ _ => rfl⟩
    show sumF s.1 2 = sumF s.1 2 + part * 0
    rw [Int32.mul_zero, Int32.add_zero]
  | succ m ih =>
    intro s hm
    obtain ⟨i1, i2, i3, i4⟩ := ih s (by omega)
    have hi : m < nH (it (shStep part) m s).1 := by omega
    refine ⟨?_, ?_, fun i => ?_, fun k hk0 => ?_⟩
    · show sumF (upd (it (shStep part) m s).1 (49 + 10 * m + 2) (hk (it (shStep part) m s).1 m 2 + if hk (it (shStep part) m s).1 m 5 = -1 then part else 0)) 2 = _ + part * (sm _ m + _)
      rw [sumF_up hi rfl, i1, i3, Int32.mul_add, Int32.add_assoc]
      congr 2
      show (if hk s.1 m 5 = -1 then part else 0) = part * (if hk s.1 m 5 = -1 then 1 else 0)
      by_cases hc : hk s.1 m 5 = -1
      · rw [if_pos hc, if_pos hc, Int32.mul_one]
      · rw [if_neg hc, if_neg hc, Int32.mul_zero]
    · exact (nH_up (by omega)).trans i2
    · exact (hk_ne (by omega)).trans (i3 i)
    · exact (upd_ne (by omega)).trans (i4 k hk0)
theorem Cs_dawn {s : St × St} : Cs s.1 (dawnS s).1 := by
  obtain ⟨a1, a2⟩ := Cs_it Cs_d1 (nH s.1) s (Nat.le_refl _)
  obtain ⟨b1, b2⟩ := Cs_it (Cs_pl (2 * (it d1Step (nH s.1) s).1 5) ((it d1Step (nH s.1) s).1 12)) (nH (it d1Step (nH s.1) s).1) (it d1Step (nH s.1) s) (Nat.le_refl _)
  have c1 : Cs s.1 (plS (it d1Step (nH s.1) s)).1 := (a1.trans b1).up (by decide) (Or.inl (by decide))
  have c2 : nH (plS (it d1Step (nH s.1) s)).1 = nH s.1 := (nH_up (by decide)).trans (b2.trans a2)
  unfold dawnS
  dsimp only
  generalize plS (it d1Step (nH s.1) s) = a at c1 c2 ⊢
  obtain ⟨d1, d2, d3, d4⟩ := d3_c (nH s.1) (a.1, a.2, 0) (by rw [c2]; exact Nat.le_refl _)
  generalize it d3Step (nH s.1) (a.1, a.2, 0) = b at d1 d2 d3 d4 ⊢
  unfold shS
  dsimp only
  obtain ⟨e1, e2, e3, e4⟩ := sh_c (shPart b.2.2 (cntW b.1)) (nH b.1) (b.1, b.2.1) (Nat.le_refl _)
  generalize it (shStep (shPart b.2.2 (cntW b.1))) (nH b.1) (b.1, b.2.1) = c at e1 e2 e3 e4 ⊢
  refine ⟨?_, fun k hk0 => (upd_ne (by omega)).trans ((e4 k (by omega)).trans ((d4 k hk0).trans (c1.2 k hk0)))⟩
  rw [← c1.1]
  have d1' : TT b.1 + b.2.2 = TT a.1 := d1.trans (Int32.add_zero _)
  rw [← d1']
  unfold TT
  rw [upd_at, sumF_ne (by decide) (Or.inl (by decide)), e1, show c.1 6 = b.1 6 from e4 6 (by decide), show sm (fun i => if hk (b.1, b.2.1).1 i 5 = -1 then 1 else 0) (nH b.1) = cntW b.1 from rfl]
  generalize shPart b.2.2 (cntW b.1) * cntW b.1 = q
  have : ∀ x p q s : Int32, (x + (p - q)) + (s + q) = (x + s) + p := fun x p q s => by
    rw [Int32.sub_eq_add_neg]
    have : (x + (p + -q)) + (s + q) = ((x + s) + p) + (-q + q) := by ac_rfl
    rw [this, Int32.add_left_neg, Int32.add_zero]
  exact this _ _ _ _
theorem Au_burn {z : St} (a : Au z) : Au (burnS z) := by
  have hs : sumF (burnS z) 2 = sumF z 2 := by
    unfold burnS
    rw [sumF_ne (by decide) (Or.inl (by decide)), sumF_ne (by decide) (Or.inl (by decide)), sumF_ne (by decide) (Or.inl (by decide)), sumF_ne (by decide) (Or.inl (by decide))]
  refine ⟨?_, ?_⟩
  · rw [hs]
    exact a.1
  · show z 8 = (z 0 - burnB z) + (z 4 + burnB z)
    rw [a.2, Int32.sub_eq_add_neg]
    generalize burnB z = q
    have : (z 0 + -q) + (z 4 + q) = (z 0 + z 4) + (-q + q) := by ac_rfl
    rw [this, Int32.add_left_neg, Int32.add_zero]
theorem Au_hour {s : St × St} (a : Au s.1) : Au (hourS s).1 := by
  have b := Au_burn a
  obtain ⟨c, -⟩ := Cs_it Cs_nt (nH (burnS s.1)) (burnS s.1, s.2) (Nat.le_refl _)
  have t : Cs (burnS s.1) (tick (ntS (burnS s.1, s.2))).1 := c.up (by decide) (Or.inl (by decide))
  unfold hourS endS
  split
  · exact (t.trans Cs_dawn).au b
  · exact t.au b
theorem Au_many {s : St × St} (a : Au s.1) : ∀ m, Au (manyS m s).1 := by
  intro m
  induction m with
  | zero => exact a
  | succ m ih => exact Au_hour ih
theorem Au_pay {z : St} (a : Au z) {i : Nat} (hi : i < nH z) (v : Int32) : Au (pbS z i v) := by
  unfold pbS
  refine ⟨?_, ?_⟩
  · rw [upd_at, sumF_ne (by decide) (Or.inl (by decide)), sumF_ne (by omega) (Or.inr (by omega)), sumF_up hi rfl, upd_ne (by decide), upd_ne (by omega), upd_ne (by omega), a.1]
    have : (z 6 + v) + (sumF z 2 + -v) = (z 6 + sumF z 2) + (-v + v) := by ac_rfl
    rw [this, Int32.add_left_neg, Int32.add_zero]
  · rw [upd_ne (by decide), upd_ne (by omega), upd_ne (by omega), upd_ne (by decide), upd_ne (by omega), upd_ne (by omega), upd_ne (by decide), upd_ne (by omega), upd_ne (by omega)]
    exact a.2
theorem Au_logs {z : St} (a : Au z) (v : Int32) : Au (upd (upd z 0 (z 0 + v)) 8 (z 8 + v)) := by
  refine ⟨?_, ?_⟩
  · rw [sumF_ne (by decide) (Or.inl (by decide)), sumF_ne (by decide) (Or.inl (by decide))]
    exact a.1
  · show z 8 + v = (z 0 + v) + z 4
    rw [a.2]
    ac_rfl
