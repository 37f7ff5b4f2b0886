/-! the class's hut against the reference's array: what is read -/
theorem loop_inv {σ τ : Type} {body : σ → AH → Option ((σ ⊕ τ) × AH)} {n fuel : Nat} (P : Nat → σ → AH → Prop) (Q : τ → AH → Prop) (hs : ∀ i s g, i < n → P i s g → ∃ s1 g1, body s g = some (.inl s1, g1) ∧ P (i + 1) s1 g1) (he : ∀ s g, P n s g → ∃ t g1, body s g = some (.inr t, g1) ∧ Q t g1) (hf : n < fuel) {s : σ} {g : AH} (h0 : P 0 s g) : ∃ t g1, loopX body fuel s g = some (t, g1) ∧ Q t g1 := by
  have H : ∀ k i : Nat, i + k = n → ∀ f : Nat, k < f → ∀ s g, P i s g → ∃ t g1, loopX body f s g = some (t, g1) ∧ Q t g1 := by
    intro k
    induction k with
    | zero =>
      intro i hi f hf s g h
      match f, hf with
      | f + 1, _ =>
        have e : i = n := by omega
        subst e
        obtain ⟨t, g1, h1, h2⟩ := he s g h
        exact ⟨t, g1, by rw [loopX, h1], h2⟩
    | succ k ih =>
      intro i hi f hf s g h
      match f, hf with
      | f + 1, hf =>
        obtain ⟨s1, g1, h1, h2⟩ := hs i s g (by omega) h
        obtain ⟨t, g2, h3, h4⟩ := ih (i + 1) (by omega) f (by omega) s1 g1 h2
        exact ⟨t, g2, by rw [loopX, h1]; exact h3, h4⟩
  exact H n 0 (by omega) fuel hf s g h0
/-- the class's hut holds what the array holds -/
def Rel (st : St) (h : HS) : Prop :=
  (h.1 0 = st 3 ∧ h.1 1 = st 0 ∧ h.1 2 = st 2 ∧ h.1 3 = st 1 ∧ h.1 4 = st 6 ∧ h.1 5 = st 4 ∧ h.1 6 = st 5 ∧ h.1 7 = st 7 ∧ h.1 8 = st 8 ∧ h.1 9 = st 9 ∧ h.1 10 = st 10 ∧ h.1 11 = st 11 ∧ h.1 12 = st 12)
  ∧ ((∀ b, b < nB st → h.2.1 1 b = st (13 + b)) ∧ (∀ b, b < nL st → h.2.1 2 b = st (25 + b)) ∧ (∀ b, b < nF st → h.2.1 3 b = st (37 + b)))
  ∧ (∀ i, i < nH st → ∀ k, k < 6 → h.2.2.1 i k = hk st i k)
  ∧ (∀ i, i < nH st → ∀ k, k < 4 → h.2.2.2 i k = hk st i (6 + k))
  ∧ (∀ j, j < 16 → h.2.1 4 j = inB st (I j - 2))
/-- the hut is measured -/
def Meas (st : St) (h : HS) : Prop := (∀ i, i < nH st → h.2.2.1 i 6 = thk st i ∧ h.2.2.1 i 7 = wN st i) ∧ ∀ j, j < 16 → h.2.1 5 j = sn st (I j - 2)
def hasN (n v : Int32) : Bool := !decide (v < 0) && !decide (n ≤ v)
theorem hasN_I {a : Nat} (ha : a < 2 ^ 31) (v : Int32) : hasN (I a) v = bt v 0 (I a - 1) := by
  unfold hasN bt
  by_cases h : v < 0
  · simp [h]
  · have hv : v = I (kN v) := (Int32.ofNat_toNatClampNeg _ (Int32.not_lt.mp h)).symm
    have hk0 := Int32.toNatClampNeg_lt v
    simp only [h, decide_false, Bool.not_false, Bool.true_and]
    congr 1
    rw [hv]
    rw [decide_eq_decide, I_le ha hk0]
    rcases Nat.eq_zero_or_pos a with h0 | h0
    · subst h0
      refine ⟨fun _ => ?_, fun _ => Nat.zero_le _⟩
      rw [show I 0 - 1 = (-1 : Int32) from rfl]
      exact Int32.lt_of_lt_of_le (by decide : (-1 : Int32) < 0) (Int32.zero_le_ofNat_of_lt hk0)
    · rw [show (1 : Int32) = I 1 from rfl, I_sub h0, I_lt (by omega) hk0]
      omega
theorem has_ex {a : Nat} (ha : a < 2 ^ 31) {v : Int32} (h : hasN (I a) v = true) : ∃ k, k < a ∧ v = I k ∧ kN v = k := by
  unfold hasN at h
  simp only [Bool.and_eq_true, Bool.not_eq_true', decide_eq_false_iff_not] at h
  have hv : v = I (kN v) := (Int32.ofNat_toNatClampNeg _ (Int32.not_lt.mp h.1)).symm
  have hk0 := Int32.toNatClampNeg_lt v
  refine ⟨kN v, ?_, hv, rfl⟩
  have h2 := h.2
  rw [hv, I_le ha hk0] at h2
  exact Nat.lt_of_not_le h2
theorem has_I {a k : Nat} (ha : a < 2 ^ 31) (hk0 : k < a) : hasN (I a) (I k) = true := by
  unfold hasN
  simp only [Bool.and_eq_true, Bool.not_eq_true', decide_eq_false_iff_not]
  refine ⟨Int32.not_lt.mpr (Int32.zero_le_ofNat_of_lt (by omega)), ?_⟩
  rw [I_le ha (by omega)]
  omega
theorem has_neg (n : Int32) : hasN n (-1) = false := by
  unfold hasN
  simp
theorem sub_p1 (x : Int32) : x + 2 - 1 = x + 1 := by rw [Int32.sub_eq_add_neg, Int32.add_assoc]; rfl
theorem I_m (k : Nat) : I (k + 1) - 2 = I k - 1 := by rw [← I_succ, Int32.sub_eq_add_neg, Int32.add_assoc, Int32.sub_eq_add_neg]; rfl
theorem I_m0 (k : Nat) : I (k + 2) - 2 = I k := by rw [← I_add, Int32.sub_eq_add_neg, Int32.add_assoc]; exact Int32.add_zero _
theorem I_m1 (k : Nat) : I (k + 3) - 2 = I k + 1 := by rw [← I_add, Int32.sub_eq_add_neg, Int32.add_assoc]; rfl
theorem I_m2 (k : Nat) : I (k + 4) - 2 = I k + 2 := by rw [← I_add, Int32.sub_eq_add_neg, Int32.add_assoc]; rfl
section HutA
variable {g : AH} {p : Nat} {h : HS} {st : St}
theorem isB_has (w : Ws st) (v : Int32) : isB st v = hasN (st 9) v := by
  unfold isB
  rw [w.b.1]
  exact (hasN_I (by have := w.b.2; omega) v).symm
theorem isL_has (w : Ws st) (v : Int32) : isL st v = hasN (st 10) v := by
  unfold isL
  rw [w.l.1]
  exact (hasN_I (by have := w.l.2; omega) v).symm
theorem isH_has (w : Ws st) (v : Int32) : isH st v = hasN (st 12) v := by
  unfold isH
  rw [w.h.1]
  exact (hasN_I (by have := w.h.2; omega) v).symm
theorem c_has {n v : Int32} {A : Option (Int32 × AH)} (hA : A = if n ≤ v then some (0, g) else some (1, g)) : (if v < 0 then some (0, g) else A) = some (bI (hasN n v), g) := by
  subst hA
  unfold hasN bI
  by_cases h1 : v < 0
  · simp [h1]
  · by_cases h2 : n ≤ v
    · simp [h1, h2]
    · simp [h1, h2]
theorem c_hasBunk (R : Rel st h) (v : Int32) : x3_hasBunk p v (putH g p h) = some (bI (hasN (st 9) v), putH g p h) := by
  unfold x3_hasBunk
  refine c_has ?_
  (repeat first | rw [gb_s] | rw [cb_s] | rw [H_isO] | rw [H_getI (by decide)] | rw [H_getR (d := 1) rfl (by decide) (by decide)] | rw [H_getR (d := 2) rfl (by decide) (by decide)] | rw [H_getR (d := 3) rfl (by decide) (by decide)] | rw [H_getR (d := 4) rfl (by decide) (by decide)] | rw [H_getR (d := 5) rfl (by decide) (by decide)] | rw [H_getR (d := 6) rfl (by decide) (by decide)])
  rw [R.1.2.2.2.2.2.2.2.2.2.1]
theorem c_hasBlanket (R : Rel st h) (v : Int32) : x3_hasBlanket p v (putH g p h) = some (bI (hasN (st 10) v), putH g p h) := by
  unfold x3_hasBlanket
  refine c_has ?_
  (repeat first | rw [gb_s] | rw [cb_s] | rw [H_isO] | rw [H_getI (by decide)] | rw [H_getR (d := 1) rfl (by decide) (by decide)] | rw [H_getR (d := 2) rfl (by decide) (by decide)] | rw [H_getR (d := 3) rfl (by decide) (by decide)] | rw [H_getR (d := 4) rfl (by decide) (by decide)] | rw [H_getR (d := 5) rfl (by decide) (by decide)] | rw [H_getR (d := 6) rfl (by decide) (by decide)])
  rw [R.1.2.2.2.2.2.2.2.2.2.2.1]
theorem c_hasHiker (R : Rel st h) (v : Int32) : x3_hasHiker p v (putH g p h) = some (bI (hasN (st 12) v), putH g p h) := by
  unfold x3_hasHiker
  refine c_has ?_
  (repeat first | rw [gb_s] | rw [cb_s] | rw [H_isO] | rw [H_getI (by decide)] | rw [H_getR (d := 1) rfl (by decide) (by decide)] | rw [H_getR (d := 2) rfl (by decide) (by decide)] | rw [H_getR (d := 3) rfl (by decide) (by decide)] | rw [H_getR (d := 4) rfl (by decide) (by decide)] | rw [H_getR (d := 5) rfl (by decide) (by decide)] | rw [H_getR (d := 6) rfl (by decide) (by decide)])
  rw [R.1.2.2.2.2.2.2.2.2.2.2.2.2]
theorem c_inside (w : Ws st) (R : Rel st h) : x3_temperatureInside p (putH g p h) = some (ins st, putH g p h) := by
  unfold x3_temperatureInside x3_temperatureInside_j26 ins
  obtain ⟨h1, h2⟩ := w.t
  obtain ⟨h3, h4, h5⟩ := w.f
  have hm : nT st % nF st < nF st := Nat.mod_lt _ h4
  have h0 : ¬ I (nF st) = 0 := by
    intro h
    have h6 : I (nF st) = I 0 := h
    rw [I_eq (by omega) (by decide)] at h6
    omega
  (repeat first | rw [gb_s] | rw [cb_s] | rw [H_isO] | rw [H_getI (by decide)] | rw [H_getR (d := 1) rfl (by decide) (by decide)] | rw [H_getR (d := 2) rfl (by decide) (by decide)] | rw [H_getR (d := 3) rfl (by decide) (by decide)] | rw [H_getR (d := 4) rfl (by decide) (by decide)] | rw [H_getR (d := 5) rfl (by decide) (by decide)] | rw [H_getR (d := 6) rfl (by decide) (by decide)])
  rw [R.1.2.2.2.2.2.2.2.2.2.2.2.1, R.1.1, R.1.2.2.1, h3, if_pos (by rw [show (1 : Int32) = I 1 from rfl, I_le (by decide) (by omega)]; omega), if_neg h0, h1, mod_I (by omega) (by omega) h4, H_ald (d := 3) (k := nT st % nF st) (by decide) (by decide) rfl (by show _ < 12; omega)]
  (repeat first | rw [gb_s] | rw [cb_s] | rw [H_isO] | rw [H_getI (by decide)] | rw [H_getR (d := 1) rfl (by decide) (by decide)] | rw [H_getR (d := 2) rfl (by decide) (by decide)] | rw [H_getR (d := 3) rfl (by decide) (by decide)] | rw [H_getR (d := 4) rfl (by decide) (by decide)] | rw [H_getR (d := 5) rfl (by decide) (by decide)] | rw [H_getR (d := 6) rfl (by decide) (by decide)])
  rw [R.2.1.2.2 _ hm]
theorem c_isCold {i : Nat} (hi : i < nH st) (hi0 : i < 10) (R : Rel st h) : x1_isCold (p + (7 + 2 * i)) (putH g p h) = some (bI (!decide (hk st i 0 ≤ h.2.2.1 i 7)), putH g p h) := by
  unfold x1_isCold
  rw [K_getI hi0 (by decide), gb_s, K_getI hi0 (by decide), gb_s, R.2.2.1 i hi 0 (by decide)]
  by_cases h1 : hk st i 0 ≤ h.2.2.1 i 7
  · rw [if_pos h1]; simp [h1, bI]
  · rw [if_neg h1]; simp [h1, bI]
theorem c_sleeperIn (w : Ws st) (R : Rel st h) (v : Int32) : x3_sleeperIn p v (putH g p h) = some (inB st v, putH g p h) := by
  unfold x3_sleeperIn
  have hb := w.b.2
  rw [H_isO, gb_s, c_hasBunk R, cb_s]
  by_cases hv : hasN (st 9) v = true
  · rw [if_neg (by rw [bI_z, hv]; decide)]
    rw [w.b.1] at hv
    obtain ⟨k, h1, h2, h3⟩ := has_ex (by omega) hv
    rw [H_getR (d := 4) rfl (by decide) (by decide), gb_s, h2, H_ald (d := 4) (k := k + 2) (x := I k + 2) (by decide) (by decide) (I_add k 2) (by show _ < 16; omega), gb_s, R.2.2.2.2 _ (by omega), I_m0]
  · rw [if_pos ((bI_z _).mpr (by simpa using hv))]
    unfold inB
    rw [if_neg (by rw [isB_has w]; exact hv)]
theorem c_noiseAt (w : Ws st) (R : Rel st h) (M : Meas st h) {k : Nat} (hk0 : k < nB st) : x3_noiseAt p (I k) (putH g p h) = some (noi st (I k), putH g p h) := by
  unfold x3_noiseAt noi
  have hb := w.b.2
  rw [if_neg (Int32.not_lt.mpr (Int32.zero_le_ofNat_of_lt (by omega)))]
  (repeat first | rw [gb_s] | rw [cb_s] | rw [H_isO] | rw [H_getI (by decide)] | rw [H_getR (d := 1) rfl (by decide) (by decide)] | rw [H_getR (d := 2) rfl (by decide) (by decide)] | rw [H_getR (d := 3) rfl (by decide) (by decide)] | rw [H_getR (d := 4) rfl (by decide) (by decide)] | rw [H_getR (d := 5) rfl (by decide) (by decide)] | rw [H_getR (d := 6) rfl (by decide) (by decide)])
  rw [R.1.2.2.2.2.2.2.2.2.2.1, w.b.1, if_pos ((I_lt (by omega) (by omega)).mpr hk0), H_ald (d := 5) (k := k + 1) (x := I k + 2 - 1) (by decide) (by decide) (by rw [sub_p1]; exact I_add k 1) (by show _ < 16; omega)]
  (repeat first | rw [gb_s] | rw [cb_s] | rw [H_isO] | rw [H_getI (by decide)] | rw [H_getR (d := 1) rfl (by decide) (by decide)] | rw [H_getR (d := 2) rfl (by decide) (by decide)] | rw [H_getR (d := 3) rfl (by decide) (by decide)] | rw [H_getR (d := 4) rfl (by decide) (by decide)] | rw [H_getR (d := 5) rfl (by decide) (by decide)] | rw [H_getR (d := 6) rfl (by decide) (by decide)])
  rw [H_ald (d := 5) (k := k + 3) (x := I k + 2 + 1) (by decide) (by decide) (by rw [show (2 : Int32) = I 2 from rfl, I_add, show (1 : Int32) = I 1 from rfl, I_add]) (by show _ < 16; omega)]
  (repeat first | rw [gb_s] | rw [cb_s] | rw [H_isO] | rw [H_getI (by decide)] | rw [H_getR (d := 1) rfl (by decide) (by decide)] | rw [H_getR (d := 2) rfl (by decide) (by decide)] | rw [H_getR (d := 3) rfl (by decide) (by decide)] | rw [H_getR (d := 4) rfl (by decide) (by decide)] | rw [H_getR (d := 5) rfl (by decide) (by decide)] | rw [H_getR (d := 6) rfl (by decide) (by decide)])
  rw [H_ald (d := 5) (k := k) (x := I k + 2 - 2) (by decide) (by decide) (by rw [show (2 : Int32) = I 2 from rfl, I_add, I_sub (by omega), Nat.add_sub_cancel]) (by show _ < 16; omega)]
  (repeat first | rw [gb_s] | rw [cb_s] | rw [H_isO] | rw [H_getI (by decide)] | rw [H_getR (d := 1) rfl (by decide) (by decide)] | rw [H_getR (d := 2) rfl (by decide) (by decide)] | rw [H_getR (d := 3) rfl (by decide) (by decide)] | rw [H_getR (d := 4) rfl (by decide) (by decide)] | rw [H_getR (d := 5) rfl (by decide) (by decide)] | rw [H_getR (d := 6) rfl (by decide) (by decide)])
  rw [H_ald (d := 5) (k := k + 4) (x := I k + 2 + 2) (by decide) (by decide) (by rw [show (2 : Int32) = I 2 from rfl, I_add, I_add]) (by show _ < 16; omega)]
  (repeat first | rw [gb_s] | rw [cb_s] | rw [H_isO] | rw [H_getI (by decide)] | rw [H_getR (d := 1) rfl (by decide) (by decide)] | rw [H_getR (d := 2) rfl (by decide) (by decide)] | rw [H_getR (d := 3) rfl (by decide) (by decide)] | rw [H_getR (d := 4) rfl (by decide) (by decide)] | rw [H_getR (d := 5) rfl (by decide) (by decide)] | rw [H_getR (d := 6) rfl (by decide) (by decide)])
  rw [M.2 _ (by omega), M.2 _ (by omega), M.2 _ (by omega), M.2 _ (by omega), I_m, I_m1, I_m2]
theorem c_activityNow (w : Ws st) (R : Rel st h) (M : Meas st h) {i : Nat} (hi : i < nH st) : x3_activityNow p (I i) (putH g p h) = some (deed st i, putH g p h) := by
  have hh := w.h.2
  have hi0 : i < 10 := by omega
  unfold x3_activityNow deed
  rw [H_getR (d := 6) rfl (by decide) (by decide), gb_s, H_hik hi0, gb_s, K_isO hi0, gb_s, c_isCold hi hi0 R, cb_s, (M.1 i hi).2]
  show (if bI (cold st i) = 0 then _ else _) = _
  by_cases h1 : cold st i = true
  · rw [if_neg (by rw [bI_z, h1]; decide), if_pos h1]
  · rw [if_pos ((bI_z _).mpr (by simpa using h1)), if_neg h1, K_getI hi0 (by decide), gb_s, R.2.2.1 i hi 4 (by decide)]
    by_cases h2 : hk st i 4 = -1
    · rw [if_pos h2, if_pos h2]
    · rw [if_neg h2, if_neg h2, gb_s, H_isO, gb_s]
      obtain ⟨b, h3, h4, h5, h6⟩ := w.bunk hi0 h2
      rw [h5, c_noiseAt w R M h4, cb_s]
      split <;> rfl
end HutA


