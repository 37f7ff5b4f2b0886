/-! the class's measuring -/
/-- no bunk and no blanket has two users -/
def Un (st : St) : Prop := ∀ i j, i < nH st → j < nH st → i ≠ j → (hk st i 4 ≠ -1 → hk st i 4 ≠ hk st j 4) ∧ (hk st i 5 ≠ -1 → hk st i 5 ≠ hk st j 5)
section HutB
variable {g : AH} {p : Nat} {h : HS} {st : St}
theorem inB_of (w : Ws st) (u : Un st) {i : Nat} (hi : i < nH st) (hb : ¬ hk st i 4 = -1) : inB st (hk st i 4) = I i := by
  have hh := w.h.2
  obtain ⟨b, h3, h4, h5, h6⟩ := w.bunk (by omega) hb
  unfold inB
  rw [if_pos (by rw [isB_has w, w.b.1, h5]; exact has_I (by have := w.b.2; omega) h4)]
  unfold hw
  cases hf : ff (hwp st 4 (hk st i 4)) (nH st) with
  | none =>
    have := ff_none hf i hi
    simp [hwp, hk] at this
  | some k =>
    obtain ⟨h1, h2, -⟩ := ff_some hf
    have h2' : hk st k 4 = hk st i 4 := of_decide_eq_true h2
    by_cases hki : k = i
    · rw [hki]
    · exact absurd h2'.symm ((u i k hi h1 (Ne.symm hki)).1 hb)
theorem c_warmthOfBunk (w : Ws st) (R : Rel st h) {b : Nat} (hb : b < nB st) : x3_warmthOfBunk p (I b) (putH g p h) = some ((st (13 + b) + near st (I b - 1)) + near st (I b + 1), putH g p h) := by
  have h12 := w.b.2
  unfold x3_warmthOfBunk
  rw [H_isO, gb_s, c_hasBunk R, cb_s, w.b.1, if_neg (by rw [bI_z, has_I (by omega) hb]; decide), H_getR (d := 4) rfl (by decide) (by decide), gb_s, H_ald (d := 4) (k := b + 1) (x := I b + 2 - 1) (by decide) (by decide) (by rw [sub_p1]; exact I_add b 1) (by show _ < 16; omega), gb_s, R.2.2.2.2 _ (by omega), I_m]
  have e49 : ∀ s0 s1 : Int32, x3_warmthOfBunk_j49 p (I b) s0 s1 (putH g p h) = some ((st (13 + b) + s0) + s1, putH g p h) := by
    intro s0 s1
    unfold x3_warmthOfBunk_j49
    rw [H_getR (d := 1) rfl (by decide) (by decide), gb_s, H_ald (d := 1) (k := b) (x := I b) (by decide) (by decide) rfl (by show _ < 12; omega), gb_s, R.2.1.1 _ hb]
  have e31 : ∀ s0 : Int32, x3_warmthOfBunk_j31 p (I b) (I b + 2) s0 (putH g p h) = some ((st (13 + b) + s0) + near st (I b + 1), putH g p h) := by
    intro s0
    unfold x3_warmthOfBunk_j31
    rw [H_getR (d := 4) rfl (by decide) (by decide), gb_s, H_ald (d := 4) (k := b + 3) (x := I b + 2 + 1) (by decide) (by decide) (by rw [show (2 : Int32) = I 2 from rfl, I_add, show (1 : Int32) = I 1 from rfl, I_add]) (by show _ < 16; omega), gb_s, R.2.2.2.2 _ (by omega), I_m1]
    unfold near
    by_cases h1 : inB st (I b + 1) = -1
    · rw [if_pos h1, if_pos h1, e49]
    · rw [if_neg h1, if_neg h1, e49]
  by_cases h1 : inB st (I b - 1) = -1
  · rw [if_pos h1, e31, show near st (I b - 1) = 0 from if_pos h1]
  · rw [if_neg h1, e31, show near st (I b - 1) = 1 from if_neg h1]
theorem c_warmthOfNone (R : Rel st h) : x3_warmthOfBunk p (-1) (putH g p h) = some (0, putH g p h) := by
  unfold x3_warmthOfBunk
  rw [H_isO, gb_s, c_hasBunk R, cb_s, if_pos ((bI_z _).mpr (has_neg _))]
/-- changes of what measuring writes keep the rest -/
theorem Rel.k67 (R : Rel st h) {i k : Nat} {v : Int32} (hk0 : 6 ≤ k) : Rel st (hK h i k v) := by
  refine ⟨R.1, R.2.1, fun j hj q hq => ?_, R.2.2.2.1, R.2.2.2.2⟩
  show (if j = i then upd (h.2.2.1 i) k v else h.2.2.1 j) q = _
  by_cases hji : j = i
  · rw [if_pos hji, upd_ne (by omega), ← hji]
    exact R.2.2.1 j hj q hq
  · rw [if_neg hji]
    exact R.2.2.1 j hj q hq
theorem Rel.a5 (R : Rel st h) {z : Nat → Int32} : Rel st (hAr h 5 z) := by
  refine ⟨R.1, ⟨fun b hb => ?_, fun b hb => ?_, fun b hb => ?_⟩, R.2.2.1, R.2.2.2.1, fun j hj => ?_⟩
  · exact R.2.1.1 b hb
  · exact R.2.1.2.1 b hb
  · exact R.2.1.2.2 b hb
  · exact R.2.2.2.2 j hj
/-- measured for the first i hikers -/
def MeasN (st : St) (i : Nat) (h : HS) : Prop := (∀ q, q < i → h.2.2.1 q 6 = thk st q ∧ h.2.2.1 q 7 = wN st q) ∧ ∀ j, j < 16 → h.2.1 5 j = if inB st (I j - 2) ≠ -1 ∧ kN (inB st (I j - 2)) < i then sn st (I j - 2) else 0
theorem hK_at {i k : Nat} {v : Int32} : (hK h i k v).2.2.1 i k = v := by
  show (if i = i then upd (h.2.2.1 i) k v else h.2.2.1 i) k = v
  rw [if_pos rfl, upd_at]
theorem hK_ne {i k q j : Nat} {v : Int32} (hq : q ≠ i ∨ j ≠ k) : (hK h i k v).2.2.1 q j = h.2.2.1 q j := by
  show (if q = i then upd (h.2.2.1 i) k v else h.2.2.1 q) j = _
  by_cases h1 : q = i
  · rw [if_pos h1, h1, upd_ne (by omega)]
  · rw [if_neg h1]
theorem inB_lt (w : Ws st) {i : Nat} {c : Int32} (hne : hk st i 4 ≠ c) : (inB st c ≠ -1 ∧ kN (inB st c) < i + 1) ↔ (inB st c ≠ -1 ∧ kN (inB st c) < i) := by
  rcases inB_cases w c with h1 | ⟨k, h1, h2, h3, h4⟩
  · exact ⟨fun h => absurd h1 h.1, fun h => absurd h1 h.1⟩
  · refine ⟨fun h => ⟨h.1, ?_⟩, fun h => ⟨h.1, by omega⟩⟩
    have : k ≠ i := fun e => hne (e ▸ h4)
    omega
theorem inB_neg (w : Ws st) : inB st (-1) = -1 := by
  unfold inB
  rw [if_neg (by rw [isB_has w, has_neg]; decide)]
theorem measN_all (w : Ws st) (M : MeasN st (nH st) h) : Meas st h := by
  refine ⟨M.1, fun j hj => ?_⟩
  rw [M.2 j hj]
  rcases inB_cases w (I j - 2) with h1 | ⟨k, h1, h2, h3, -⟩
  · rw [if_neg (fun h2 => h2.1 h1)]
    unfold sn
    rw [if_pos h1]
  · rw [if_pos ⟨by rw [h2]; exact I_ne_neg (by have := w.h.2; omega), by omega⟩]
theorem c_measure (w : Ws st) (u : Un st) (R : Rel st h) : ∃ h1, x3_measure p (putH g p h) = some ((), putH g p h1) ∧ Rel st h1 ∧ Meas st h1 := by
  have hh := w.h.2
  unfold x3_measure
  rw [H_isO, gb_s, c_inside w R, cb_s]
  -- the snores are put to 0
  have L1 : ∃ t g1, loopX (x3_measure_l7 p (ins st)) 1000 0 (putH g p h) = some (t, g1) ∧ ∃ h1, g1 = putH g p h1 ∧ Rel st h1 ∧ ∀ j, j < 16 → h1.2.1 5 j = 0 := by
    refine loop_inv (n := 16) (fun i s g1 => s = I i ∧ ∃ h1, g1 = putH g p h1 ∧ Rel st h1 ∧ ∀ j, j < i → h1.2.1 5 j = 0) (fun _ g1 => ∃ h1, g1 = putH g p h1 ∧ Rel st h1 ∧ ∀ j, j < 16 → h1.2.1 5 j = 0) ?_ ?_ (by decide) ⟨rfl, h, rfl, R, fun j hj => by omega⟩
    · rintro i s g1 hi ⟨rfl, h1, rfl, R1, hz⟩
      unfold x3_measure_l7
      rw [H_getR (d := 5) rfl (by decide) (by decide), gb_s, H_alen (by decide) (by decide), gb_s, if_neg (by rw [show I (hLen 5) = I 16 from rfl, I_le (by decide) (by omega)]; omega), gb_s, H_ast (d := 5) (k := i) (by decide) (by decide) rfl hi, gb_s]
      refine ⟨_, _, rfl, I_succ i, _, rfl, R1.a5, fun j hj => ?_⟩
      show upd (h1.2.1 5) i 0 j = 0
      by_cases hji : j = i
      · rw [hji, upd_at]
      · rw [upd_ne hji]
        exact hz j (by omega)
    · rintro s g1 ⟨rfl, h1, rfl, R1, hz⟩
      unfold x3_measure_l7
      rw [H_getR (d := 5) rfl (by decide) (by decide), gb_s, H_alen (by decide) (by decide), gb_s, if_pos (by decide)]
      exact ⟨_, _, rfl, h1, rfl, R1, hz⟩
  obtain ⟨t, g1, e1, h1, rfl, R1, hz⟩ := L1
  rw [e1, cb_s]
  have L2 : ∃ t g1, loopX (x3_measure_l31 p (ins st)) 1000 0 (putH g p h1) = some (t, g1) ∧ ∃ h2, g1 = putH g p h2 ∧ Rel st h2 ∧ Meas st h2 := by
    refine loop_inv (n := nH st) (fun i s g1 => s = I i ∧ ∃ h1, g1 = putH g p h1 ∧ Rel st h1 ∧ MeasN st i h1) (fun _ g1 => ∃ h1, g1 = putH g p h1 ∧ Rel st h1 ∧ Meas st h1) ?_ ?_ (by omega) ⟨rfl, h1, rfl, R1, fun j hj => by omega, fun j hj => by rw [if_neg (fun hc => by omega)]; exact hz j hj⟩
    · rintro i s g1 hi ⟨rfl, h1, rfl, R1, M1⟩
      have hi0 : i < 10 := by omega
      have hR : Rel st (hK (hK h1 i 6 (thk st i)) i 7 (wN st i)) := (R1.k67 (by decide)).k67 (by decide)
      have hM : ∀ q, q < i + 1 → (hK (hK h1 i 6 (thk st i)) i 7 (wN st i)).2.2.1 q 6 = thk st q ∧ (hK (hK h1 i 6 (thk st i)) i 7 (wN st i)).2.2.1 q 7 = wN st q := by
        intro q hq
        by_cases hqi : q = i
        · rw [hqi, hK_at, hK_ne (Or.inr (by decide)), hK_at]
          exact ⟨rfl, rfl⟩
        · rw [hK_ne (Or.inl hqi), hK_ne (Or.inl hqi), hK_ne (Or.inl hqi), hK_ne (Or.inl hqi)]
          exact M1.1 q (by omega)
      -- the second half
      have e71 : ∃ h2, x3_measure_j71_31 p (ins st) (I i) (p + (7 + 2 * i)) (thk st i) (p + (7 + 2 * i)) (putH g p h1) = some (.inl (I (i + 1)), putH g p h2) ∧ Rel st h2 ∧ MeasN st (i + 1) h2 := by
        have Ra : Rel st (hK h1 i 6 (thk st i)) := R1.k67 (by decide)
        unfold x3_measure_j71_31 x3_measure_j126_31
        rw [K_putI hi0 (by decide), gb_s, K_getI hi0 (by decide), gb_s, hK_at, K_getI hi0 (by decide), gb_s, Ra.2.2.1 i hi 4 (by decide), H_isO, gb_s]
        by_cases hb : hk st i 4 = -1
        · have ew : (ins st + thk st i) + 0 = wN st i := by
            unfold wN wB
            rw [if_pos hb, Int32.add_zero]
          rw [hb, c_warmthOfNone Ra, cb_s, ew, K_putI hi0 (by decide), gb_s, K_getI hi0 (by decide), gb_s, hR.2.2.1 i hi 4 (by decide), hb, H_isO, gb_s, c_hasBunk hR, cb_s, if_pos ((bI_z _).mpr (has_neg _)), I_succ]
          refine ⟨_, rfl, hR, hM, fun j hj => ?_⟩
          show h1.2.1 5 j = _
          rw [M1.2 j hj]
          by_cases hc : hk st i 4 = I j - 2
          · have : inB st (I j - 2) = -1 := by rw [← hc, hb]; exact inB_neg w
            rw [if_neg (fun h => h.1 this), if_neg (fun h => h.1 this)]
          · simp only [inB_lt w hc]
        · obtain ⟨b, b1, b2, b3, b4⟩ := w.bunk hi0 hb
          have hib := inB_of w u hi hb
          have ew : (ins st + thk st i) + ((st (13 + b) + near st (I b - 1)) + near st (I b + 1)) = wN st i := by
            unfold wN wB
            rw [if_neg hb, b3, show kN (I b) = b from I_nat (by omega)]
            ac_rfl
          have hnb : nB st < 2 ^ 31 := by have := w.b.2; omega
          rw [b3] at hib
          have hne : ∀ j, j < 16 → j ≠ b + 2 → hk st i 4 ≠ I j - 2 := by
            intro j hj hjb hc
            rw [b3] at hc
            have h5 : I b + 2 = I j := by rw [hc, Int32.sub_add_cancel]
            rw [show (2 : Int32) = I 2 from rfl, I_add, I_eq (by omega) (by omega)] at h5
            omega
          rw [b3, c_warmthOfBunk w Ra b2, cb_s, ew, K_putI hi0 (by decide), gb_s, K_getI hi0 (by decide), gb_s, hR.2.2.1 i hi 4 (by decide), b3, H_isO, gb_s, c_hasBunk hR, cb_s, w.b.1, if_neg (by rw [bI_z, has_I hnb b2]; decide), K_isO hi0, gb_s, c_isCold hi hi0 hR, cb_s, hK_at]
          show ∃ h2, (if bI (cold st i) = 0 then _ else _) = _ ∧ _
          by_cases hcd : cold st i = true
          · rw [if_neg (by rw [bI_z, hcd]; decide), I_succ]
            refine ⟨_, rfl, hR, hM, fun j hj => ?_⟩
            show h1.2.1 5 j = _
            rw [M1.2 j hj]
            by_cases hjb : j = b + 2
            · have es : sn st (I j - 2) = 0 := by
                rw [hjb, I_m0]
                unfold sn
                rw [hib, if_neg (I_ne_neg (by omega)), show kN (I i) = i from I_nat (by omega), if_pos hcd]
              rw [es]
              split <;> split <;> rfl
            · simp only [inB_lt w (hne j hj hjb)]
          · rw [if_pos ((bI_z _).mpr (by simpa using hcd)), H_getR (d := 5) rfl (by decide) (by decide), gb_s, K_getI hi0 (by decide), gb_s, hR.2.2.1 i hi 4 (by decide), b3, K_getI hi0 (by decide), gb_s, hR.2.2.1 i hi 1 (by decide), H_ast (d := 5) (k := b + 2) (x := I b + 2) (by decide) (by decide) (I_add b 2) (by show _ < 16; omega), gb_s, I_succ]
            refine ⟨_, rfl, hR.a5, hM, fun j hj => ?_⟩
            show upd (h1.2.1 5) (b + 2) (hk st i 1) j = _
            by_cases hjb : j = b + 2
            · have es : sn st (I j - 2) = hk st i 1 := by
                rw [hjb, I_m0]
                unfold sn
                rw [hib, if_neg (I_ne_neg (by omega)), show kN (I i) = i from I_nat (by omega), if_neg hcd]
              rw [es, hjb, upd_at, I_m0, hib, if_pos ⟨I_ne_neg (by omega), by rw [show kN (I i) = i from I_nat (by omega)]; omega⟩]
            · rw [upd_ne hjb, M1.2 j hj]
              simp only [inB_lt w (hne j hj hjb)]
      obtain ⟨h2, e2, R2, M2⟩ := e71
      refine ⟨_, _, ?_, rfl, h2, rfl, R2, M2⟩
      unfold x3_measure_l31
      rw [H_getI (by decide), gb_s, R1.1.2.2.2.2.2.2.2.2.2.2.2.2, w.h.1, if_neg (by rw [I_le (by omega) (by omega)]; omega), H_getR (d := 6) rfl (by decide) (by decide), gb_s, H_hik hi0, gb_s, K_getI hi0 (by decide), gb_s, R1.2.2.1 i hi 5 (by decide), H_isO, gb_s, c_hasBlanket R1, cb_s]
      by_cases hb : hk st i 5 = -1
      · rw [hb, if_pos ((bI_z _).mpr (has_neg _))]
        rw [show thk st i = 0 from if_pos hb] at e2
        exact e2
      · obtain ⟨b, b1, b2', b3, b4⟩ := w.blan hi0 hb
        have b2 := b2' hi
        have hnl : nL st < 2 ^ 31 := by have := w.l.2; omega
        rw [b3, w.l.1, if_neg (by rw [bI_z, has_I hnl b2]; decide), H_getR (d := 2) rfl (by decide) (by decide), gb_s, K_getI hi0 (by decide), gb_s, R1.2.2.1 i hi 5 (by decide), b3, H_ald (d := 2) (k := b) (x := I b) (by decide) (by decide) rfl (by show _ < 12; omega), gb_s, R1.2.1.2.1 _ b2]
        rw [show thk st i = st (25 + b) by unfold thk; rw [if_neg hb, b4]] at e2
        exact e2
    · rintro s g1 ⟨rfl, h1, rfl, R1, M1⟩
      unfold x3_measure_l31
      rw [H_getI (by decide), gb_s, R1.1.2.2.2.2.2.2.2.2.2.2.2.2, w.h.1, if_pos ((I_le (by omega) (by omega)).mpr (Nat.le_refl _))]
      exact ⟨_, _, rfl, h1, rfl, R1, measN_all w M1⟩
  obtain ⟨t2, g2, e2, h2, rfl, R2, M2⟩ := L2
  rw [e2, cb_s]
  exact ⟨h2, rfl, R2, M2⟩
end HutB


