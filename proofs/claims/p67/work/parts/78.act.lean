/-! what the class refuses and does: the nine commands -/
def ftSwap (st : St) (i j : Int32) : Int32 := if isH st i = true then if isH st j = true then if i = j then 3 else if hk st (kN i) 5 = -1 ∧ hk st (kN j) 5 = -1 then 3 else 0 else 1 else 1
def ftOf (st : St) (c a b : Int32) : Int32 := if c = 0 then ftTake st a b else if c = 1 then ftReturn st a else if c = 2 then ftSwap st a b else if c = 3 then ftLie st a b else if c = 4 then ftRise st a else if c = 5 then (if bt a 0 3 = true then 0 else 2) else if c = 6 then ftFetch st a else if c = 7 then ftPay st a b else ftPass st a
/-- the array after a command -/
def pfS (s : St × St) (c a b : Int32) : St := if c = 0 then upd s.1 (49 + 10 * kN a + 5) b else if c = 1 then upd s.1 (49 + 10 * kN a + 5) (-1) else if c = 2 then exS s.1 (kN a) (kN b) else if c = 3 then upd s.1 (49 + 10 * kN a + 4) b else if c = 4 then upd s.1 (49 + 10 * kN a + 4) (-1) else if c = 5 then upd s.1 1 a else if c = 6 then upd (upd s.1 0 (s.1 0 + a)) 8 (s.1 8 + a) else if c = 7 then pbS s.1 (kN a) b else (manyS (kN a) s).1
/-- what a command answers -/
def pfV (s : St × St) (c a b : Int32) : Int32 := if c = 0 then wN (pfS s c a b) (kN a) else if c = 1 then hk s.1 (kN a) 5 else if c = 2 then cntD (pfS s c a b) 0 else if c = 3 then noi (pfS s c a b) b else if c = 4 then hk s.1 (kN a) 4 else if c = 5 then s.1 1 else if c = 6 then s.1 0 + a else if c = 7 then hk s.1 (kN a) 3 + -b else (manyS (kN a) s).1 6 - s.1 6
section Act
variable {g : AH} {p : Nat} {h : HS} {st : St}
theorem c_faultOfSwap (w : Ws st) (R : Rel st h) (i j : Int32) : x3_faultOfSwap p i j (putH g p h) = some (ftSwap st i j, putH g p h) := by
  unfold x3_faultOfSwap x3_faultOfSwap_j48 ftSwap
  rw [H_isO, gb_s, c_hasHiker R, cb_s, ← isH_has w]
  by_cases h1 : isH st i = true
  · obtain ⟨a, a1, a2, a3, a4⟩ := isH_ex w h1
    rw [if_neg (by rw [bI_z, h1]; decide), if_pos h1, H_isO, gb_s, c_hasHiker R, cb_s, ← isH_has w]
    by_cases h2 : isH st j = true
    · obtain ⟨b, b1, b2, b3, b4⟩ := isH_ex w h2
      have e : ∀ x : Int32, x3_faultOfSwap_j49 i j x (putH g p h) = some (if i = j then 3 else if x = 0 then 0 else 3, putH g p h) := by
        intro x
        unfold x3_faultOfSwap_j49 x3_faultOfSwap_j59
        by_cases h3 : i = j
        · rw [if_pos h3, if_pos h3]
        · rw [if_neg h3, if_neg h3]
          split <;> rfl
      have e1 : x3_faultOfSwap_j49 i j 1 (putH g p h) = some (3, putH g p h) := by
        rw [e]
        by_cases h3 : i = j
        · rw [if_pos h3]
        · rw [if_neg h3]; rfl
      have e0 : x3_faultOfSwap_j49 i j 0 (putH g p h) = some (if i = j then 3 else 0, putH g p h) := by
        rw [e]
        by_cases h3 : i = j
        · rw [if_pos h3, if_pos h3]
        · rw [if_neg h3, if_neg h3]; rfl
      have ha : aldR 4 (putH g p h) (p + 6) i = some (p + (7 + 2 * a)) := by rw [a3]; exact H_hik a2
      have hb : aldR 4 (putH g p h) (p + 6) j = some (p + (7 + 2 * b)) := by rw [b3]; exact H_hik b2
      rw [if_neg (by rw [bI_z, h2]; decide), if_pos h2, H_getR (d := 6) rfl (by decide) (by decide), gb_s, ha, gb_s, K_getI a2 (by decide), gb_s, R.2.2.1 a a1 5 (by decide), e1, e0, a4, b4, gb_s, hb, gb_s, K_getI b2 (by decide), gb_s, R.2.2.1 b b1 5 (by decide)]
      by_cases h4 : hk st a 5 = -1
      · rw [if_pos h4]
        by_cases h5 : hk st b 5 = -1
        · rw [if_pos h5, if_pos (show hk st a 5 = -1 ∧ hk st b 5 = -1 from ⟨h4, h5⟩), ite_self]
        · rw [if_neg h5, if_neg (show ¬ (hk st a 5 = -1 ∧ hk st b 5 = -1) from fun hc => h5 hc.2)]
      · rw [if_neg h4, if_neg (show ¬ (hk st a 5 = -1 ∧ hk st b 5 = -1) from fun hc => h4 hc.1)]
    · rw [if_pos ((bI_z _).mpr (by simpa using h2)), if_neg h2]
  · rw [if_pos ((bI_z _).mpr (by simpa using h1)), if_neg h1]
theorem c_faultOf (w : Ws st) (R : Rel st h) (c a b : Int32) : x3_faultOf p c a b (putH g p h) = some (ftOf st c a b, putH g p h) := by
  unfold x3_faultOf ftOf
  rw [H_isO, gb_s, c_faultOfTake w R, cb_s, gb_s, c_faultOfReturn w R, cb_s, gb_s, c_faultOfSwap w R, cb_s, gb_s, c_faultOfLie w R, cb_s, gb_s, c_faultOfRise w R, cb_s, s_isWithin, cb_s, gb_s, c_faultOfFetch R, cb_s, gb_s, c_faultOfPay w R, cb_s, gb_s, c_faultOfPass R, cb_s]
  by_cases c0 : c = 0
  · rw [if_pos c0, if_pos c0]
  rw [if_neg c0, if_neg c0]
  by_cases c1 : c = 1
  · rw [if_pos c1, if_pos c1]
  rw [if_neg c1, if_neg c1]
  by_cases c2 : c = 2
  · rw [if_pos c2, if_pos c2]
  rw [if_neg c2, if_neg c2]
  by_cases c3 : c = 3
  · rw [if_pos c3, if_pos c3]
  rw [if_neg c3, if_neg c3]
  by_cases c4 : c = 4
  · rw [if_pos c4, if_pos c4]
  rw [if_neg c4, if_neg c4]
  by_cases c5 : c = 5
  · rw [if_pos c5, if_pos c5]
    by_cases h1 : bt a 0 3 = true
    · rw [if_neg (by rw [bI_z, h1]; decide), if_pos h1]
    · rw [if_pos ((bI_z _).mpr (by simpa using h1)), if_neg h1]
  rw [if_neg c5, if_neg c5]
  by_cases c6 : c = 6
  · rw [if_pos c6, if_pos c6]
  rw [if_neg c6, if_neg c6]
  by_cases c7 : c = 7
  · rw [if_pos c7, if_pos c7]
  rw [if_neg c7, if_neg c7]
theorem Un_up5 (u : Un st) {i : Nat} {v : Int32} (hv : v = -1 ∨ ∀ k, k < nH st → hk st k 5 ≠ v) : Un (upd st (49 + 10 * i + 5) v) := by
  have hn : nH (upd st (49 + 10 * i + 5) v) = nH st := by unfold nH; rw [upd_ne (by omega)]
  have e4 : ∀ k, hk (upd st (49 + 10 * i + 5) v) k 4 = hk st k 4 := fun k => upd_ne (by omega)
  have e5 : ∀ k, k ≠ i → hk (upd st (49 + 10 * i + 5) v) k 5 = hk st k 5 := fun k hk0 => upd_ne (by omega)
  have ei : hk (upd st (49 + 10 * i + 5) v) i 5 = v := upd_at
  intro a b ha hb hab
  rw [hn] at ha hb
  rw [e4, e4]
  refine ⟨(u a b ha hb hab).1, fun h1 => ?_⟩
  by_cases hai : a = i
  · rw [hai, ei] at h1 ⊢
    rw [e5 b (by omega)]
    rcases hv with hv | hv
    · exact absurd hv h1
    · exact Ne.symm (hv b hb)
  · rw [e5 a hai] at h1 ⊢
    by_cases hbi : b = i
    · rw [hbi, ei]
      rcases hv with hv | hv
      · rw [hv]; exact h1
      · exact hv a ha
    · rw [e5 b hbi]
      exact (u a b ha hb hab).2 h1
theorem Un_up4 (u : Un st) {i : Nat} {v : Int32} (hv : v = -1 ∨ ∀ k, k < nH st → k ≠ i → hk st k 4 ≠ v) : Un (upd st (49 + 10 * i + 4) v) := by
  have hn : nH (upd st (49 + 10 * i + 4) v) = nH st := by unfold nH; rw [upd_ne (by omega)]
  have e5 : ∀ k, hk (upd st (49 + 10 * i + 4) v) k 5 = hk st k 5 := fun k => upd_ne (by omega)
  have e4 : ∀ k, k ≠ i → hk (upd st (49 + 10 * i + 4) v) k 4 = hk st k 4 := fun k hk0 => upd_ne (by omega)
  have ei : hk (upd st (49 + 10 * i + 4) v) i 4 = v := upd_at
  intro a b ha hb hab
  rw [hn] at ha hb
  rw [e5, e5]
  refine ⟨fun h1 => ?_, (u a b ha hb hab).2⟩
  by_cases hai : a = i
  · rw [hai, ei] at h1 ⊢
    rw [e4 b (by omega)]
    rcases hv with hv | hv
    · exact absurd hv h1
    · exact Ne.symm (hv b hb (by omega))
  · rw [e4 a hai] at h1 ⊢
    by_cases hbi : b = i
    · rw [hbi, ei]
      rcases hv with hv | hv
      · rw [hv]; exact h1
      · exact hv a ha hai
    · rw [e4 b hbi]
      exact (u a b ha hb hab).1 h1
theorem Un_ex (w : Ws st) (u : Un st) {i j : Nat} (hij : i ≠ j) (hi : i < nH st) (hj : j < nH st) : Un (exS st i j) := by
  unfold exS
  have hn : nH (upd (upd st (49 + 10 * i + 5) (hk st j 5)) (49 + 10 * j + 5) (hk st i 5)) = nH st := by unfold nH; rw [upd_ne (by omega), upd_ne (by omega)]
  have e4 : ∀ k, hk (upd (upd st (49 + 10 * i + 5) (hk st j 5)) (49 + 10 * j + 5) (hk st i 5)) k 4 = hk st k 4 := fun k => (upd_ne (by omega)).trans (upd_ne (by omega))
  have ej : hk (upd (upd st (49 + 10 * i + 5) (hk st j 5)) (49 + 10 * j + 5) (hk st i 5)) j 5 = hk st i 5 := upd_at
  have ei : hk (upd (upd st (49 + 10 * i + 5) (hk st j 5)) (49 + 10 * j + 5) (hk st i 5)) i 5 = hk st j 5 := (upd_ne (by omega)).trans upd_at
  have e5 : ∀ k, k ≠ i → k ≠ j → hk (upd (upd st (49 + 10 * i + 5) (hk st j 5)) (49 + 10 * j + 5) (hk st i 5)) k 5 = hk st k 5 := fun k h1 h2 => (upd_ne (by omega)).trans (upd_ne (by omega))
  have hu := fun a b ha hb hab => (u a b ha hb hab).2
  intro a b ha hb hab
  rw [hn] at ha hb
  rw [e4, e4]
  refine ⟨(u a b ha hb hab).1, ?_⟩
  by_cases hai : a = i
  · rw [hai, ei]
    by_cases hbj : b = j
    · rw [hbj, ej]; exact hu j i hj hi (Ne.symm hij)
    · rw [e5 b (by omega) hbj]; exact hu j b hj hb (Ne.symm hbj)
  · by_cases haj : a = j
    · rw [haj, ej]
      by_cases hbi : b = i
      · rw [hbi, ei]; exact hu i j hi hj hij
      · rw [e5 b hbi (by omega)]; exact hu i b hi hb (Ne.symm hbi)
    · rw [e5 a hai haj]
      by_cases hbi : b = i
      · rw [hbi, ei]; exact hu a j ha hj haj
      · by_cases hbj : b = j
        · rw [hbj, ej]; exact hu a i ha hi hai
        · rw [e5 b hbi hbj]; exact hu a b ha hb hab
theorem isL_ex (w : Ws st) {v : Int32} (hv : isL st v = true) : ∃ i, i < nL st ∧ i < 12 ∧ v = I i ∧ kN v = i := by
  rw [isL_has w, w.l.1] at hv
  have hh := w.l.2
  obtain ⟨k, h1, h2, h3⟩ := has_ex (by omega) hv
  exact ⟨k, h1, by omega, h2, h3⟩
theorem isB_ex (w : Ws st) {v : Int32} (hv : isB st v = true) : ∃ i, i < nB st ∧ i < 12 ∧ v = I i ∧ kN v = i := by
  rw [isB_has w, w.b.1] at hv
  have hh := w.b.2
  obtain ⟨k, h1, h2, h3⟩ := has_ex (by omega) hv
  exact ⟨k, h1, by omega, h2, h3⟩
theorem hw_no {f : Nat} {x : Int32} (hn : nH st ≤ 10) (h2 : hw st f x = -1) : ∀ k, k < nH st → hk st k f ≠ x := by
  intro k hk0 hc
  unfold hw at h2
  cases hf : ff (hwp st f x) (nH st) with
  | none =>
    have := ff_none hf k hk0
    simp [hwp] at this
    exact this hc
  | some j =>
    rw [hf] at h2
    obtain ⟨h3, h4, -⟩ := ff_some hf
    exact I_ne_neg (by omega) h2
end Act


