/-! what the class refuses -/
section HutJ
variable {g : AH} {p : Nat} {h : HS} {st : St}
def ftTake (st : St) (i b : Int32) : Int32 := if isH st i = true then if isL st b = true then if hw st 5 b = -1 then 0 else 3 else 1 else 1
def ftReturn (st : St) (i : Int32) : Int32 := if isH st i = true then if hk st (kN i) 5 = -1 then 3 else 0 else 1
def ftLie (st : St) (i b : Int32) : Int32 := if isH st i = true then if isB st b = true then if inB st b = -1 then 0 else 3 else 1 else 1
def ftRise (st : St) (i : Int32) : Int32 := if isH st i = true then if hk st (kN i) 4 = -1 then 3 else 0 else 1
theorem isH_ex (w : Ws st) {v : Int32} (hv : isH st v = true) : ∃ i, i < nH st ∧ i < 10 ∧ v = I i ∧ kN v = i := by
  rw [isH_has w, w.h.1] at hv
  have hh := w.h.2
  obtain ⟨k, h1, h2, h3⟩ := has_ex (by omega) hv
  exact ⟨k, h1, by omega, h2, h3⟩
theorem c_faultOfTake (w : Ws st) (R : Rel st h) (i b : Int32) : x3_faultOfTake p i b (putH g p h) = some (ftTake st i b, putH g p h) := by
  unfold x3_faultOfTake ftTake
  rw [H_isO, gb_s, c_hasHiker R, cb_s, ← isH_has w]
  by_cases h1 : isH st i = true
  · rw [if_neg (by rw [bI_z, h1]; decide), if_pos h1, H_isO, gb_s, c_hasBlanket R, cb_s, ← isL_has w]
    by_cases h2 : isL st b = true
    · rw [if_neg (by rw [bI_z, h2]; decide), if_pos h2, H_isO, gb_s, c_userOfBlanket w R, cb_s]
      split <;> rfl
    · rw [if_pos ((bI_z _).mpr (by simpa using h2)), if_neg h2]
  · rw [if_pos ((bI_z _).mpr (by simpa using h1)), if_neg h1]
theorem c_faultOfReturn (w : Ws st) (R : Rel st h) (i : Int32) : x3_faultOfReturn p i (putH g p h) = some (ftReturn st i, putH g p h) := by
  unfold x3_faultOfReturn ftReturn
  rw [H_isO, gb_s, c_hasHiker R, cb_s, ← isH_has w]
  by_cases h1 : isH st i = true
  · obtain ⟨k, k1, k2, k3, k4⟩ := isH_ex w h1
    rw [if_neg (by rw [bI_z, h1]; decide), if_pos h1, H_getR (d := 6) rfl (by decide) (by decide), gb_s, k4, k3, H_hik k2, gb_s, K_getI k2 (by decide), gb_s, R.2.2.1 k k1 5 (by decide)]
    split <;> rfl
  · rw [if_pos ((bI_z _).mpr (by simpa using h1)), if_neg h1]
theorem c_faultOfLie (w : Ws st) (R : Rel st h) (i b : Int32) : x3_faultOfLie p i b (putH g p h) = some (ftLie st i b, putH g p h) := by
  unfold x3_faultOfLie ftLie
  rw [H_isO, gb_s, c_hasHiker R, cb_s, ← isH_has w]
  by_cases h1 : isH st i = true
  · rw [if_neg (by rw [bI_z, h1]; decide), if_pos h1, H_isO, gb_s, c_hasBunk R, cb_s, ← isB_has w]
    by_cases h2 : isB st b = true
    · rw [if_neg (by rw [bI_z, h2]; decide), if_pos h2, H_isO, gb_s, c_sleeperIn w R, cb_s]
      split <;> rfl
    · rw [if_pos ((bI_z _).mpr (by simpa using h2)), if_neg h2]
  · rw [if_pos ((bI_z _).mpr (by simpa using h1)), if_neg h1]
theorem c_faultOfRise (w : Ws st) (R : Rel st h) (i : Int32) : x3_faultOfRise p i (putH g p h) = some (ftRise st i, putH g p h) := by
  unfold x3_faultOfRise ftRise
  rw [H_isO, gb_s, c_hasHiker R, cb_s, ← isH_has w]
  by_cases h1 : isH st i = true
  · obtain ⟨k, k1, k2, k3, k4⟩ := isH_ex w h1
    rw [if_neg (by rw [bI_z, h1]; decide), if_pos h1, H_getR (d := 6) rfl (by decide) (by decide), gb_s, k4, k3, H_hik k2, gb_s, K_getI k2 (by decide), gb_s, R.2.2.1 k k1 4 (by decide)]
    split <;> rfl
  · rw [if_pos ((bI_z _).mpr (by simpa using h1)), if_neg h1]
end HutJ


