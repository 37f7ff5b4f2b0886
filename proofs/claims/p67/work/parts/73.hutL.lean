/-! what the class refuses, the rest -/
section HutL
variable {g : AH} {p : Nat} {h : HS} {st : St}
theorem s_isWithin (a b c : Int32) (g : AH) : x8_isWithin a b c g = some (bI (bt a b c), g) := by
  unfold x8_isWithin bt
  by_cases h1 : a < b
  · rw [if_pos h1]; simp [h1, bI]
  · rw [if_neg h1]
    by_cases h2 : c < a
    · rw [if_pos h2]; simp [h1, h2, bI]
    · rw [if_neg h2]; simp [h1, h2, bI]
def ftFetch (st : St) (v : Int32) : Int32 := if bt v 1 50 = true then if st 0 + v ≤ 99 then 0 else 3 else 2
def ftPass (st : St) (v : Int32) : Int32 := if bt v 1 48 = true then if st 3 + v ≤ 9999 then 0 else 3 else 2
def ftPay (st : St) (i v : Int32) : Int32 := if isH st i = true then if bt v 1 99 = true then if hk st (kN i) 2 < v then 3 else if v ≤ hk st (kN i) 3 then 0 else 3 else 2 else 1
theorem c_faultOfFetch (R : Rel st h) (v : Int32) : x3_faultOfFetch p v (putH g p h) = some (ftFetch st v, putH g p h) := by
  unfold x3_faultOfFetch ftFetch
  rw [s_isWithin, cb_s]
  by_cases h1 : bt v 1 50 = true
  · rw [if_neg (by rw [bI_z, h1]; decide), if_pos h1, H_getI (by decide), gb_s, show h.1 1 = st 0 from Rel_at R 1 (by decide)]
    split <;> rfl
  · rw [if_pos ((bI_z _).mpr (by simpa using h1)), if_neg h1]
theorem c_faultOfPass (R : Rel st h) (v : Int32) : x3_faultOfPass p v (putH g p h) = some (ftPass st v, putH g p h) := by
  unfold x3_faultOfPass ftPass
  rw [s_isWithin, cb_s]
  by_cases h1 : bt v 1 48 = true
  · rw [if_neg (by rw [bI_z, h1]; decide), if_pos h1, H_getI (by decide), gb_s, show h.1 0 = st 3 from Rel_at R 0 (by decide)]
    split <;> rfl
  · rw [if_pos ((bI_z _).mpr (by simpa using h1)), if_neg h1]
theorem c_faultOfPay (w : Ws st) (R : Rel st h) (i v : Int32) : x3_faultOfPay p i v (putH g p h) = some (ftPay st i v, putH g p h) := by
  unfold x3_faultOfPay ftPay x3_faultOfPay_j48 x3_faultOfPay_j53
  rw [H_isO, gb_s, c_hasHiker R, cb_s, ← isH_has w]
  by_cases h1 : isH st i = true
  · obtain ⟨k, k1, k2, k3, k4⟩ := isH_ex w h1
    rw [if_neg (by rw [bI_z, h1]; decide), if_pos h1, s_isWithin, cb_s]
    by_cases h2 : bt v 1 99 = true
    · rw [if_neg (by rw [bI_z, h2]; decide), if_pos h2, H_getR (d := 6) rfl (by decide) (by decide), gb_s, k4, k3, H_hik k2, gb_s, K_getI k2 (by decide), gb_s, R.2.2.1 k k1 2 (by decide)]
      by_cases h3 : hk st k 2 < v
      · rw [if_pos h3, if_pos h3, if_neg (by decide)]
      · rw [if_neg h3, if_neg h3, gb_s, H_hik k2, gb_s, K_getI k2 (by decide), gb_s, R.2.2.1 k k1 3 (by decide)]
        by_cases h5 : v ≤ hk st k 3
        · rw [if_pos h5, if_pos h5, if_pos rfl]
        · rw [if_neg h5, if_neg h5, if_neg (by decide)]
    · rw [if_pos ((bI_z _).mpr (by simpa using h2)), if_neg h2]
  · rw [if_pos ((bI_z _).mpr (by simpa using h1)), if_neg h1]
end HutL


