/-! the class's counts and sums -/
section HutH
variable {g : AH} {p : Nat} {h : HS} {st : St}
theorem c_countOf (w : Ws st) (R : Rel st h) (M : Meas st h) (d : Int32) : x3_countOf p d (putH g p h) = some (cntD st d, putH g p h) := by
  have hh := w.h.2
  unfold x3_countOf cntD
  have hs : ∀ i, i < nH st → ∀ a, x3_countOf_l4 p d (a, I i) (putH g p h) = some (.inl (a + (if deed st i = d then 1 else 0), I (i + 1)), putH g p h) := by
    intro i hi a
    unfold x3_countOf_l4 x3_countOf_j24_4
    dsimp only
    rw [H_getI (by decide), gb_s, c_lt w R hi, H_isO, gb_s, c_activityNow w R M hi, cb_s]
    by_cases hc : deed st i = d
    · rw [if_pos hc, if_pos hc, I_succ]
    · rw [if_neg hc, if_neg hc, I_succ, Int32.add_zero]
  have he : ∀ a, x3_countOf_l4 p d (a, I (nH st)) (putH g p h) = some (.inr a, putH g p h) := by
    intro a
    unfold x3_countOf_l4
    dsimp only
    rw [H_getI (by decide), gb_s, c_ge w R]
  rw [loop_sum (fun i => if deed st i = d then 1 else 0) hs he (by omega), cb_s]
theorem c_coldCount (w : Ws st) (R : Rel st h) (M : Meas st h) : x3_coldCount p (putH g p h) = some (cntD st 0, putH g p h) := by
  unfold x3_coldCount
  rw [H_isO, gb_s, c_countOf w R M, cb_s]
theorem c_sumOfCoins (w : Ws st) (R : Rel st h) : x3_sumOfCoins p (putH g p h) = some (sumF st 2, putH g p h) := by
  have hh := w.h.2
  unfold x3_sumOfCoins sumF
  have hs : ∀ i, i < nH st → ∀ a, x3_sumOfCoins_l4 p (a, I i) (putH g p h) = some (.inl (a + hk st i 2, I (i + 1)), putH g p h) := by
    intro i hi a
    unfold x3_sumOfCoins_l4
    dsimp only
    rw [H_getI (by decide), gb_s, c_lt w R hi, H_getR (d := 6) rfl (by decide) (by decide), gb_s, H_hik (by omega), gb_s, K_getI (by omega) (by decide), gb_s, R.2.2.1 i hi 2 (by decide), I_succ]
  have he : ∀ a, x3_sumOfCoins_l4 p (a, I (nH st)) (putH g p h) = some (.inr a, putH g p h) := by
    intro a
    unfold x3_sumOfCoins_l4
    dsimp only
    rw [H_getI (by decide), gb_s, c_ge w R]
  rw [loop_sum (fun i => hk st i 2) hs he (by omega), cb_s]
theorem c_sumOfDebts (w : Ws st) (R : Rel st h) : x3_sumOfDebts p (putH g p h) = some (sumF st 3, putH g p h) := by
  have hh := w.h.2
  unfold x3_sumOfDebts sumF
  have hs : ∀ i, i < nH st → ∀ a, x3_sumOfDebts_l4 p (a, I i) (putH g p h) = some (.inl (a + hk st i 3, I (i + 1)), putH g p h) := by
    intro i hi a
    unfold x3_sumOfDebts_l4
    dsimp only
    rw [H_getI (by decide), gb_s, c_lt w R hi, H_getR (d := 6) rfl (by decide) (by decide), gb_s, H_hik (by omega), gb_s, K_getI (by omega) (by decide), gb_s, R.2.2.1 i hi 3 (by decide), I_succ]
  have he : ∀ a, x3_sumOfDebts_l4 p (a, I (nH st)) (putH g p h) = some (.inr a, putH g p h) := by
    intro a
    unfold x3_sumOfDebts_l4
    dsimp only
    rw [H_getI (by decide), gb_s, c_ge w R]
  rw [loop_sum (fun i => hk st i 3) hs he (by omega), cb_s]
theorem c_userOfBlanket (w : Ws st) (R : Rel st h) (b : Int32) : x3_userOfBlanket p b (putH g p h) = some (hw st 5 b, putH g p h) := by
  have hh := w.h.2
  unfold x3_userOfBlanket
  have hs : ∀ i, i < nH st → hwp st 5 b i = false → x3_userOfBlanket_l2 p b (I i) (putH g p h) = some (.inl (I (i + 1)), putH g p h) := by
    intro i hi hp
    unfold x3_userOfBlanket_l2
    rw [H_getI (by decide), gb_s, c_lt w R hi, H_getR (d := 6) rfl (by decide) (by decide), gb_s, H_hik (by omega), gb_s, K_getI (by omega) (by decide), gb_s, R.2.2.1 i hi 5 (by decide), if_neg (show ¬ hk st i 5 = b from of_decide_eq_false hp), I_succ]
  have hy : ∀ i, i < nH st → hwp st 5 b i = true → x3_userOfBlanket_l2 p b (I i) (putH g p h) = some (.inr (.inr (I i)), putH g p h) := by
    intro i hi hp
    unfold x3_userOfBlanket_l2
    rw [H_getI (by decide), gb_s, c_lt w R hi, H_getR (d := 6) rfl (by decide) (by decide), gb_s, H_hik (by omega), gb_s, K_getI (by omega) (by decide), gb_s, R.2.2.1 i hi 5 (by decide), if_pos (show hk st i 5 = b from of_decide_eq_true hp)]
  have he : x3_userOfBlanket_l2 p b (I (nH st)) (putH g p h) = some (.inr (.inl ()), putH g p h) := by
    unfold x3_userOfBlanket_l2
    rw [H_getI (by decide), gb_s, c_ge w R]
  rw [loop_find (hwp st 5 b) (fun k => .inr (I k)) hs hy he (by omega), cb_s]
  unfold hw
  cases ff (hwp st 5 b) (nH st) <;> rfl
end HutH


