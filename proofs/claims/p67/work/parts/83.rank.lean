/-! searches: hikers by rank, the coldest; sums -/
def rkB (st : St) (a b : Nat) : Bool := if hk st a 8 = hk st b 8 then decide (hk st a 6 < hk st b 6) else decide (hk st b 8 < hk st a 8)
def rhP (st : St) (h i : Nat) : Bool := (decide (i < h) && !rkB st h i) || rkB st i h
def rhS (st : St) (h : Nat) : Int32 := sm (fun i => if rhP st h i = true then 1 else 0) (nH st)
def rhQ (st : St) (x : Int32) (i : Nat) : Bool := decide (rhS st i = x)
def msS (st : St) (i : Nat) : Int32 := hk st i 0 - wN st i
def csS (st : St) : Nat → Nat
  | 0 => 0
  | n + 1 => if msS st (n + 1) ≤ msS st (csS st n) then csS st n else n + 1
theorem csS_le {st : St} : ∀ n, csS st n ≤ n := by
  intro n
  induction n with
  | zero => exact Nat.le_refl _
  | succ n ih =>
    rw [csS]
    split <;> omega
section Rank
variable {g : AH} {p m : Nat} {h : HS} {st : St} {r : RS}
theorem c_ranksBefore (R : Rel st h) {a b : Nat} (ha : a < nH st) (hb : b < nH st) (ha0 : a < 10) (hb0 : b < 10) : x1_ranksBefore (p + (7 + 2 * a)) (p + (7 + 2 * b)) (putH g p h) = some (bI (rkB st a b), putH g p h) := by
  unfold x1_ranksBefore rkB
  have e2 : ∀ i, i < nH st → h.2.2.2 i 2 = hk st i 8 := fun i hi => R.2.2.2.1 i hi 2 (by decide)
  have e0 : ∀ i, i < nH st → h.2.2.2 i 0 = hk st i 6 := fun i hi => R.2.2.2.1 i hi 0 (by decide)
  repeat first | rw [gb_s] | rw [K_getR ha0] | rw [K_getR hb0] | rw [K_ald ha0 (show (2 : Int32) = I 2 from rfl) (by decide)] | rw [K_ald hb0 (show (2 : Int32) = I 2 from rfl) (by decide)] | rw [K_ald ha0 (show (0 : Int32) = I 0 from rfl) (by decide)] | rw [K_ald hb0 (show (0 : Int32) = I 0 from rfl) (by decide)]
  rw [e2 a ha, e2 b hb, e0 a ha, e0 b hb]
  by_cases h1 : hk st a 8 = hk st b 8
  · rw [if_pos h1, if_pos h1]
    by_cases h2 : hk st b 6 ≤ hk st a 6
    · rw [if_pos h2]; simp [Int32.not_lt.mpr h2, bI]
    · rw [if_neg h2]; simp [Int32.not_le.mp h2, bI]
  · rw [if_neg h1, if_neg h1]
    by_cases h2 : hk st a 8 ≤ hk st b 8
    · rw [if_pos h2]; simp [Int32.not_lt.mpr h2, bI]
    · rw [if_neg h2]; simp [Int32.not_le.mp h2, bI]
theorem c_rankOfHiker (w : Ws st) (R : Rel st h) {b : Nat} (hb : b < nH st) : x3_rankOfHiker p (I b) (putH g p h) = some (rhS st b, putH g p h) := by
  have hh := w.h.2
  have hb0 : b < 10 := by omega
  unfold x3_rankOfHiker rhS
  have hs : ∀ i, i < nH st → ∀ a, x3_rankOfHiker_l4 p (I b) (a, I i) (putH g p h) = some (.inl (a + (if rhP st b i = true then 1 else 0), I (i + 1)), putH g p h) := by
    intro i hi a
    have hi0 : i < 10 := by omega
    have e40 : ∀ x : Bool, x3_rankOfHiker_j40_4 p (I b) a (I i) (bI x) (putH g p h) = some (.inl (a + (if (x || rkB st i b) = true then 1 else 0), I (i + 1)), putH g p h) := by
      intro x
      unfold x3_rankOfHiker_j40_4 x3_rankOfHiker_j65_4 x3_rankOfHiker_j68_4
      rw [H_getR (d := 6) rfl (by decide) (by decide), gb_s, H_hik hi0, gb_s, gb_s, H_hik hb0, gb_s, K_isO hi0, gb_s, c_ranksBefore R hi hb hi0 hb0, cb_s]
      cases x with
      | true =>
        rw [if_neg (by decide), I_succ]
        rfl
      | false =>
        rw [if_pos (show bI false = 0 from rfl)]
        by_cases h1 : rkB st i b = true
        · rw [if_neg (by rw [bI_z, h1]; decide), I_succ]; simp [h1]
        · rw [if_pos ((bI_z _).mpr (by simpa using h1)), I_succ]; simp [h1, Int32.add_zero]
    unfold x3_rankOfHiker_l4 x3_rankOfHiker_j39_4
    dsimp only
    rw [H_getI (by decide), gb_s, c_lt w R hi]
    have e0 : x3_rankOfHiker_j40_4 p (I b) a (I i) 0 (putH g p h) = some (.inl (a + (if (false || rkB st i b) = true then 1 else 0), I (i + 1)), putH g p h) := e40 false
    have e1 : x3_rankOfHiker_j40_4 p (I b) a (I i) 1 (putH g p h) = some (.inl (a + (if (true || rkB st i b) = true then 1 else 0), I (i + 1)), putH g p h) := e40 true
    have hp : rhP st b i = ((decide (i < b) && !rkB st b i) || rkB st i b) := rfl
    rw [e0, hp]
    by_cases h1 : I b ≤ I i
    · have h2 : ¬ i < b := by rw [I_le (by omega) (by omega)] at h1; omega
      rw [if_pos h1]; simp [h2]
    · have h2 : i < b := by rw [I_le (by omega) (by omega)] at h1; omega
      rw [if_neg h1, H_getR (d := 6) rfl (by decide) (by decide), gb_s, H_hik hb0, gb_s, gb_s, H_hik hi0, gb_s, K_isO hb0, gb_s, c_ranksBefore R hb hi hb0 hi0, cb_s, e1, e0]
      by_cases h3 : rkB st b i = true
      · rw [if_neg (by rw [bI_z, h3]; decide)]; simp [h3]
      · rw [if_pos ((bI_z _).mpr (by simpa using h3))]; simp [h2, h3]
  have he : ∀ a, x3_rankOfHiker_l4 p (I b) (a, I (nH st)) (putH g p h) = some (.inr a, putH g p h) := by
    intro a
    unfold x3_rankOfHiker_l4
    dsimp only
    rw [H_getI (by decide), gb_s, c_ge w R]
  rw [loop_sum (fun o => if rhP st b o = true then 1 else 0) hs he (by omega), cb_s]
theorem c_hikerOfRank (w : Ws st) (R : Rel st h) (x : Int32) : x3_hikerOfRank p x (putH g p h) = some (oI (ff (rhQ st x) (nH st)), putH g p h) := by
  have hh := w.h.2
  unfold x3_hikerOfRank
  have hs : ∀ i, i < nH st → rhQ st x i = false → x3_hikerOfRank_l2 p x (I i) (putH g p h) = some (.inl (I (i + 1)), putH g p h) := by
    intro i hi hp
    unfold x3_hikerOfRank_l2
    rw [H_getI (by decide), gb_s, c_lt w R hi, H_isO, gb_s, c_rankOfHiker w R hi, cb_s, if_neg (of_decide_eq_false hp), I_succ]
  have hy : ∀ i, i < nH st → rhQ st x i = true → x3_hikerOfRank_l2 p x (I i) (putH g p h) = some (.inr (.inr (I i)), putH g p h) := by
    intro i hi hp
    unfold x3_hikerOfRank_l2
    rw [H_getI (by decide), gb_s, c_lt w R hi, H_isO, gb_s, c_rankOfHiker w R hi, cb_s, if_pos (of_decide_eq_true hp)]
  have he : x3_hikerOfRank_l2 p x (I (nH st)) (putH g p h) = some (.inr (.inl ()), putH g p h) := by
    unfold x3_hikerOfRank_l2
    rw [H_getI (by decide), gb_s, c_ge w R]
  rw [loop_find (rhQ st x) (fun k => .inr (I k)) hs hy he (by omega), cb_s]
  cases ff (rhQ st x) (nH st) <;> rfl
def ahB (st : St) (a b : Nat) : Bool := if hk st a 8 = hk st b 8 then (if hk st b 6 = hk st a 6 then decide (a < b) else decide (hk st a 6 < hk st b 6)) else decide (hk st b 8 < hk st a 8)
theorem rh_eq (st : St) {a b : Nat} (hab : a ≠ b) : rhP st b a = ahB st a b := by
  unfold rhP ahB rkB
  by_cases h1 : hk st a 8 = hk st b 8
  · rw [if_pos h1, if_pos h1.symm, if_pos h1]
    by_cases h2 : hk st b 6 = hk st a 6
    · rw [if_pos h2, h2]
      simp
    · rw [if_neg h2]
      rcases Int32.lt_or_le (hk st a 6) (hk st b 6) with h3 | h3
      · simp [h3]
      · have h4 : hk st b 6 < hk st a 6 := Int32.lt_of_le_of_ne h3 h2
        simp [h4, Int32.not_lt.mpr h3]
  · rw [if_neg h1, if_neg (Ne.symm h1), if_neg h1]
    rcases Int32.lt_or_le (hk st b 8) (hk st a 8) with h3 | h3
    · simp [h3]
    · have h4 : hk st a 8 < hk st b 8 := Int32.lt_of_le_of_ne h3 h1
      simp [h4, Int32.not_lt.mpr h3]
theorem rh_self (st : St) (b : Nat) : rhP st b b = false := by
  unfold rhP rkB
  simp
def sumW (st : St) : Int32 := sm (fun i => wN st i) (nH st)
theorem c_sumOfWarmths (w : Ws st) (R : Rel st h) (M : Meas st h) : x3_sumOfWarmths p (putH g p h) = some (sumW st, putH g p h) := by
  have hh := w.h.2
  unfold x3_sumOfWarmths sumW
  have hs : ∀ i, i < nH st → ∀ a, x3_sumOfWarmths_l4 p (a, I i) (putH g p h) = some (.inl (a + wN st i, I (i + 1)), putH g p h) := by
    intro i hi a
    unfold x3_sumOfWarmths_l4
    dsimp only
    rw [H_getI (by decide), gb_s, c_lt w R hi, H_getR (d := 6) rfl (by decide) (by decide), gb_s, H_hik (by omega), gb_s, K_getI (by omega) (by decide), gb_s, (M.1 i hi).2, I_succ]
  have he : ∀ a, x3_sumOfWarmths_l4 p (a, I (nH st)) (putH g p h) = some (.inr a, putH g p h) := by
    intro a
    unfold x3_sumOfWarmths_l4
    dsimp only
    rw [H_getI (by decide), gb_s, c_ge w R]
  rw [loop_sum (fun i => wN st i) hs he (by omega), cb_s]
theorem c_sumOfHours (w : Ws st) (R : Rel st h) {d : Nat} (hd : d < 4) {x : Int32} (hx : x = I d) : x3_sumOfHours p x (putH g p h) = some (sumF st (6 + d), putH g p h) := by
  have hh := w.h.2
  unfold x3_sumOfHours sumF
  have hs : ∀ i, i < nH st → ∀ a, x3_sumOfHours_l4 p x (a, I i) (putH g p h) = some (.inl (a + hk st i (6 + d), I (i + 1)), putH g p h) := by
    intro i hi a
    unfold x3_sumOfHours_l4
    dsimp only
    rw [H_getI (by decide), gb_s, c_lt w R hi, H_getR (d := 6) rfl (by decide) (by decide), gb_s, H_hik (by omega), gb_s, K_getR (by omega), gb_s, K_ald (by omega) hx hd, gb_s, R.2.2.2.1 i hi d hd, I_succ]
  have he : ∀ a, x3_sumOfHours_l4 p x (a, I (nH st)) (putH g p h) = some (.inr a, putH g p h) := by
    intro a
    unfold x3_sumOfHours_l4
    dsimp only
    rw [H_getI (by decide), gb_s, c_ge w R]
  rw [loop_sum (fun i => hk st i (6 + d)) hs he (by omega), cb_s]
end Rank


