/-! the class's parser: words, numbers, semicolons, rows -/
abbrev pK (cnt : Int32) (T : Nat → Int32) (L s : Nat) : PS := pC (giC 0 (-1) cnt) T L s
abbrev pE (c cnt : Int32) (T : Nat → Int32) (L s : Nat) : PS := pC (giC c (I s) cnt) T L s
def nuE (T : Nat → Int32) (L lo hi s : Nat) : Nat := if tk T L s = 2 then (if lo ≤ nv T L s ∧ nv T L s ≤ hi then 0 else 2) else 1
theorem tk_le (T : Nat → Int32) (L s : Nat) : tk T L s ≤ 5 := by
  unfold tk
  split
  · exact (kd_le _).2
  · omega
theorem tk_lt {T : Nat → Int32} {L s k : Nat} (h : tk T L s = k) (hk0 : k ≠ 0) : s < L ∧ kd (T s) = k := by
  unfold tk at h
  by_cases hl : s < L
  · rw [if_pos hl] at h; exact ⟨hl, h⟩
  · rw [if_neg hl] at h; exact absurd h.symm hk0
theorem bt_nat {a lo hi : Nat} (ha : a < 2 ^ 31) (h1 : lo < 2 ^ 31) (h2 : hi < 2 ^ 31) : bt (I a) (I lo) (I hi) = (decide (lo ≤ a) && decide (a ≤ hi)) := by
  unfold bt
  have e1 : I a < I lo ↔ ¬ lo ≤ a := by rw [I_lt ha h1]; omega
  have e2 : I hi < I a ↔ ¬ a ≤ hi := by rw [I_lt h2 ha]; omega
  by_cases a1 : lo ≤ a <;> by_cases b1 : a ≤ hi <;> simp [e1, e2, a1, b1]
theorem nvR_le (T : Nat → Int32) (s : Nat) (h : dg (T s) ≤ 9) : ∀ k, nvR T s k ≤ 100000 := by
  intro k
  cases k with
  | zero => rw [nvR]; omega
  | succ k => rw [nvR]; omega
section CPar
variable {g : AH} {p L s : Nat} {T gi : Nat → Int32}
theorem c_isWord (hL : L ≤ 500) (hs : s ≤ L) {k : Nat} (hk0 : k < 11) : x7_isWord (p + 1) k (putP g p (pC gi T L s)) = some (bI (wdB T L k s), putP g p (pC gi T L s)) := by
  have hwl := wl_le hk0
  have ht := te_le (T := T) hs
  have ht5 := tk_le T L s
  unfold x7_isWord wdB
  rw [P_tI (by decide), gb_s]
  show (if I (tk T L s) = 1 then _ else _) = _
  by_cases h1 : tk T L s = 1
  · obtain ⟨hl, -⟩ := tk_lt h1 (by decide)
    rw [if_pos (by rw [h1]; rfl), P_tI (by decide), gb_s, P_tI (by decide), gb_s, str_len hk0, gb_s]
    show (if I (te T L s) - I s = I (wl k) then _ else _) = _
    rw [I_sub ht.1]
    by_cases h2 : te T L s - s = wl k
    · have hs1 : ∀ j, j < wl k → (!decide (T (s + j) = wc k j)) = false → x7_isWord_l28 (p + 1) k (I j) (putP g p (pC gi T L s)) = some (.inl (I (j + 1)), putP g p (pC gi T L s)) := by
        intro j hj hp
        unfold x7_isWord_l28
        rw [str_len hk0, gb_s, if_neg (by rw [I_le (by omega) (by omega)]; omega), P_getR7, gb_s, P_tI (by decide), gb_s]
        show gb (aldI 0 _ (p + 2) (I s + I j)) _ = _
        rw [I_add, P_ald rfl (by omega), gb_s, str_at hk0 hj, gb_s]
        show (if T (s + j) = wc k j then _ else _) = _
        rw [if_pos (by simpa using hp), I_succ]
      have hs2 : ∀ j, j < wl k → (!decide (T (s + j) = wc k j)) = true → x7_isWord_l28 (p + 1) k (I j) (putP g p (pC gi T L s)) = some (.inr (.inr 0), putP g p (pC gi T L s)) := by
        intro j hj hp
        unfold x7_isWord_l28
        rw [str_len hk0, gb_s, if_neg (by rw [I_le (by omega) (by omega)]; omega), P_getR7, gb_s, P_tI (by decide), gb_s]
        show gb (aldI 0 _ (p + 2) (I s + I j)) _ = _
        rw [I_add, P_ald rfl (by omega), gb_s, str_at hk0 hj, gb_s]
        show (if T (s + j) = wc k j then _ else _) = _
        rw [if_neg (by simpa using hp)]
      have hs3 : x7_isWord_l28 (p + 1) k (I (wl k)) (putP g p (pC gi T L s)) = some (.inr (.inl ()), putP g p (pC gi T L s)) := by
        unfold x7_isWord_l28
        rw [str_len hk0, gb_s, if_pos (by rw [I_le (by omega) (by omega)]; omega)]
      rw [if_pos (by rw [h2]), loop_find (fun j => !decide (T (s + j) = wc k j)) (fun _ => .inr 0) hs1 hs2 hs3 (by omega), cb_s]
      cases ff (fun j => !decide (T (s + j) = wc k j)) (wl k) <;> simp [h1, h2, bI]
    · rw [if_neg (fun hc => h2 ((I_eq (by omega) (by omega)).mp hc))]
      simp [h2, bI]
  · rw [if_neg (show ¬ I (tk T L s) = 1 from fun hc => h1 ((I_eq (b := 1) (by omega) (by decide)).mp hc))]
    simp [h1, bI]
theorem c_fail {a b cnt c : Int32} : x0_fail p c (putP g p (pC (giC a b cnt) T L s)) = some (0, putP g p (pE c cnt T L s)) := by
  unfold x0_fail
  rw [P_putG (by decide), gb_s, P_getR0, gb_s, P_tI (by decide), gb_s, P_putG (by decide), gb_s]
  show some ((0 : Int32), putP g p (upd (upd (giC a b cnt) 1 c) 2 (I s), (pE c cnt T L s).2)) = _
  rw [gi1, gi2]
theorem c_readWord {cnt : Int32} (hL : L ≤ 500) (hs : s ≤ L) {k : Nat} (hk0 : k < 11) : x0_readWord p k (putP g p (pK cnt T L s)) = if wdB T L k s = true then some (1, putP g p (pK cnt T L (nx T L s))) else some (0, putP g p (pE 1 cnt T L s)) := by
  unfold x0_readWord
  rw [P_getR0, gb_s, P_isO7, gb_s, c_isWord hL hs hk0, cb_s]
  by_cases h1 : wdB T L k s = true
  · rw [if_neg (by rw [bI_z, h1]; decide), if_pos h1, P_getR0, gb_s, P_isO7, gb_s, c_next hL hs, cb_s]
  · rw [if_pos ((bI_z _).mpr (by simpa using h1)), if_neg h1, P_isO0, gb_s, c_fail, cb_s, if_pos (Or.inl rfl)]
theorem c_semi {cnt : Int32} (hL : L ≤ 500) (hs : s ≤ L) : x0_readSemicolon p (putP g p (pK cnt T L s)) = if tk T L s = 3 then some (1, putP g p (pK cnt T L (nx T L s))) else some (0, putP g p (pE 1 cnt T L s)) := by
  have ht5 := tk_le T L s
  unfold x0_readSemicolon
  rw [P_getR0, gb_s, P_tI (by decide), gb_s]
  show (if I (tk T L s) = 3 then _ else _) = _
  by_cases h1 : tk T L s = 3
  · rw [if_pos (by rw [h1]; rfl), if_pos h1, gb_s, P_isO7, gb_s, c_next hL hs, cb_s]
  · rw [if_neg (show ¬ I (tk T L s) = 3 from fun hc => h1 ((I_eq (b := 3) (by omega) (by decide)).mp hc)), if_neg h1, P_isO0, gb_s, c_fail, cb_s, if_pos (Or.inl rfl)]
theorem c_value (hL : L ≤ 500) (h2 : tk T L s = 2) : x7_value (p + 1) (putP g p (pC gi T L s)) = some (I (min (nv T L s) 1000), putP g p (pC gi T L s)) := by
  obtain ⟨hl, hk2⟩ := tk_lt h2 (by decide)
  obtain ⟨-, r1, r2, r3⟩ := num_run hl hk2
  unfold x7_value
  rw [P_tI (by decide), gb_s]
  have hd : ∀ i, s ≤ i → i < te T L s → dg (T i) ≤ 9 := fun i h1 h2 => by
    obtain ⟨d, d1, d2, -⟩ := dg_ok (r3 i h1 h2)
    omega
  have hcb : ∀ k, cvR T s k ≤ 1000 := by
    intro k
    cases k with
    | zero => rw [cvR]; omega
    | succ k => rw [cvR]; omega
  have H := loop_up (body := x7_value_l7 (p + 1)) (fuel := 1000) (n := te T L s - s) (fun k => (I (cvR T s k), I (s + k))) (fun _ => putP g p (pC gi T L s)) (t := I (cvR T s (te T L s - s))) (g1 := putP g p (pC gi T L s)) (fun k hk0 => by
    obtain ⟨d, d1, d2, d3⟩ := dg_ok (r3 (s + k) (by omega) (by omega))
    have hc := hcb k
    unfold x7_value_l7
    rw [P_tI (by decide), gb_s]
    show (if I (te T L s) ≤ I (s + k) then _ else _) = _
    rw [if_neg (by rw [I_le (by omega) (by omega)]; omega), P_getR7, gb_s, P_ald rfl (by omega), gb_s]
    show some (Sum.inl ((if 1000 < ((10 * I (cvR T s k)) + T (s + k)) - 48 then 1000 else ((10 * I (cvR T s k)) + T (s + k)) - 48), I (s + k) + 1), _) = _
    have e : ((10 * I (cvR T s k)) + T (s + k)) - 48 = I (10 * cvR T s k + dg (T (s + k))) := by
      rw [d3, show (10 : Int32) = I 10 from rfl, I_mul, I_add, show (48 : Int32) = I 48 from rfl, I_sub (by omega), ← d3, d2]
      congr 1
      omega
    rw [e, I_succ, cvR]
    by_cases hlt : 10 * cvR T s k + dg (T (s + k)) ≤ 1000
    · rw [if_neg (by rw [show (1000 : Int32) = I 1000 from rfl, I_lt (by decide) (by omega)]; omega), Nat.min_eq_left hlt]
      rfl
    · rw [if_pos (by rw [show (1000 : Int32) = I 1000 from rfl, I_lt (by decide) (by omega)]; omega), Nat.min_eq_right (by omega)]
      rfl) (by
    unfold x7_value_l7
    rw [P_tI (by decide), gb_s]
    show (if I (te T L s) ≤ I (s + (te T L s - s)) then _ else _) = _
    rw [if_pos (by rw [I_le (by omega) (by omega)]; omega)]) (by omega)
  have hcv := cv_nv T s (te T L s - (s + 1)) (fun i hi => hd _ (by omega) (by omega))
  rw [show te T L s - (s + 1) + 1 = te T L s - s by omega] at hcv
  rw [hcv] at H
  have e0 : ((0 : Int32), (pC gi T L s).2.1 3) = (I (cvR T s 0), I (s + 0)) := rfl
  rw [e0, H, cb_s]
  rfl
theorem nuE_num {lo hi : Nat} (h : nuE T L lo hi s = 0) : tk T L s = 2 ∧ lo ≤ nv T L s ∧ nv T L s ≤ hi := by
  unfold nuE at h
  by_cases h1 : tk T L s = 2
  · rw [if_pos h1] at h
    by_cases h2 : lo ≤ nv T L s ∧ nv T L s ≤ hi
    · exact ⟨h1, h2⟩
    · rw [if_neg h2] at h; omega
  · rw [if_neg h1] at h; omega
theorem c_valueOk {lo hi : Nat} (hL : L ≤ 500) (hh : hi ≤ 99) (h : nuE T L lo hi s = 0) : x7_value (p + 1) (putP g p (pC gi T L s)) = some (I (nv T L s), putP g p (pC gi T L s)) := by
  obtain ⟨h1, h2, h3⟩ := nuE_num h
  rw [c_value hL h1, Nat.min_eq_left (by omega)]
theorem c_isNumber {cnt : Int32} {lo hi : Nat} {x y : Int32} (hx : x = I lo) (hy : y = I hi) (hL : L ≤ 500) (hh : hi ≤ 99) (hlo : lo ≤ 99) : x0_isNumber p x y (putP g p (pK cnt T L s)) = if nuE T L lo hi s = 0 then some (1, putP g p (pK cnt T L s)) else some (0, putP g p (pE (I (nuE T L lo hi s)) cnt T L s)) := by
  have ht5 := tk_le T L s
  unfold x0_isNumber x0_isNumber_j40 nuE
  rw [P_getR0, gb_s, P_tI (by decide), gb_s]
  show (if I (tk T L s) = 2 then _ else _) = _
  by_cases h1 : tk T L s = 2
  · rw [if_pos (by rw [h1]; rfl), if_pos h1, gb_s, P_isO7, gb_s, c_value hL h1, cb_s, s_isWithin, cb_s, hx, hy, bt_nat (by omega) (by omega) (by omega)]
    by_cases h2 : lo ≤ nv T L s ∧ nv T L s ≤ hi
    · have hb : (decide (lo ≤ min (nv T L s) 1000) && decide (min (nv T L s) 1000 ≤ hi)) = true := by
        rw [Nat.min_eq_left (by omega)]
        simp [h2]
      rw [hb, if_neg (by decide), if_pos h2, if_pos rfl]
    · have hb : (decide (lo ≤ min (nv T L s) 1000) && decide (min (nv T L s) 1000 ≤ hi)) = false := by
        by_cases h3 : nv T L s ≤ 1000
        · rw [Nat.min_eq_left h3]
          simpa using h2
        · rw [Nat.min_eq_right (by omega)]
          simp
          intro _
          omega
      rw [hb, if_pos (by decide), if_neg h2, if_neg (by decide), P_isO0, gb_s, c_fail, cb_s, if_pos rfl]
      rfl
  · rw [if_neg (show ¬ I (tk T L s) = 2 from fun hc => h1 ((I_eq (b := 2) (by omega) (by decide)).mp hc)), if_neg h1, if_neg (by decide), P_isO0, gb_s, c_fail, cb_s, if_pos (Or.inl rfl)]
    rfl
theorem c_begin {gi : Nat → Int32} {cnt a b c : Int32} {ec ep : Int32} (hL : L ≤ 500) : x0_begin p (putP g p (giC ec ep cnt, tiC (I L) a b c, T)) = some ((), putP g p (pK cnt T L (rn T L 4 0))) := by
  unfold x0_begin x7_readFirst
  rw [P_putG (by decide), gb_s, P_putG (by decide), gb_s, P_getR0, gb_s, P_isO7, gb_s, P_putT (by decide), gb_s, P_isO7, gb_s]
  show cb (cb (x7_readNext (p + 1) (putP g p (upd (upd (giC ec ep cnt) 1 0) 2 (-1), upd (tiC (I L) a b c) 4 (I 0), T))) _) _ = _
  rw [gi1, gi2, ti4, c_readNext hL (Nat.zero_le _), cb_s, cb_s]
end CPar


