/-! the fewest cold: both programs -/
def TT : Nat := 2147483647
def fewR (st : St) : Nat := lkA st TT - svF (lkA st) (thB st) 9
theorem bt_lk {n w t : Nat} (hn : n < 2 ^ 29) (hw : w < 2 ^ 29) (ht : t < 2 ^ 31) : bt (I n - I w) 1 (I t) = (decide (1 ≤ n - w) && decide (n - w ≤ t)) := by
  unfold bt
  have e1 : I n - I w < 1 ↔ ¬ 1 ≤ n - w := by
    rw [Int32.lt_iff_toInt_lt, Is_int (by omega) (by omega)]
    show _ < (1 : Int) ↔ _
    omega
  have e2 : I t < I n - I w ↔ ¬ n - w ≤ t := by
    rw [Int32.lt_iff_toInt_lt, Is_int (by omega) (by omega), I_int ht]
    omega
  by_cases a : 1 ≤ n - w <;> by_cases b : n - w ≤ t <;> simp [e1, e2, a, b]
theorem lk_eq {n w l : Nat} (hn : n < 2 ^ 29) (hw : w < 2 ^ 29) (hl : l < 2 ^ 29) (h1 : 1 ≤ l) : I n - I w = I l ↔ n - w = l := by
  rw [← Int32.toInt_inj, Is_int (by omega) (by omega), I_int (by omega)]
  omega
theorem sN_mono {f g : Nat → Nat} : ∀ n, (∀ i, i < n → f i ≤ g i) → sN f n ≤ sN g n := by
  intro n
  induction n with
  | zero => intro _; exact Nat.le_refl _
  | succ n ih =>
    intro h
    rw [sN, sN]
    have := ih (fun i hi => h i (by omega))
    have := h n (by omega)
    omega
theorem lkA_mono (st : St) (t : Nat) : lkA st t ≤ lkA st (t + 1) := by
  refine sN_mono _ fun i _ => ?_
  by_cases h : lkN st i ≤ t
  · simp [h, show lkN st i ≤ t + 1 by omega]
  · simp [h, b1]
theorem lkA_le (st : St) (t : Nat) : lkA st t ≤ nH st := sN_le _
theorem thB_le (st : St) (t : Nat) : thB st t ≤ nL st := sN_le _
theorem svF_le (st : St) : ∀ t, svF (lkA st) (thB st) t ≤ lkA st t := by
  intro t
  cases t with
  | zero => exact Nat.zero_le _
  | succ t =>
    rw [svF]
    split
    · assumption
    · exact Nat.le_refl _
section FewH
variable {g : AH} {p m : Nat} {h : HS} {st : St} {r : RS}
theorem lk_nums {S C D O : Nat} (w : Ws st) (bd : Bl S C D O st) {i : Nat} (hi : i < 10) : hk st i 0 = I (kN (hk st i 0)) ∧ wB st i = I (kN (wB st i)) ∧ kN (hk st i 0) ≤ 30 ∧ kN (wB st i) ≤ 51 := by
  have h1 := (bd.fld (i := i) (f := 0) hi (by decide) rfl).nat (by decide)
  have h2 := (wB_b w bd hi).nat (by decide)
  exact ⟨h1.1, h2.1, h1.2, h2.2⟩
theorem c_hikersLacking (w : Ws st) (R : Rel st h) (M : Meas st h) {S C D O : Nat} (bd : Bl S C D O st) {t : Nat} (ht : t < 2 ^ 31) : x3_hikersLacking p (I t) (putH g p h) = some (I (lkA st t), putH g p h) := by
  have hh := w.h.2
  unfold x3_hikersLacking lkA
  have hs : ∀ i, i < nH st → ∀ a, x3_hikersLacking_l4 p (I t) (a, I i) (putH g p h) = some (.inl (a + (if (decide (1 ≤ lkN st i) && decide (lkN st i ≤ t)) = true then 1 else 0), I (i + 1)), putH g p h) := by
    intro i hi a
    have hi0 : i < 10 := by omega
    obtain ⟨n1, n2, n3, n4⟩ := lk_nums w bd hi0
    have hb : bt (hk st i 0 - wB st i) 1 (I t) = (decide (1 ≤ lkN st i) && decide (lkN st i ≤ t)) := by
      rw [n1, n2]
      exact bt_lk (by omega) (by omega) ht
    unfold x3_hikersLacking_l4 x3_hikersLacking_j32_4
    dsimp only
    rw [H_getI (by decide), gb_s, c_lt w R hi, H_getR (d := 6) rfl (by decide) (by decide), gb_s, H_hik hi0, gb_s, K_isO hi0, gb_s, c_lack hi0, cb_s, lack_eq R M hi, s_isWithin, cb_s, hb]
    by_cases h1 : (decide (1 ≤ lkN st i) && decide (lkN st i ≤ t)) = true
    · rw [if_neg (by rw [bI_z, h1]; decide), if_pos h1, I_succ]
    · rw [if_pos ((bI_z _).mpr (by simpa using h1)), if_neg h1, I_succ, Int32.add_zero]
  have he : ∀ a, x3_hikersLacking_l4 p (I t) (a, I (nH st)) (putH g p h) = some (.inr a, putH g p h) := by
    intro a
    unfold x3_hikersLacking_l4
    dsimp only
    rw [H_getI (by decide), gb_s, c_ge w R]
  rw [loop_sum (fun i => if (decide (1 ≤ lkN st i) && decide (lkN st i ≤ t)) = true then 1 else 0) hs he (by omega), cb_s, sm_N]
theorem th_nums {S C D O : Nat} (w : Ws st) (bd : Bl S C D O st) {b : Nat} (hb : b < nL st) : st (25 + b) = I (thN st b) ∧ thN st b ≤ 9 := by
  have := w.l.2
  exact (thick_b bd (b := b) (by omega)).nat (by decide)
theorem c_blanketsOf (w : Ws st) (R : Rel st h) {S C D O : Nat} (bd : Bl S C D O st) {t : Nat} (ht : t < 2 ^ 31) : x3_blanketsOfThickness p (I t) (putH g p h) = some (I (thB st t), putH g p h) := by
  have hl0 := w.l.2
  have e10 : h.1 10 = I (nL st) := (Rel_at R 10 (by decide)).trans w.l.1
  unfold x3_blanketsOfThickness thB
  have hs : ∀ i, i < nL st → ∀ a, x3_blanketsOfThickness_l4 p (I t) (a, I i) (putH g p h) = some (.inl (a + (if decide (thN st i = t) = true then 1 else 0), I (i + 1)), putH g p h) := by
    intro i hi a
    obtain ⟨n1, n2⟩ := th_nums w bd hi
    unfold x3_blanketsOfThickness_l4 x3_blanketsOfThickness_j25_4
    dsimp only
    rw [H_getI (by decide), gb_s, cn_lt e10 (by omega) hi, H_getR (d := 2) rfl (by decide) (by decide), gb_s, H_ald (d := 2) (k := i) (by decide) (by decide) rfl (by show _ < 12; omega), gb_s, R.2.1.2.1 i hi, n1]
    by_cases h1 : thN st i = t
    · rw [if_pos (by rw [h1]), if_pos (by simpa using h1), I_succ]
    · rw [if_neg (fun hc => h1 ((I_eq (by omega) ht).mp hc)), if_neg (by simpa using h1), I_succ, Int32.add_zero]
  have he : ∀ a, x3_blanketsOfThickness_l4 p (I t) (a, I (nL st)) (putH g p h) = some (.inr a, putH g p h) := by
    intro a
    unfold x3_blanketsOfThickness_l4
    dsimp only
    rw [H_getI (by decide), gb_s, cn_ge e10 (by omega)]
  rw [loop_sum (fun i => if decide (thN st i = t) = true then 1 else 0) hs he (by omega), cb_s, sm_N]
theorem c_fewest (w : Ws st) (R : Rel st h) (M : Meas st h) {S C D O : Nat} (bd : Bl S C D O st) : x3_coldIfSharedBest p (putH g p h) = some (I (fewR st), putH g p h) := by
  have hh := w.h.2
  have hl := w.l.2
  unfold x3_coldIfSharedBest
  have H := loop_up (body := x3_coldIfSharedBest_l4 p) (fuel := 1000) (n := 9) (fun k => (I (svF (lkA st) (thB st) k), I (k + 1))) (fun _ => putH g p h) (t := I (svF (lkA st) (thB st) 9)) (g1 := putH g p h) (fun k hk0 => by
    have h1 := svF_le st k
    have h2 := lkA_mono st k
    have h3 := lkA_le st (k + 1)
    have h4 := thB_le st (k + 1)
    unfold x3_coldIfSharedBest_l4
    dsimp only
    rw [if_neg (by rw [show (9 : Int32) = I 9 from rfl, I_lt (by decide) (by omega)]; omega), H_isO, gb_s, c_hikersLacking w R M bd (by omega), cb_s, H_isO, gb_s, c_blanketsOf w R bd (by omega), cb_s, I_sub (by omega), I_succ, svF]
    generalize svF (lkA st) (thB st) k = S0 at h1 ⊢
    by_cases hc : I (thB st (k + 1)) < I (lkA st (k + 1) - S0)
    · rw [if_pos hc, I_add]
      rw [I_lt (by omega) (by omega)] at hc
      rw [if_pos (by omega)]
    · rw [if_neg hc, I_add]
      rw [I_lt (by omega) (by omega)] at hc
      by_cases hc2 : S0 + thB st (k + 1) ≤ lkA st (k + 1)
      · rw [if_pos hc2, show S0 + (lkA st (k + 1) - S0) = S0 + thB st (k + 1) by omega]
      · rw [if_neg hc2, show S0 + (lkA st (k + 1) - S0) = lkA st (k + 1) by omega]) (by
    unfold x3_coldIfSharedBest_l4
    dsimp only
    rw [if_pos (by decide)]) (by decide)
  rw [show loopX (x3_coldIfSharedBest_l4 p) 1000 (0, 1) (putH g p h) = _ from H, cb_s, H_isO, gb_s, show (2147483647 : Int32) = I TT from rfl, c_hikersLacking w R M bd (by decide), cb_s, I_sub]
  · rfl
  · have h1 := svF_le st 9
    have : ∀ n, lkA st 9 ≤ lkA st (9 + n) := by
      intro n
      induction n with
      | zero => exact Nat.le_refl _
      | succ n ih => exact Nat.le_trans ih (lkA_mono st (9 + n))
    have h2 := this (TT - 9)
    rw [show 9 + (TT - 9) = TT from rfl] at h2
    omega
def Gv (r : RS) (n : Nat) (G : Nat → Bool) : Prop := ∀ b, b < n → r.2 9 b = bI (G b)
theorem s_thinnest (w : Ws (r.2 1)) {S C D O : Nat} (bd : Bl S C D O (r.2 1)) {G : Nat → Bool} (hG : Gv r (nL (r.2 1)) G) {l : Nat} (hl : l < 2 ^ 31) : x9_thinnest m (I l) (putR g m r) = some (oI (tnS (r.2 1) G l (nL (r.2 1))), putR g m r) := by
  have hl0 := w.l.2
  unfold x9_thinnest
  have H := loop_up (body := x9_thinnest_l4 m (I l)) (fuel := 1000) (n := nL (r.2 1)) (fun j => (oI (tnS (r.2 1) G l j), I j)) (fun _ => putR g m r) (t := oI (tnS (r.2 1) G l (nL (r.2 1)))) (g1 := putR g m r) (fun j hj => by
    obtain ⟨n1, n2⟩ := th_nums w bd hj
    unfold x9_thinnest_l4 x9_thinnest_j41_4 x9_thinnest_j42_4 x9_thinnest_j75_4 x9_thinnest_j79_4 x9_thinnest_j80_4
    dsimp only
    rw [R_getR rfl, gb_s, R_s (k := 10) (x := 10) rfl (by decide), gb_s, cn_lt w.l.1 (by omega) hj, R_getR rfl, gb_s, R_aldN (d := 9) (t := 2) (by decide) (by decide) rfl (by show _ < 12; omega), gb_s, hG j hj, gb_s, R_s (k := 25 + j) (x := 25 + I j) (by rw [← I_add]; rfl) (by omega), gb_s, n1, if_pos (rfl : (0 : Int32) = 0), if_neg (show ¬ (1 : Int32) = 0 by decide), tnS]
    cases hg : G j with
    | true =>
      rw [if_neg (show ¬ bI true = 0 by decide), if_neg (by simp), I_succ]
    | false =>
      rw [if_pos (show bI false = 0 from rfl)]
      by_cases h1 : I (thN (r.2 1) j) < I l
      · have h2 : ¬ l ≤ thN (r.2 1) j := by rw [I_lt (by omega) hl] at h1; omega
        have h3 : ¬ (!false && decide (l ≤ thN (r.2 1) j)) = true := by simpa using h2
        rw [if_pos h1, if_neg h3, I_succ]
      · have h2 : l ≤ thN (r.2 1) j := by rw [I_lt (by omega) hl] at h1; omega
        have h3 : (!false && decide (l ≤ thN (r.2 1) j)) = true := by simpa using h2
        rw [if_neg h1, if_pos h3]
        cases h4 : tnS (r.2 1) G l j with
        | none => rw [if_pos (show oI none = -1 from rfl), I_succ]; rfl
        | some b =>
          have hb := (tnS_some _ _ h4).1
          obtain ⟨m1, m2⟩ := th_nums w bd (b := b) (by omega)
          dsimp only
          rw [if_neg (show ¬ oI (some b) = -1 from I_ne_neg (by omega)), show oI (some b) = I b from rfl]
          repeat first | rw [gb_s] | rw [R_s (k := 25 + j) (x := 25 + I j) (by rw [← I_add]; rfl) (by omega)] | rw [R_s (k := 25 + b) (x := 25 + I b) (by rw [← I_add]; rfl) (by omega)] | rw [R_getR rfl]
          rw [n1, m1]
          by_cases h5 : I (thN (r.2 1) b) ≤ I (thN (r.2 1) j)
          · have h6 : ¬ thN (r.2 1) j < thN (r.2 1) b := by rw [I_le (by omega) (by omega)] at h5; omega
            rw [if_pos h5, if_neg h6, I_succ]; rfl
          · have h6 : thN (r.2 1) j < thN (r.2 1) b := by rw [I_le (by omega) (by omega)] at h5; omega
            rw [if_neg h5, if_pos h6, I_succ]; rfl) (by
    unfold x9_thinnest_l4
    dsimp only
    rw [R_getR rfl, gb_s, R_s (k := 10) (x := 10) rfl (by decide), gb_s, cn_ge w.l.1 (by omega)]) (by omega)
  rw [show loopX (x9_thinnest_l4 m (I l)) 1000 (-1, 0) (putR g m r) = _ from H, cb_s]
def gvO (G : Nat → Bool) (o : Option Nat) : Nat → Bool := match o with
  | some b => gvN G b
  | none => G
theorem s_give (w : Ws (r.2 1)) {S C D O : Nat} (bd : Bl S C D O (r.2 1)) {G : Nat → Bool} (hG : Gv r (nL (r.2 1)) G) {l : Nat} (hl : l < 2 ^ 31) : ∃ r1, x9_give m (I l) (putR g m r) = some (bI (tnS (r.2 1) G l (nL (r.2 1))).isSome, putR g m r1) ∧ Sq r r1 ∧ r1.1 6 = r.1 6 ∧ Gv r1 (nL (r.2 1)) (gvO G (tnS (r.2 1) G l (nL (r.2 1)))) := by
  have hl0 := w.l.2
  unfold x9_give x9_give_j18
  rw [R_isO, gb_s, s_thinnest w bd hG hl, cb_s]
  cases h4 : tnS (r.2 1) G l (nL (r.2 1)) with
  | none =>
    rw [if_pos (show oI none = -1 from rfl), if_pos (show oI none = -1 from rfl)]
    exact ⟨r, rfl, Sq.refl, rfl, hG⟩
  | some b =>
    have hb := (tnS_some _ _ h4).1
    rw [if_neg (show ¬ oI (some b) = -1 from I_ne_neg (by omega)), R_getR rfl, gb_s, show oI (some b) = I b from rfl, R_astN (d := 9) (t := 2) (by decide) (by decide) rfl (by show _ < 12; omega), gb_s, if_neg (show ¬ I b = -1 from I_ne_neg (by omega))]
    refine ⟨_, rfl, Sq.ar (Or.inr (Or.inr rfl)), rfl, fun x hx => ?_⟩
    show upd (r.2 9) b 1 x = bI (if x = b then true else G x)
    by_cases hxb : x = b
    · rw [hxb, upd_at, if_pos rfl]; rfl
    · rw [upd_ne hxb, if_neg hxb]; exact hG x hx
/-- what holds in the reference's search -/
def FewI (st : St) (l n c : Nat) (G : Nat → Bool) : Prop := (∀ t, gvC st G t = svF (doneA st l n) (thB st) t) ∧ c + gvC st G 9 = doneA st l n TT
theorem few_no {st : St} {l n c : Nat} {G : Nat → Bool} (hl : 1 ≤ l) (hn : n < nH st) (hne : ¬ lkN st n = l) (F : FewI st l n c G) : FewI st l (n + 1) c G := by
  have e : doneA st l (n + 1) = doneA st l n := funext fun t => by rw [doneA_step hl hn, if_neg hne]; rfl
  unfold FewI
  rw [e]
  exact F
theorem few_yes {st : St} {l n c : Nat} {G : Nat → Bool} (h9 : ∀ b, b < nL st → 1 ≤ thN st b ∧ thN st b ≤ 9) (hl : 1 ≤ l) (hl2 : l ≤ TT) (hn : n < nH st) (hne : lkN st n = l) (F : FewI st l n c G) : FewI st l (n + 1) (c + if (tnS st G l (nL st)).isSome = true then 0 else 1) (gvO G (tnS st G l (nL st))) := by
  have e : doneA st l (n + 1) = fun t => doneA st l n t + if l ≤ t then 1 else 0 := funext fun t => by rw [doneA_step hl hn, if_pos hne]
  have hs := few_step (G := G) (a := doneA st l n) (fun b hb => (h9 b hb).1) hl F.1
  refine ⟨fun t => by rw [e]; exact hs t, ?_⟩
  rw [e]
  show _ = doneA st l n TT + if l ≤ TT then 1 else 0
  rw [if_pos hl2, ← F.2]
  cases h4 : tnS st G l (nL st) with
  | none => show c + 1 + gvC st G 9 = _; omega
  | some b =>
    obtain ⟨b1', b2, -, -⟩ := tnS_some _ _ h4
    show c + 0 + gvC st (gvN G b) 9 = _
    rw [gvC_new b1' b2, if_pos (h9 b b1').2]
    omega
theorem s_fewest (w : Ws (r.2 1)) {S C D O : Nat} (bd : Bl S C D O (r.2 1)) (h1 : ∀ b, b < nL (r.2 1) → 1 ≤ kN (r.2 1 (25 + b))) : ∃ r1, x9_fewestCold m (putR g m r) = some (I (fewR (r.2 1)), putR g m r1) ∧ Sq r r1 ∧ r1.1 6 = 0 := by
  have hh := w.h.2
  have hl0 := w.l.2
  have h9 : ∀ b, b < nL (r.2 1) → 1 ≤ thN (r.2 1) b ∧ thN (r.2 1) b ≤ 9 := fun b hb => ⟨h1 b hb, (th_nums w bd hb).2⟩
  have hS : ∀ r1 : RS, Sq (RS_setF r 6 0) r1 → r1.2 1 = r.2 1 := fun r1 h => h.st
  unfold x9_fewestCold
  rw [R_putI rfl, gb_s]
  have L1 := loop_inv (body := x9_fewestCold_l7 m) (n := nL (r.2 1)) (fuel := 1000) (s := 0) (g := putR g m (RS_setF r 6 0)) (fun n s g1 => s = I n ∧ ∃ r1, g1 = putR g m r1 ∧ Sq (RS_setF r 6 0) r1 ∧ r1.1 6 = 0 ∧ Gv r1 n (fun _ => false)) (fun _ g1 => ∃ r1, g1 = putR g m r1 ∧ Sq (RS_setF r 6 0) r1 ∧ r1.1 6 = 0 ∧ Gv r1 (nL (r.2 1)) (fun _ => false)) (fun n s g1 hn h0 => by
      obtain ⟨rfl, r1, rfl, q1, q2, q3⟩ := h0
      have e1 := hS r1 q1
      unfold x9_fewestCold_l7
      rw [R_getR rfl, gb_s, R_s (k := 10) (x := 10) rfl (by decide), gb_s, e1, cn_lt w.l.1 (by omega) hn, R_getR rfl, gb_s, R_astN (d := 9) (t := 2) (by decide) (by decide) rfl (by show _ < 12; omega), gb_s, I_succ]
      refine ⟨_, _, rfl, rfl, _, rfl, q1.trans (Sq.ar (Or.inr (Or.inr rfl))), q2, fun b hb => ?_⟩
      show upd (r1.2 9) n 0 b = 0
      by_cases hbn : b = n
      · rw [hbn, upd_at]
      · rw [upd_ne hbn]; exact q3 b (by omega)) (fun s g1 h0 => by
      obtain ⟨rfl, r1, rfl, q1, q2, q3⟩ := h0
      have e1 := hS r1 q1
      unfold x9_fewestCold_l7
      rw [R_getR rfl, gb_s, R_s (k := 10) (x := 10) rfl (by decide), gb_s, e1, cn_ge w.l.1 (by omega)]
      exact ⟨_, _, rfl, r1, rfl, q1, q2, q3⟩) (by omega) ⟨rfl, _, rfl, Sq.refl, rfl, fun b hb => by omega⟩
  obtain ⟨t1, g1, e1, r1, rfl, q1, q2, q3⟩ := L1
  rw [e1, cb_s]
  have hin : ∀ l, 1 ≤ l → l ≤ 30 → ∀ c G r1, c ≤ 10 → Sq (RS_setF r 6 0) r1 → r1.1 6 = 0 → Gv r1 (nL (r.2 1)) G → FewI (r.2 1) l 0 c G → ∃ c2 G2 r2, loopX (x9_fewestCold_l43 m (I l)) 1000 (I c, 0) (putR g m r1) = some (I c2, putR g m r2) ∧ Sq (RS_setF r 6 0) r2 ∧ r2.1 6 = 0 ∧ Gv r2 (nL (r.2 1)) G2 ∧ FewI (r.2 1) l (nH (r.2 1)) c2 G2 := by
    intro l hl1 hl2 c G r1 hc q1 q2 q3 F
    have L2 := loop_inv (body := x9_fewestCold_l43 m (I l)) (n := nH (r.2 1)) (fuel := 1000) (s := (I c, 0)) (g := putR g m r1) (fun n s g1 => ∃ c2 G2 r2, s = (I c2, I n) ∧ g1 = putR g m r2 ∧ Sq (RS_setF r 6 0) r2 ∧ r2.1 6 = 0 ∧ Gv r2 (nL (r.2 1)) G2 ∧ FewI (r.2 1) l n c2 G2) (fun s g1 => ∃ c2 G2 r2, s = I c2 ∧ g1 = putR g m r2 ∧ Sq (RS_setF r 6 0) r2 ∧ r2.1 6 = 0 ∧ Gv r2 (nL (r.2 1)) G2 ∧ FewI (r.2 1) l (nH (r.2 1)) c2 G2) (fun n s g1 hn h0 => by
        obtain ⟨c2, G2, r2, rfl, rfl, q1, q2, q3, F⟩ := h0
        have e1 := hS r2 q1
        have w2 : Ws (r2.2 1) := by rw [e1]; exact w
        have bd2 : Bl S C D O (r2.2 1) := by rw [e1]; exact bd
        have hn0 : n < 10 := by omega
        obtain ⟨n1, n2, n3, n4⟩ := lk_nums w bd hn0
        have hlk : hk (r.2 1) n 0 - wB (r.2 1) n = I l ↔ lkN (r.2 1) n = l := by
          rw [n1, n2]
          exact lk_eq (by omega) (by omega) (by omega) hl1
        unfold x9_fewestCold_l43 x9_fewestCold_j84_43 x9_fewestCold_j86_43
        dsimp only
        rw [R_getR rfl, gb_s, R_s (k := 12) (x := 12) rfl (by decide), gb_s, e1, s_head w n hn, R_isO, gb_s, s_get (f := 0) (x := 0) rfl hn0 (by decide), cb_s, R_isO, gb_s, s_warmthBare w2 hn0, cb_s, e1]
        show ∃ s1 g1, (if hk (r.2 1) n 0 - wB (r.2 1) n = I l then _ else _) = _ ∧ _
        by_cases hc : lkN (r.2 1) n = l
        · obtain ⟨r3, e3, p1, p2, p3⟩ := s_give (g := g) (m := m) w2 bd2 (by rw [e1]; exact q3) (l := l) (by omega)
          rw [e1] at e3 p3
          have F2 := few_yes h9 hl1 (show l ≤ TT by unfold TT; omega) hn hc F
          rw [if_pos (hlk.mpr hc), R_isO, gb_s, e3, cb_s]
          cases hq : (tnS (r.2 1) G2 l (nL (r.2 1))).isSome with
          | true =>
            rw [hq, if_pos rfl] at F2
            rw [if_neg (show ¬ bI true = 0 by decide), I_succ]
            exact ⟨_, _, rfl, c2, _, r3, by rw [Int32.add_zero], rfl, q1.trans p1, p2.trans q2, p3, F2⟩
          | false =>
            rw [hq, if_neg (by decide)] at F2
            rw [if_pos (show bI false = 0 from rfl), I_succ]
            exact ⟨_, _, rfl, c2 + 1, _, r3, by rw [I_succ], rfl, q1.trans p1, p2.trans q2, p3, F2⟩
        · rw [if_neg (fun h => hc (hlk.mp h)), I_succ]
          exact ⟨_, _, rfl, c2, G2, r2, rfl, rfl, q1, q2, q3, few_no hl1 hn hc F⟩) (fun s g1 h0 => by
        obtain ⟨c2, G2, r2, rfl, rfl, q1, q2, q3, F⟩ := h0
        have e1 := hS r2 q1
        unfold x9_fewestCold_l43
        dsimp only
        rw [R_getR rfl, gb_s, R_s (k := 12) (x := 12) rfl (by decide), gb_s, e1, s_tail w]
        exact ⟨_, _, rfl, c2, G2, r2, rfl, rfl, q1, q2, q3, F⟩) (by omega) ⟨c, G, r1, rfl, rfl, q1, q2, q3, F⟩
    obtain ⟨t2, g2, e2, c2, G2, r2, rfl, rfl, h⟩ := L2
    exact ⟨c2, G2, r2, e2, h⟩
  have cbd : ∀ l c G, FewI (r.2 1) l 0 c G → c ≤ 10 := by
    intro l c G F
    have h2 := F.2
    have h3 : doneA (r.2 1) l 0 TT ≤ nH (r.2 1) := sN_le _
    omega
  have L3 := loop_inv (body := x9_fewestCold_l35 m) (n := 30) (fuel := 1000) (s := (0, 1)) (g := putR g m r1) (fun k s g1 => ∃ c2 G2 r2, s = (I c2, I (k + 1)) ∧ g1 = putR g m r2 ∧ Sq (RS_setF r 6 0) r2 ∧ r2.1 6 = 0 ∧ Gv r2 (nL (r.2 1)) G2 ∧ FewI (r.2 1) (k + 1) 0 c2 G2) (fun s g1 => ∃ c2 G2 r2, s = I c2 ∧ g1 = putR g m r2 ∧ Sq (RS_setF r 6 0) r2 ∧ r2.1 6 = 0 ∧ FewI (r.2 1) 31 0 c2 G2) (fun k s g1 hk0 h0 => by
      obtain ⟨c2, G2, r2, rfl, rfl, q1, q2, q3, F⟩ := h0
      obtain ⟨c3, G3, r3, e3, p1, p2, p3, F3⟩ := hin (k + 1) (by omega) (by omega) c2 G2 r2 (cbd _ _ _ F) q1 q2 q3 F
      unfold x9_fewestCold_l35
      dsimp only
      rw [if_neg (by rw [show (30 : Int32) = I 30 from rfl, I_lt (by decide) (by omega)]; omega), e3, cb_s, I_succ]
      have e : doneA (r.2 1) (k + 1) (nH (r.2 1)) = doneA (r.2 1) (k + 1 + 1) 0 := funext fun t => doneA_next _ _ _
      unfold FewI at F3
      rw [e] at F3
      exact ⟨_, _, rfl, c3, G3, r3, rfl, rfl, p1, p2, p3, F3⟩) (fun s g1 h0 => by
      obtain ⟨c2, G2, r2, rfl, rfl, q1, q2, q3, F⟩ := h0
      unfold x9_fewestCold_l35
      dsimp only
      rw [if_pos (by decide)]
      exact ⟨_, _, rfl, c2, G2, r2, rfl, rfl, q1, q2, F⟩) (by decide) ⟨0, fun _ => false, r1, rfl, rfl, q1, q2, q3, fun t => by
        have e : doneA (r.2 1) (0 + 1) 0 = fun _ => 0 := funext fun t => doneA_start _ t
        have e2 : gvC (r.2 1) (fun _ => false) t = 0 := sN_zero _ fun i _ => rfl
        have e3 : ∀ t, svF (fun _ => 0) (thB (r.2 1)) t = 0 := by
          intro t
          cases t with
          | zero => rfl
          | succ t => rw [svF]; split <;> omega
        rw [e, e2, e3], by
        have e2 : gvC (r.2 1) (fun _ => false) 9 = 0 := sN_zero _ fun i _ => rfl
        rw [doneA_start, e2]⟩
  obtain ⟨t3, g3, e3, c2, G2, r2, rfl, rfl, p1, p2, F⟩ := L3
  rw [e3, cb_s]
  refine ⟨r2, ?_, Sq.f6.trans p1, p2⟩
  have hd : doneA (r.2 1) 31 0 = lkA (r.2 1) := funext fun t => doneA_end (fun i hi => by
    obtain ⟨n1, n2, n3, n4⟩ := lk_nums w bd (i := i) (by omega)
    unfold lkN
    omega) t
  have hf : c2 = fewR (r.2 1) := by
    have f1 := F.1 9
    have f2 := F.2
    rw [hd] at f1 f2
    unfold fewR
    omega
  rw [hf]
end FewH
