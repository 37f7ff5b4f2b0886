/-! searches: bunks and blankets -/
theorem cn_lt {α : Type} {x : Int32} {n i : Nat} (hx : x = I n) (hn : n ≤ 20) (hi : i < n) (A B : Option (α × AH)) : (if x ≤ I i then A else B) = B := by
  rw [if_neg]
  rw [hx, I_le (by omega) (by omega)]
  omega
theorem cn_ge {α : Type} {x : Int32} {n : Nat} (hx : x = I n) (hn : n ≤ 20) (A B : Option (α × AH)) : (if x ≤ I n then A else B) = A := by
  rw [if_pos]
  rw [hx, I_le (by omega) (by omega)]
  omega
def oI : Option Nat → Int32 := fun o => match o with
  | none => -1
  | some k => I k
def qt (st : St) (a b : Nat) : Bool := decide (noi st (I a) < noi st (I b)) || (decide (noi st (I a) = noi st (I b)) && decide (st (13 + b) < st (13 + a)))
def qS (st : St) : Nat → Option Nat
  | 0 => none
  | n + 1 => if inB st (I n) = -1 then (match qS st n with
    | none => some n
    | some b => if qt st n b = true then some n else some b) else qS st n
theorem qS_lt {st : St} : ∀ {n b : Nat}, qS st n = some b → b < n := by
  intro n
  induction n with
  | zero => intro b h; cases h
  | succ n ih =>
    intro b h
    rw [qS] at h
    by_cases h1 : inB st (I n) = -1
    · rw [if_pos h1] at h
      cases h2 : qS st n with
      | none =>
        rw [h2] at h
        cases h
        omega
      | some c =>
        rw [h2] at h
        dsimp only at h
        have := ih h2
        by_cases h3 : qt st n c = true
        · rw [if_pos h3] at h; cases h; omega
        · rw [if_neg h3] at h; cases h; omega
    · rw [if_neg h1] at h
      have := ih h
      omega
def lrS (st : St) : Nat → Int32 × Int32
  | 0 => (0, 0)
  | n + 1 => (if (lrS st n).1 < (if inB st (I n) = -1 then 0 else (lrS st n).2 + 1) then (if inB st (I n) = -1 then 0 else (lrS st n).2 + 1) else (lrS st n).1, if inB st (I n) = -1 then 0 else (lrS st n).2 + 1)
theorem sn_b {st : St} {S C D O : Nat} (w : Ws st) (h : Bl S C D O st) (b : Int32) : B0 (sn st b) 9 := by
  unfold sn
  rcases inB_cases w b with h1 | ⟨k, h1, h2, h3, h4⟩
  · rw [if_pos h1]; exact ⟨0, by decide, rfl⟩
  · have hh := w.h.2
    rw [if_neg (by rw [h2]; exact I_ne_neg (by omega)), h3]
    split
    · exact ⟨0, by decide, rfl⟩
    · exact h.fld (f := 1) (by omega) (by decide) rfl
theorem noi_b {st : St} {S C D O : Nat} (w : Ws st) (h : Bl S C D O st) (b : Int32) : B0 (noi st b) 27 := by
  obtain ⟨x, x1, x2⟩ := sn_b w h (b - 1)
  obtain ⟨y, y1, y2⟩ := sn_b w h (b + 1)
  obtain ⟨z, z1, z2⟩ := sn_b w h (b - 2)
  obtain ⟨t, t1, t2⟩ := sn_b w h (b + 2)
  unfold noi
  rw [x2, y2, z2, t2, I_add, I_add, show (2 : Int32) = I 2 from rfl, show I (z + t) / I 2 = I ((z + t) / 2) from (Int32.ofNat_div (by omega) (by omega)).symm, I_add]
  exact ⟨_, by omega, rfl⟩
theorem I_int {a : Nat} (h : a < 2 ^ 31) : (I a).toInt = (a : Int) := Int32.toInt_ofNat_of_lt h
theorem Is_int {a b : Nat} (ha : a < 2 ^ 30) (hb : b < 2 ^ 30) : (I a - I b).toInt = (a : Int) - b := by
  rw [Int32.toInt_sub, I_int (by omega), I_int (by omega)]
  exact Int.bmod_eq_of_le (by omega) (by omega)
theorem d_pos {a b : Nat} (ha : a < 2 ^ 30) (hb : b < 2 ^ 30) : 0 < I a - I b ↔ I b < I a := by
  rw [Int32.lt_iff_toInt_lt, Int32.lt_iff_toInt_lt, Is_int ha hb, I_int (by omega), I_int (by omega)]
  show (0 : Int) < _ ↔ _
  omega
theorem d_zero {a b : Nat} (ha : a < 2 ^ 30) (hb : b < 2 ^ 30) : I a - I b = 0 ↔ I a = I b := by
  rw [← Int32.toInt_inj, Is_int ha hb, I_eq (by omega) (by omega)]
  show _ = (0 : Int) ↔ _
  omega
section Srch
variable {g : AH} {p m : Nat} {h : HS} {st : St} {r : RS}
theorem c_isQuieter (w : Ws st) (R : Rel st h) (M : Meas st h) {a b : Nat} (ha : a < nB st) (hb : b < nB st) : x3_isQuieter p (I a) (I b) (putH g p h) = some (bI (qt st a b), putH g p h) := by
  have hb0 := w.b.2
  unfold x3_isQuieter x3_isQuieter_j40 qt
  rw [H_isO, gb_s, c_noiseAt w R M ha, cb_s, H_isO, gb_s, c_noiseAt w R M hb, cb_s, H_getR (d := 1) rfl (by decide) (by decide), gb_s, H_ald (d := 1) (k := a) (by decide) (by decide) rfl (by show _ < 12; omega), gb_s, gb_s, H_ald (d := 1) (k := b) (by decide) (by decide) rfl (by show _ < 12; omega), gb_s, R.2.1.1 a ha, R.2.1.1 b hb]
  by_cases h1 : noi st (I a) < noi st (I b)
  · rw [if_pos h1]; simp [h1, bI]
  · rw [if_neg h1]
    by_cases h2 : noi st (I a) = noi st (I b)
    · rw [if_pos h2]
      by_cases h3 : st (13 + a) ≤ st (13 + b)
      · rw [if_pos h3]
        have h4 := Int32.not_lt.mpr h3
        simp [h1, h4, bI]
      · rw [if_neg h3]
        have h4 := Int32.not_le.mp h3
        simp [h2, h4, bI]
    · rw [if_neg h2]; simp [h1, h2, bI]
theorem s_isQuieter (w : Ws (r.2 1)) {S C D O : Nat} (bd : Bl S C D O (r.2 1)) {a b : Nat} (ha : a < nB (r.2 1)) (hb : b < nB (r.2 1)) : x9_isQuieter m (I a) (I b) (putR g m r) = some (bI (qt (r.2 1) a b), putR g m r) := by
  have hb0 := w.b.2
  obtain ⟨x, x1, x2⟩ := noi_b w bd (I a)
  obtain ⟨y, y1, y2⟩ := noi_b w bd (I b)
  unfold x9_isQuieter x9_isQuieter_j41 qt
  rw [R_isO, gb_s, s_noise w, cb_s, R_isO, gb_s, s_noise w, cb_s, R_getR rfl, gb_s, R_s (k := 13 + a) (x := 13 + I a) (by rw [← I_add]; rfl) (by omega), gb_s, gb_s, R_s (k := 13 + b) (x := 13 + I b) (by rw [← I_add]; rfl) (by omega), gb_s, x2, y2]
  have e1 := d_pos (a := y) (b := x) (by omega) (by omega)
  have e2 := d_zero (a := y) (b := x) (by omega) (by omega)
  by_cases h1 : I x < I y
  · rw [if_pos (e1.mpr h1)]; simp [h1, bI]
  · rw [if_neg (fun hc => h1 (e1.mp hc))]
    by_cases h2 : I y = I x
    · rw [if_pos (e2.mpr h2)]
      by_cases h3 : r.2 1 (13 + a) ≤ r.2 1 (13 + b)
      · rw [if_pos h3]
        have h4 := Int32.not_lt.mpr h3
        simp [h1, h4, bI]
      · rw [if_neg h3]
        have h4 := Int32.not_le.mp h3
        simp [h2, h4, bI]
    · rw [if_neg (fun hc => h2 (e2.mp hc))]
      have h3 : ¬ I x = I y := fun hc => h2 hc.symm
      simp [h1, h3, bI]
theorem c_quietest (w : Ws st) (R : Rel st h) (M : Meas st h) : x3_quietestEmptyBunk p (putH g p h) = some (oI (qS st (nB st)), putH g p h) := by
  have hb0 := w.b.2
  unfold x3_quietestEmptyBunk
  have e9 : h.1 9 = I (nB st) := (Rel_at R 9 (by decide)).trans w.b.1
  have H := loop_up (body := x3_quietestEmptyBunk_l4 p) (fuel := 1000) (n := nB st) (fun i => (oI (qS st i), I i)) (fun _ => putH g p h) (t := oI (qS st (nB st))) (g1 := putH g p h) (fun i hi => by
    unfold x3_quietestEmptyBunk_l4 x3_quietestEmptyBunk_j35_4 x3_quietestEmptyBunk_j37_4
    dsimp only
    rw [H_getI (by decide), gb_s, cn_lt e9 (by omega) hi, H_isO, gb_s, c_sleeperIn w R, cb_s, qS]
    by_cases h1 : inB st (I i) = -1
    · rw [if_pos h1, if_pos h1]
      cases h2 : qS st i with
      | none => rw [if_pos (show oI none = -1 from rfl), I_succ]; rfl
      | some b =>
        have hb := qS_lt h2
        dsimp only
        rw [if_neg (show ¬ oI (some b) = -1 from I_ne_neg (by omega)), H_isO, gb_s, show oI (some b) = I b from rfl, c_isQuieter w R M hi (by omega), cb_s]
        by_cases h3 : qt st i b = true
        · rw [if_neg (by rw [bI_z, h3]; decide), if_pos h3, I_succ]; rfl
        · rw [if_pos ((bI_z _).mpr (by simpa using h3)), if_neg h3, I_succ]; rfl
    · rw [if_neg h1, if_neg h1, I_succ]) (by
    unfold x3_quietestEmptyBunk_l4
    dsimp only
    rw [H_getI (by decide), gb_s, cn_ge e9 (by omega)]) (by omega)
  rw [show loopX (x3_quietestEmptyBunk_l4 p) 1000 (-1, 0) (putH g p h) = _ from H, cb_s]
theorem s_quietest (w : Ws (r.2 1)) {S C D O : Nat} (bd : Bl S C D O (r.2 1)) : x9_quietestBunk m (putR g m r) = some (oI (qS (r.2 1) (nB (r.2 1))), putR g m (RS_setF r 6 0)) := by
  have hb0 := w.b.2
  unfold x9_quietestBunk
  rw [R_putI rfl, gb_s]
  have w' : Ws ((RS_setF r 6 0).2 1) := w
  have e9 : (RS_setF r 6 0).2 1 9 = I (nB (r.2 1)) := w.b.1
  have bd' : Bl S C D O ((RS_setF r 6 0).2 1) := bd
  have H := loop_up (body := x9_quietestBunk_l9 m) (fuel := 1000) (n := nB (r.2 1)) (fun i => (oI (qS (r.2 1) i), I i)) (fun _ => putR g m (RS_setF r 6 0)) (t := oI (qS (r.2 1) (nB (r.2 1)))) (g1 := putR g m (RS_setF r 6 0)) (fun i hi => by
    unfold x9_quietestBunk_l9 x9_quietestBunk_j43_9 x9_quietestBunk_j45_9
    dsimp only
    rw [R_getR rfl, gb_s, R_s (k := 9) (x := 9) rfl (by decide), gb_s, cn_lt e9 (by omega) hi, R_isO, gb_s, s_inBunk w', cb_s, qS]
    show (if inB (r.2 1) (I i) = -1 then _ else _) = _
    by_cases h1 : inB (r.2 1) (I i) = -1
    · rw [if_pos h1, if_pos h1]
      cases h2 : qS (r.2 1) i with
      | none => rw [if_pos (show oI none = -1 from rfl), I_succ]; rfl
      | some b =>
        have hb := qS_lt h2
        dsimp only
        rw [if_neg (show ¬ oI (some b) = -1 from I_ne_neg (by omega)), R_isO, gb_s, show oI (some b) = I b from rfl, s_isQuieter w' bd' hi (show b < nB (r.2 1) by omega), cb_s]
        show (if bI (qt (r.2 1) i b) = 0 then _ else _) = _
        by_cases h3 : qt (r.2 1) i b = true
        · rw [if_neg (by rw [bI_z, h3]; decide), if_pos h3, I_succ]; rfl
        · rw [if_pos ((bI_z _).mpr (by simpa using h3)), if_neg h3, I_succ]; rfl
    · rw [if_neg h1, if_neg h1, I_succ]) (by
    unfold x9_quietestBunk_l9
    dsimp only
    rw [R_getR rfl, gb_s, R_s (k := 9) (x := 9) rfl (by decide), gb_s, cn_ge e9 (by omega)]) (by omega)
  rw [show loopX (x9_quietestBunk_l9 m) 1000 (-1, 0) (putR g m (RS_setF r 6 0)) = _ from H, cb_s]
theorem c_longest (w : Ws st) (R : Rel st h) : x3_longestRowOfSleepers p (putH g p h) = some ((lrS st (nB st)).1, putH g p h) := by
  have hb0 := w.b.2
  unfold x3_longestRowOfSleepers
  have e9 : h.1 9 = I (nB st) := (Rel_at R 9 (by decide)).trans w.b.1
  have H := loop_up (body := x3_longestRowOfSleepers_l6 p) (fuel := 1000) (n := nB st) (fun i => ((lrS st i).1, (lrS st i).2, I i)) (fun _ => putH g p h) (t := (lrS st (nB st)).1) (g1 := putH g p h) (fun i hi => by
    unfold x3_longestRowOfSleepers_l6 x3_longestRowOfSleepers_j30_6
    dsimp only
    rw [H_getI (by decide), gb_s, cn_lt e9 (by omega) hi, H_isO, gb_s, c_sleeperIn w R, cb_s, lrS]
    dsimp only
    by_cases h1 : inB st (I i) = -1
    · simp only [if_pos h1, I_succ]
    · simp only [if_neg h1, I_succ]) (by
    unfold x3_longestRowOfSleepers_l6
    dsimp only
    rw [H_getI (by decide), gb_s, cn_ge e9 (by omega)]) (by omega)
  rw [show loopX (x3_longestRowOfSleepers_l6 p) 1000 (0, 0, 0) (putH g p h) = _ from H, cb_s]
theorem s_longest (w : Ws (r.2 1)) : x9_longestRow m (putR g m r) = some ((lrS (r.2 1) (nB (r.2 1))).1, putR g m (RS_setF r 6 0)) := by
  have hb0 := w.b.2
  unfold x9_longestRow
  rw [R_putI rfl, gb_s]
  have w' : Ws ((RS_setF r 6 0).2 1) := w
  have e9 : (RS_setF r 6 0).2 1 9 = I (nB (r.2 1)) := w.b.1
  have H := loop_up (body := x9_longestRow_l11 m) (fuel := 1000) (n := nB (r.2 1)) (fun i => ((lrS (r.2 1) i).1, (lrS (r.2 1) i).2, I i)) (fun _ => putR g m (RS_setF r 6 0)) (t := (lrS (r.2 1) (nB (r.2 1))).1) (g1 := putR g m (RS_setF r 6 0)) (fun i hi => by
    unfold x9_longestRow_l11 x9_longestRow_j38_11
    dsimp only
    rw [R_getR rfl, gb_s, R_s (k := 9) (x := 9) rfl (by decide), gb_s, cn_lt e9 (by omega) hi, R_isO, gb_s, s_inBunk w', cb_s, lrS]
    show (if inB (r.2 1) (I i) = -1 then _ else _) = _
    dsimp only
    by_cases h1 : inB (r.2 1) (I i) = -1
    · simp only [if_pos h1, I_succ]
    · simp only [if_neg h1, I_succ]) (by
    unfold x9_longestRow_l11
    dsimp only
    rw [R_getR rfl, gb_s, R_s (k := 9) (x := 9) rfl (by decide), gb_s, cn_ge e9 (by omega)]) (by omega)
  rw [show loopX (x9_longestRow_l11 m) 1000 (0, 0, 0) (putR g m (RS_setF r 6 0)) = _ from H, cb_s]
end Srch
