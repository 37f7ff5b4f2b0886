/-! searches: the pile -/
def onP (st : St) (b : Nat) : Bool := decide (hw st 5 (I b) = -1)
def rkP (st : St) (b o : Nat) : Bool := onP st o && (decide (st (25 + b) < st (25 + o)) || (decide (st (25 + o) = st (25 + b)) && decide (o < b)))
def rkS (st : St) (b : Nat) : Int32 := sm (fun o => if rkP st b o = true then 1 else 0) (nL st)
def barP (st : St) (x : Int32) (b : Nat) : Bool := onP st b && decide (rkS st b = x)
def fit (st : St) (i b : Nat) : Bool := onP st b && decide (hk st i 0 ≤ wB st i + st (25 + b))
def fS (st : St) (i : Nat) : Nat → Option Nat
  | 0 => none
  | n + 1 => if fit st i n = true then (match fS st i n with
    | none => some n
    | some b => if st (25 + n) < st (25 + b) then some n else some b) else fS st i n
theorem fS_lt {st : St} {i : Nat} : ∀ {n b : Nat}, fS st i n = some b → b < n := by
  intro n
  induction n with
  | zero => intro b h; cases h
  | succ n ih =>
    intro b h
    rw [fS] at h
    by_cases h1 : fit st i n = true
    · rw [if_pos h1] at h
      cases h2 : fS st i n with
      | none =>
        rw [h2] at h
        cases h
        omega
      | some c =>
        rw [h2] at h
        dsimp only at h
        have := ih h2
        by_cases h3 : st (25 + n) < st (25 + c)
        · rw [if_pos h3] at h; cases h; omega
        · rw [if_neg h3] at h; cases h; omega
    · rw [if_neg h1] at h
      have := ih h
      omega
theorem thick_b {st : St} {S C D O b : Nat} (h : Bl S C D O st) (hb : b < 12) : B0 (st (25 + b)) 9 := by
  refine h.get0 (by omega) ?_
  rw [lim_g (by omega)]
  unfold limG
  split
  all_goals first | omega | rfl | skip
  rw [if_neg (by omega), if_pos (by omega)]
theorem high_b {st : St} {S C D O b : Nat} (h : Bl S C D O st) (hb : b < 12) : B0 (st (13 + b)) 5 := by
  refine h.get0 (by omega) ?_
  rw [lim_g (by omega)]
  unfold limG
  split
  all_goals first | omega | rfl | skip
  rw [if_pos (by omega)]
theorem fore_b {st : St} {S C D O b : Nat} (h : Bl S C D O st) (hb : b < 12) : B0 (st (37 + b)) 20 := by
  refine h.get0 (by omega) ?_
  rw [lim_g (by omega)]
  unfold limG
  split
  all_goals first | omega | rfl | skip
  rw [if_neg (by omega), if_neg (by omega)]
theorem ins_b {st : St} {S C D O : Nat} (w : Ws st) (h : Bl S C D O st) : B0 (ins st) 44 := by
  obtain ⟨h3, h4, h5⟩ := w.f
  have hm : nT st % nF st < 12 := Nat.lt_of_lt_of_le (Nat.mod_lt _ h4) h5
  obtain ⟨x, x1, x2⟩ := fore_b h hm
  obtain ⟨y, y1, y2⟩ := h.get0 (k := 2) (x := 24) (by decide) rfl
  unfold ins
  rw [x2, y2, I_add]
  exact ⟨_, by omega, rfl⟩
theorem wB_b {st : St} {S C D O i : Nat} (w : Ws st) (h : Bl S C D O st) (hi : i < 10) : B0 (wB st i) 51 := by
  obtain ⟨x, x1, x2⟩ := ins_b w h
  unfold wB
  by_cases hb : hk st i 4 = -1
  · rw [if_pos hb, x2]; exact ⟨x, by omega, rfl⟩
  · obtain ⟨b, b1, b2, b3, b4⟩ := w.bunk hi hb
    obtain ⟨y, y1, y2⟩ := high_b h b1
    rw [if_neg hb, b4, x2, y2]
    have hn : ∀ c, B0 (near st c) 1 := fun c => by
      unfold near
      split
      · exact ⟨0, by decide, rfl⟩
      · exact ⟨1, by decide, rfl⟩
    obtain ⟨z, z1, z2⟩ := hn (hk st i 4 - 1)
    obtain ⟨t, t1, t2⟩ := hn (hk st i 4 + 1)
    rw [z2, t2, I_add, I_add, I_add]
    exact ⟨_, by omega, rfl⟩
theorem sub_cancel (a b : Int32) : a + b - b = a := Int32.add_sub_cancel a b
/-- what is wanting of a blanket -/
theorem lack_lt {n w t : Nat} (hn : n < 2 ^ 29) (hw : w < 2 ^ 29) (ht : t < 2 ^ 29) : I t < I n - I w ↔ ¬ I n ≤ I w + I t := by
  rw [Int32.lt_iff_toInt_lt, Is_int (by omega) (by omega), I_int (by omega), I_add, I_le (by omega) (by omega)]
  omega
section Pile
variable {g : AH} {p m : Nat} {h : HS} {st : St} {r : RS}
theorem c_pileRank (w : Ws st) (R : Rel st h) {b : Nat} (hb : b < nL st) : x3_pileRankOf p (I b) (putH g p h) = some (rkS st b, putH g p h) := by
  have hl0 := w.l.2
  have e10 : h.1 10 = I (nL st) := (Rel_at R 10 (by decide)).trans w.l.1
  unfold x3_pileRankOf rkS
  have hs : ∀ i, i < nL st → ∀ a, x3_pileRankOf_l4 p (I b) (a, I i) (putH g p h) = some (.inl (a + (if rkP st b i = true then 1 else 0), I (i + 1)), putH g p h) := by
    intro i hi a
    unfold x3_pileRankOf_l4 x3_pileRankOf_j47_4 x3_pileRankOf_j51_4 x3_pileRankOf_j52_4 x3_pileRankOf_j71_4
    dsimp only
    have ai : aldI 0 (putH g p h) (p + 2) (I i) = some (st (25 + i)) := by rw [H_ald (d := 2) (k := i) (by decide) (by decide) rfl (by show _ < 12; omega), R.2.1.2.1 i hi]
    have ab : aldI 0 (putH g p h) (p + 2) (I b) = some (st (25 + b)) := by rw [H_ald (d := 2) (k := b) (by decide) (by decide) rfl (by show _ < 12; omega), R.2.1.2.1 b hb]
    rw [H_getI (by decide), gb_s, cn_lt e10 (by omega) hi]
    repeat first | rw [gb_s] | rw [H_getR (d := 2) rfl (by decide) (by decide)] | rw [ai] | rw [ab]
    rw [H_isO, gb_s, c_userOfBlanket w R, cb_s, if_neg (show ¬ (1 : Int32) = 0 by decide), if_pos (rfl : (0 : Int32) = 0)]
    have hp : rkP st b i = (onP st i && (decide (st (25 + b) < st (25 + i)) || (decide (st (25 + i) = st (25 + b)) && decide (i < b)))) := rfl
    have ho : onP st i = decide (hw st 5 (I i) = -1) := rfl
    rw [hp, ho]
    by_cases h1 : hw st 5 (I i) = -1
    · rw [if_pos h1]
      by_cases h2 : st (25 + b) < st (25 + i)
      · rw [if_pos h2, I_succ]; simp [h1, h2]
      · rw [if_neg h2]
        by_cases h3 : st (25 + i) = st (25 + b)
        · rw [if_pos h3]
          by_cases h4 : I b ≤ I i
          · have h5 : ¬ i < b := by rw [I_le (by omega) (by omega)] at h4; omega
            rw [if_pos h4, I_succ]; simp [h2, h5, Int32.add_zero]
          · have h5 : i < b := by rw [I_le (by omega) (by omega)] at h4; omega
            rw [if_neg h4, I_succ]; simp [h1, h3, h5]
        · rw [if_neg h3, I_succ]; simp [h2, h3, Int32.add_zero]
    · rw [if_neg h1, ite_self, ite_self, ite_self, I_succ]; simp [h1, Int32.add_zero]
  have he : ∀ a, x3_pileRankOf_l4 p (I b) (a, I (nL st)) (putH g p h) = some (.inr a, putH g p h) := by
    intro a
    unfold x3_pileRankOf_l4
    dsimp only
    rw [H_getI (by decide), gb_s, cn_ge e10 (by omega)]
  rw [loop_sum (fun o => if rkP st b o = true then 1 else 0) hs he (by omega), cb_s]
theorem s_isOnPile (w : Ws (r.2 1)) (b : Nat) : x9_isOnPile m (I b) (putR g m r) = some (bI (onP (r.2 1) b), putR g m r) := by
  unfold x9_isOnPile onP
  rw [R_isO, gb_s, s_hikerWith w (f := 5) (x := 5) rfl (by decide), cb_s]
  by_cases h : hw (r.2 1) 5 (I b) = -1
  · rw [if_pos h]; simp [h, bI]
  · rw [if_neg h]; simp [h, bI]
theorem s_rankOnPile (w : Ws (r.2 1)) {S C D O : Nat} (bd : Bl S C D O (r.2 1)) {b : Nat} (hb : b < nL (r.2 1)) : x9_rankOnPile m (I b) (putR g m r) = some (rkS (r.2 1) b, putR g m r) := by
  have hl0 := w.l.2
  unfold x9_rankOnPile rkS
  have hs : ∀ i, i < nL (r.2 1) → ∀ a, x9_rankOnPile_l4 m (I b) (a, I i) (putR g m r) = some (.inl (a + (if rkP (r.2 1) b i = true then 1 else 0), I (i + 1)), putR g m r) := by
    intro i hi a
    obtain ⟨x, x1, x2⟩ := thick_b bd (b := i) (by omega)
    obtain ⟨y, y1, y2⟩ := thick_b bd (b := b) (by omega)
    unfold x9_rankOnPile_l4 x9_rankOnPile_j60_4 x9_rankOnPile_j64_4 x9_rankOnPile_j65_4
    dsimp only
    rw [R_getR rfl, gb_s, R_s (k := 10) (x := 10) rfl (by decide), gb_s, cn_lt w.l.1 (by omega) hi, gb_s, R_s (k := 25 + i) (x := 25 + I i) (by rw [← I_add]; rfl) (by omega), gb_s, gb_s, R_s (k := 25 + b) (x := 25 + I b) (by rw [← I_add]; rfl) (by omega), gb_s, R_isO, gb_s, s_isOnPile w, cb_s]
    have hp : rkP (r.2 1) b i = (onP (r.2 1) i && (decide (r.2 1 (25 + b) < r.2 1 (25 + i)) || (decide (r.2 1 (25 + i) = r.2 1 (25 + b)) && decide (i < b)))) := rfl
    rw [hp, x2, y2]
    have e1 := d_pos (a := x) (b := y) (by omega) (by omega)
    have e2 := d_zero (a := x) (b := y) (by omega) (by omega)
    by_cases h1 : onP (r.2 1) i = true
    · rw [if_neg (by rw [bI_z, h1]; decide)]
      by_cases h2 : I y < I x
      · rw [if_pos (e1.mpr h2), I_succ]; simp [h1, h2]
      · rw [if_neg (fun hc => h2 (e1.mp hc))]
        by_cases h3 : I x = I y
        · rw [if_pos (e2.mpr h3)]
          by_cases h4 : I b ≤ I i
          · have h5 : ¬ i < b := by rw [I_le (by omega) (by omega)] at h4; omega
            rw [if_pos h4, I_succ]; simp [h2, h5, Int32.add_zero]
          · have h5 : i < b := by rw [I_le (by omega) (by omega)] at h4; omega
            rw [if_neg h4, I_succ]; simp [h1, h3, h5]
        · rw [if_neg (fun hc => h3 (e2.mp hc)), I_succ]; simp [h2, h3, Int32.add_zero]
    · rw [if_pos ((bI_z _).mpr (by simpa using h1)), I_succ]; simp [h1, Int32.add_zero]
  have he : ∀ a, x9_rankOnPile_l4 m (I b) (a, I (nL (r.2 1))) (putR g m r) = some (.inr a, putR g m r) := by
    intro a
    unfold x9_rankOnPile_l4
    dsimp only
    rw [R_getR rfl, gb_s, R_s (k := 10) (x := 10) rfl (by decide), gb_s, cn_ge w.l.1 (by omega)]
  rw [loop_sum (fun o => if rkP (r.2 1) b o = true then 1 else 0) hs he (by omega), cb_s]
theorem c_blanketAtRank (w : Ws st) (R : Rel st h) (x : Int32) : x3_blanketAtRank p x (putH g p h) = some (oI (ff (barP st x) (nL st)), putH g p h) := by
  have hl0 := w.l.2
  have e10 : h.1 10 = I (nL st) := (Rel_at R 10 (by decide)).trans w.l.1
  unfold x3_blanketAtRank
  have hs : ∀ i, i < nL st → barP st x i = false → x3_blanketAtRank_l2 p x (I i) (putH g p h) = some (.inl (I (i + 1)), putH g p h) := by
    intro i hi hp
    unfold x3_blanketAtRank_l2 x3_blanketAtRank_j30_2
    rw [H_getI (by decide), gb_s, cn_lt e10 (by omega) hi, H_isO, gb_s, c_userOfBlanket w R, cb_s]
    by_cases h1 : hw st 5 (I i) = -1
    · rw [if_pos h1, H_isO, gb_s, c_pileRank w R hi, cb_s, if_neg (fun hc => by simp [barP, onP, h1, hc] at hp), I_succ]
    · rw [if_neg h1, I_succ]
  have hy : ∀ i, i < nL st → barP st x i = true → x3_blanketAtRank_l2 p x (I i) (putH g p h) = some (.inr (.inr (I i)), putH g p h) := by
    intro i hi hp
    unfold barP onP at hp
    rw [Bool.and_eq_true] at hp
    unfold x3_blanketAtRank_l2
    rw [H_getI (by decide), gb_s, cn_lt e10 (by omega) hi, H_isO, gb_s, c_userOfBlanket w R, cb_s, if_pos (of_decide_eq_true hp.1), H_isO, gb_s, c_pileRank w R hi, cb_s, if_pos (of_decide_eq_true hp.2)]
  have he : x3_blanketAtRank_l2 p x (I (nL st)) (putH g p h) = some (.inr (.inl ()), putH g p h) := by
    unfold x3_blanketAtRank_l2
    rw [H_getI (by decide), gb_s, cn_ge e10 (by omega)]
  rw [loop_find (barP st x) (fun k => .inr (I k)) hs hy he (by omega), cb_s]
  cases ff (barP st x) (nL st) <;> rfl
/-- the answer of a reference's call: the value and what it says of a throw -/
def ansO (r : RS) (o : Option Nat) : Int32 × RS := match o with
  | some k => (I k, RS_setF r 6 0)
  | none => (0, RS_setF r 6 1)
theorem RSF_two {r : RS} {k : Nat} {v v1 : Int32} : RS_setF (RS_setF r k v) k v1 = RS_setF r k v1 := by
  refine Prod.ext (funext fun j => ?_) rfl
  show upd (upd r.1 k v) k v1 j = upd r.1 k v1 j
  by_cases hj : j = k
  · rw [hj, upd_at, upd_at]
  · rw [upd_ne hj, upd_ne hj, upd_ne hj]
theorem s_fail (v : Int32) : x9_fail m v (putR g m r) = some (0, putR g m (RS_setF r 6 v)) := by
  unfold x9_fail
  rw [R_putI rfl, gb_s]
theorem s_blanketOnPile (w : Ws (r.2 1)) {S C D O : Nat} (bd : Bl S C D O (r.2 1)) (x : Int32) : x9_blanketOnPile m x (putR g m r) = some ((ansO r (ff (barP (r.2 1) x) (nL (r.2 1)))).1, putR g m (ansO r (ff (barP (r.2 1) x) (nL (r.2 1)))).2) := by
  have hl0 := w.l.2
  have w' : Ws ((RS_setF r 6 0).2 1) := w
  have e10 : (RS_setF r 6 0).2 1 10 = I (nL (r.2 1)) := w.l.1
  have bd' : Bl S C D O ((RS_setF r 6 0).2 1) := bd
  unfold x9_blanketOnPile
  rw [R_putI rfl, gb_s]
  have hs : ∀ i, i < nL (r.2 1) → barP (r.2 1) x i = false → x9_blanketOnPile_l7 m x (I i) (putR g m (RS_setF r 6 0)) = some (.inl (I (i + 1)), putR g m (RS_setF r 6 0)) := by
    intro i hi hp
    unfold x9_blanketOnPile_l7 x9_blanketOnPile_j37_7
    rw [R_getR rfl, gb_s, R_s (k := 10) (x := 10) rfl (by decide), gb_s, cn_lt e10 (by omega) hi, R_isO, gb_s, s_isOnPile w', cb_s]
    show (if bI (onP (r.2 1) i) = 0 then _ else _) = _
    by_cases h1 : onP (r.2 1) i = true
    · rw [if_neg (by rw [bI_z, h1]; decide), R_isO, gb_s, s_rankOnPile w' bd' hi, cb_s]
      show (if rkS (r.2 1) i = x then _ else _) = _
      rw [if_neg (fun hc => by simp [barP, h1, hc] at hp), I_succ]
    · rw [if_pos ((bI_z _).mpr (by simpa using h1)), I_succ]
  have hy : ∀ i, i < nL (r.2 1) → barP (r.2 1) x i = true → x9_blanketOnPile_l7 m x (I i) (putR g m (RS_setF r 6 0)) = some (.inr (.inr (I i)), putR g m (RS_setF r 6 0)) := by
    intro i hi hp
    unfold barP at hp
    rw [Bool.and_eq_true] at hp
    unfold x9_blanketOnPile_l7
    rw [R_getR rfl, gb_s, R_s (k := 10) (x := 10) rfl (by decide), gb_s, cn_lt e10 (by omega) hi, R_isO, gb_s, s_isOnPile w', cb_s]
    show (if bI (onP (r.2 1) i) = 0 then _ else _) = _
    rw [if_neg (by rw [bI_z, hp.1]; decide), R_isO, gb_s, s_rankOnPile w' bd' hi, cb_s]
    show (if rkS (r.2 1) i = x then _ else _) = _
    rw [if_pos (of_decide_eq_true hp.2)]
  have he : x9_blanketOnPile_l7 m x (I (nL (r.2 1))) (putR g m (RS_setF r 6 0)) = some (.inr (.inl ()), putR g m (RS_setF r 6 0)) := by
    unfold x9_blanketOnPile_l7
    rw [R_getR rfl, gb_s, R_s (k := 10) (x := 10) rfl (by decide), gb_s, cn_ge e10 (by omega)]
  rw [loop_find (barP (r.2 1) x) (fun k => .inr (I k)) hs hy he (by omega), cb_s]
  cases ff (barP (r.2 1) x) (nL (r.2 1)) with
  | some k => rfl
  | none =>
    show gb (isO 9 (putR g m (RS_setF r 6 0)) m) _ = _
    rw [R_isO, gb_s, s_fail, cb_s, RSF_two]
    rfl
theorem c_lack {i : Nat} (hi : i < 10) : x1_lack (p + (7 + 2 * i)) (putH g p h) = some (h.2.2.1 i 0 - (h.2.2.1 i 7 - h.2.2.1 i 6), putH g p h) := by
  unfold x1_lack
  rw [K_getI hi (by decide), gb_s, K_getI hi (by decide), gb_s, K_getI hi (by decide), gb_s]
theorem lack_eq (R : Rel st h) (M : Meas st h) {i : Nat} (hi : i < nH st) : h.2.2.1 i 0 - (h.2.2.1 i 7 - h.2.2.1 i 6) = hk st i 0 - wB st i := by
  rw [R.2.2.1 i hi 0 (by decide), (M.1 i hi).1, (M.1 i hi).2]
  unfold wN
  rw [sub_cancel]
theorem c_fitting (w : Ws st) (R : Rel st h) (M : Meas st h) {S C D O : Nat} (bd : Bl S C D O st) {i : Nat} (hi : i < nH st) : x3_thinnestFitting p (I i) (putH g p h) = some (oI (fS st i (nL st)), putH g p h) := by
  have hl0 := w.l.2
  have hi0 : i < 10 := by have := w.h.2; omega
  have e10 : h.1 10 = I (nL st) := (Rel_at R 10 (by decide)).trans w.l.1
  obtain ⟨x, x1, x2⟩ := bd.fld (i := i) (f := 0) hi0 (by decide) rfl
  obtain ⟨y, y1, y2⟩ := wB_b w bd hi0
  unfold x3_thinnestFitting
  rw [H_getR (d := 6) rfl (by decide) (by decide), gb_s, H_hik hi0, gb_s, K_isO hi0, gb_s, c_lack hi0, cb_s, lack_eq R M hi]
  have H := loop_up (body := x3_thinnestFitting_l15 p (hk st i 0 - wB st i)) (fuel := 1000) (n := nL st) (fun j => (oI (fS st i j), I j)) (fun _ => putH g p h) (t := oI (fS st i (nL st))) (g1 := putH g p h) (fun j hj => by
    obtain ⟨z, z1, z2⟩ := thick_b bd (b := j) (by omega)
    have hlt : st (25 + j) < hk st i 0 - wB st i ↔ ¬ hk st i 0 ≤ wB st i + st (25 + j) := by
      rw [z2, x2, y2]
      exact lack_lt (by omega) (by omega) (by omega)
    unfold x3_thinnestFitting_l15 x3_thinnestFitting_j66_15 x3_thinnestFitting_j69_15
    dsimp only
    rw [H_getI (by decide), gb_s, cn_lt e10 (by omega) hj, H_getR (d := 2) rfl (by decide) (by decide), gb_s, H_ald (d := 2) (k := j) (by decide) (by decide) rfl (by show _ < 12; omega), gb_s, R.2.1.2.1 j hj, fS]
    by_cases h1 : st (25 + j) < hk st i 0 - wB st i
    · have h2 : ¬ fit st i j = true := by
        unfold fit
        simp [hlt.mp h1]
      rw [if_pos h1, if_neg h2, I_succ]
    · have h1' := Decidable.not_not.mp (fun hc => h1 (hlt.mpr hc))
      rw [if_neg h1, H_isO, gb_s, c_userOfBlanket w R, cb_s]
      by_cases h3 : hw st 5 (I j) = -1
      · have h2 : fit st i j = true := by unfold fit onP; simp [h1', h3]
        rw [if_pos h3, if_pos h2]
        cases h4 : fS st i j with
        | none => rw [if_pos (show oI none = -1 from rfl), I_succ]; rfl
        | some b =>
          have hb := fS_lt h4
          dsimp only
          rw [if_neg (show ¬ oI (some b) = -1 from I_ne_neg (by omega)), H_getR (d := 2) rfl (by decide) (by decide), gb_s, show oI (some b) = I b from rfl, H_ald (d := 2) (k := j) (by decide) (by decide) rfl (by show _ < 12; omega), gb_s, gb_s, H_ald (d := 2) (k := b) (by decide) (by decide) rfl (by show _ < 12; omega), gb_s, R.2.1.2.1 j hj, R.2.1.2.1 b (by omega)]
          by_cases h5 : st (25 + b) ≤ st (25 + j)
          · rw [if_pos h5, if_neg (Int32.not_lt.mpr h5), I_succ]; rfl
          · rw [if_neg h5, if_pos (Int32.not_le.mp h5), I_succ]; rfl
      · have h2 : ¬ fit st i j = true := by unfold fit onP; simp [h3]
        rw [if_neg h3, if_neg h2, I_succ]) (by
    unfold x3_thinnestFitting_l15
    dsimp only
    rw [H_getI (by decide), gb_s, cn_ge e10 (by omega)]) (by omega)
  rw [show loopX (x3_thinnestFitting_l15 p (hk st i 0 - wB st i)) 1000 (-1, 0) (putH g p h) = _ from H, cb_s]
theorem s_fittingL (w : Ws (r.2 1)) {i : Nat} (hi : i < nH (r.2 1)) : loopX (x9_fittingBlanket_l23 m (I i)) 1000 (-1, 0) (putR g m r) = some (oI (fS (r.2 1) i (nL (r.2 1))), putR g m r) := by
  have hl0 := w.l.2
  have hi0 : i < 10 := by have := w.h.2; omega
  exact loop_up (body := x9_fittingBlanket_l23 m (I i)) (fuel := 1000) (n := nL (r.2 1)) (fun j => (oI (fS (r.2 1) i j), I j)) (fun _ => putR g m r) (t := oI (fS (r.2 1) i (nL (r.2 1)))) (g1 := putR g m r) (fun j hj => by
    unfold x9_fittingBlanket_l23 x9_fittingBlanket_j74_23 x9_fittingBlanket_j75_23 x9_fittingBlanket_j101_23 x9_fittingBlanket_j105_23 x9_fittingBlanket_j106_23
    dsimp only
    rw [R_getR rfl, gb_s, R_s (k := 10) (x := 10) rfl (by decide), gb_s, cn_lt w.l.1 (by omega) hj, gb_s, R_s (k := 25 + j) (x := 25 + I j) (by rw [← I_add]; rfl) (by omega), gb_s, R_isO, gb_s, s_isOnPile w, cb_s, R_isO, gb_s, s_warmthBare w hi0, cb_s, R_isO, gb_s, s_get (f := 0) (x := 0) rfl hi0 (by decide), cb_s, if_pos (rfl : (0 : Int32) = 0), if_neg (show ¬ (1 : Int32) = 0 by decide), fS]
    show (if bI (onP (r.2 1) j) = 0 then _ else if wB (r.2 1) i + r.2 1 (25 + j) < hk (r.2 1) i 0 then _ else _) = _
    by_cases h3 : onP (r.2 1) j = true
    · rw [if_neg (by rw [bI_z, h3]; decide)]
      by_cases h1 : wB (r.2 1) i + r.2 1 (25 + j) < hk (r.2 1) i 0
      · have h2 : ¬ fit (r.2 1) i j = true := by
          unfold fit
          simp [Int32.not_le.mpr h1]
        rw [if_pos h1, if_neg h2, I_succ]
      · have h2 : fit (r.2 1) i j = true := by
          unfold fit
          simp [Int32.not_lt.mp h1, h3]
        rw [if_neg h1, if_pos h2]
        cases h4 : fS (r.2 1) i j with
        | none => rw [if_pos (show oI none = -1 from rfl), I_succ]; rfl
        | some b =>
          have hb := fS_lt h4
          dsimp only
          rw [if_neg (show ¬ oI (some b) = -1 from I_ne_neg (by omega)), R_getR rfl, gb_s, show oI (some b) = I b from rfl, R_s (k := 25 + b) (x := 25 + I b) (by rw [← I_add]; rfl) (by omega), gb_s]
          by_cases h5 : r.2 1 (25 + b) ≤ r.2 1 (25 + j)
          · rw [if_pos h5, if_neg (Int32.not_lt.mpr h5), I_succ]; rfl
          · rw [if_neg h5, if_pos (Int32.not_le.mp h5), I_succ]; rfl
    · have h2 : ¬ fit (r.2 1) i j = true := by unfold fit; simp [h3]
      rw [if_pos ((bI_z _).mpr (by simpa using h3)), if_neg h2, I_succ]) (by
    unfold x9_fittingBlanket_l23
    dsimp only
    rw [R_getR rfl, gb_s, R_s (k := 10) (x := 10) rfl (by decide), gb_s, cn_ge w.l.1 (by omega)]) (by omega)
end Pile
