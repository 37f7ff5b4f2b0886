/-! the reference's actions -/
def shF (p : Nat → Int32) (i : Nat) : Nat → Int32 := fun j => if j < i then p (j + 149) else p j
def recP (r : RS) : Nat → Int32 := if r.1 5 = 6 then shF (r.2 3) 745 else r.2 3
def recN (r : RS) : Int32 := if r.1 5 = 6 then 5 else r.1 5
def recS (r : RS) : RS := RS_setF (RS_setA r 3 (cpF (r.2 1) (recP r) 0 (149 * kN (recN r)) 149)) 5 (recN r + 1)
/-- which exception of its list a call throws -/
def tcA (f : Int32) : Int32 := if f = 1 then 1 else 2
def tcB (f : Int32) : Int32 := if f = 2 then 1 else 2
section SAct
variable {g : AH} {m : Nat} {r : RS} {st : St}
theorem RSF_A {k d : Nat} {v : Int32} {z : Nat → Int32} : RS_setF (RS_setA r d z) k v = RS_setA (RS_setF r k v) d z := rfl
theorem s_record52 {a : Nat} (ha : a < 6) (h5 : r.1 5 = I a) : x9_record_j52 m (putR g m r) = some ((), putR g m (RS_setF (RS_setA r 3 (cpF (r.2 1) (r.2 3) 0 (149 * a) 149)) 5 (I (a + 1)))) := by
  unfold x9_record_j52
  rw [R_getR (d := 1) rfl, gb_s, R_getR (d := 3) rfl, gb_s, R_getI rfl, gb_s, h5, show (149 : Int32) * I a = I (149 * a) from I_mul 149 a, show (0 : Int32) = I 0 from rfl, s_copy (da := 1) (db := 3) (F := 0) (T := 149 * a) (by decide) (by decide) (by decide) (by decide) (by decide) rfl rfl (by decide) (by show _ ≤ 894; omega), cb_s, R_getI rfl, gb_s]
  rw [show (RS_setA r 3 (cpF (r.2 1) (r.2 3) 0 (149 * a) 149)).1 5 = I a from h5, I_succ, R_putI rfl, gb_s]
theorem s_record {a : Nat} (ha : a ≤ 6) (h5 : r.1 5 = I a) : x9_record m (putR g m r) = some ((), putR g m (recS r)) := by
  unfold x9_record recS recP recN
  rw [R_getI rfl, gb_s]
  by_cases h6 : a = 6
  · have e6 : r.1 5 = 6 := by rw [h5, h6]; rfl
    rw [if_pos e6, if_pos e6, if_pos e6]
    have e149 : ∀ i, I (149 + i) - 149 = I i := fun i => by
      have h : I (149 + i) - I 149 = I (149 + i - 149) := I_sub (by omega)
      rw [Nat.add_sub_cancel_left] at h
      exact h
    have H := loop_up (body := x9_record_l13 m) (fuel := 1000) (n := 745) (fun i => I (149 + i)) (fun i => putR g m (RS_setA r 3 (shF (r.2 3) i))) (t := ()) (g1 := putR g m (RS_setA r 3 (shF (r.2 3) 745))) (fun i hi => by
      unfold x9_record_l13
      have hr : (RS_setA r 3 (shF (r.2 3) i)).2 3 = shF (r.2 3) i := RS_at
      rw [if_neg (by rw [show (894 : Int32) = I 894 from rfl, I_le (by decide) (by omega)]; omega), R_getR (d := 3) rfl, gb_s, gb_s, R_aldN (d := 3) (t := 0) (by decide) (by decide) rfl (by show _ < 894; omega), gb_s, e149 i, R_astN (d := 3) (t := 0) (by decide) (by decide) rfl (by show _ < 894; omega), gb_s, RS_set2, hr, I_succ]
      congr 3
      refine congrArg (RS_setA r 3) (funext fun j => ?_)
      show (if j = i then shF (r.2 3) i (149 + i) else shF (r.2 3) i j) = shF (r.2 3) (i + 1) j
      unfold shF
      by_cases hj : j = i
      · rw [if_pos hj, if_neg (by omega), if_pos (by omega), hj, Nat.add_comm]
      · rw [if_neg hj]
        by_cases hj2 : j < i
        · rw [if_pos hj2, if_pos (by omega)]
        · rw [if_neg hj2, if_neg (by omega)]) (by
      unfold x9_record_l13
      rw [if_pos (by decide)]) (by decide)
    have e0 : RS_setA r 3 (shF (r.2 3) 0) = r := by
      have : shF (r.2 3) 0 = r.2 3 := funext fun j => if_neg (by omega)
      rw [this]
      exact RS_self
    rw [e0] at H
    rw [show loopX (x9_record_l13 m) 1000 149 (putR g m r) = _ from H, cb_s, R_getI rfl, gb_s, show (RS_setA r 3 (shF (r.2 3) 745)).1 5 = 6 from e6, R_putI rfl, gb_s, show (6 : Int32) - 1 = I 5 from rfl, s_record52 (a := 5) (by decide) (RSF_at _ _ _)]
    refine congrArg (fun q => some ((), putR g m q)) ?_
    refine RS_eq (fun k => ?_) (fun d k => ?_)
    · show upd (upd r.1 5 (I 5)) 5 (I (5 + 1)) k = upd r.1 5 (5 + 1) k
      rw [upd_two]
      rfl
    · show (if d = 3 then cpF (r.2 1) (if (3 : Nat) = 3 then shF (r.2 3) 745 else r.2 3) 0 (149 * 5) 149 else if d = 3 then shF (r.2 3) 745 else r.2 d) k = (if d = 3 then cpF (r.2 1) (shF (r.2 3) 745) 0 (149 * kN 5) 149 else r.2 d) k
      by_cases hd : d = 3
      · rw [if_pos hd, if_pos hd]
        rfl
      · rw [if_neg hd, if_neg hd, if_neg hd]
  · have e6 : ¬ r.1 5 = 6 := fun hc => h6 ((I_eq (by omega) (by decide)).mp (h5.symm.trans hc))
    rw [if_neg e6, if_neg e6, if_neg e6, s_record52 (a := a) (by omega) h5, h5, show kN (I a) = a from I_nat (by omega), I_succ]
theorem recS_D (r0 : RS) : putR g m (recS r0) = putR g m (RD (recS r0) (r0.2 1) (r0.2 6)) := by
  have h1 : (recS r0).2 1 = r0.2 1 := rfl
  have h6 : (recS r0).2 6 = r0.2 6 := rfl
  rw [← h1, ← h6, D_self]
theorem s_recD {a : Nat} (ha : a ≤ 6) (h5 : r.1 5 = I a) : x9_record m (putR g m r) = some ((), putR g m (RD (recS r) (r.2 1) (r.2 6))) := by
  rw [s_record ha h5, recS_D]
theorem s_change {a i f : Nat} {x v : Int32} (ha : a ≤ 6) (h5 : r.1 5 = I a) (hx : x = I f) (hi : i < 10) (hf : f < 10) : x9_change m (I i) x v (putR g m r) = some (hk (r.2 1) i f, putR g m (RD (recS r) (upd (r.2 1) (49 + 10 * i + f) v) (r.2 6))) := by
  unfold x9_change
  rw [R_isO, gb_s, s_recD ha h5, cb_s, R_isO, gb_s, D_get hx hi hf, cb_s, R_isO, gb_s, D_set hx hi hf, cb_s]
/-- the state of the reference after an action -/
abbrev pfR (r : RS) (z du : St) : RS := RD (recS (RS_setF r 6 0)) z du
variable {a : Nat} (ha : a ≤ 6) (h5 : r.1 5 = I a)
theorem h50 (h5 : r.1 5 = I a) (v : Int32) : (RS_setF r 6 v).1 5 = I a := (upd_ne (by decide) : upd r.1 6 v 5 = r.1 5).trans h5
theorem s_take (ha : a ≤ 6) (h5 : r.1 5 = I a) (G : Gd (r.2 1)) (i b : Int32) : (ftTake (r.2 1) i b = 0 → x9_takeBlanket m i b (putR g m r) = some (wN (upd (r.2 1) (49 + 10 * kN i + 5) b) (kN i), putR g m (pfR r (upd (r.2 1) (49 + 10 * kN i + 5) b) (r.2 6)))) ∧ (¬ ftTake (r.2 1) i b = 0 → ∃ v, x9_takeBlanket m i b (putR g m r) = some (v, putR g m (RS_setF r 6 (tcA (ftTake (r.2 1) i b))))) := by
  have w := G.1
  have e34 : ∀ c : Int32, ¬ c ≤ 0 → x9_takeBlanket_j34 m i b c m (putR g m r) = some (0, putR g m (RS_setF r 6 c)) := by
    intro c hc
    unfold x9_takeBlanket_j34
    rw [R_putI rfl, gb_s, R_getI rfl, gb_s, RSF_at, if_neg hc]
  unfold x9_takeBlanket x9_takeBlanket_j17
  rw [R_isO, gb_s, s_isHiker, cb_s, e34 1 (by decide)]
  by_cases h1 : isH (r.2 1) i = true
  · obtain ⟨x, x1, x2, x3, x4⟩ := isH_ex w h1
    have hb1 : ¬ bI (isH (r.2 1) i) = 0 := by rw [bI_z, h1]; decide
    rw [if_neg hb1, R_isO, gb_s, s_isBlanket, cb_s]
    by_cases h2 : isL (r.2 1) b = true
    · obtain ⟨y, y1, y2, y3, y4⟩ := isL_ex w h2
      have hb2 : ¬ bI (isL (r.2 1) b) = 0 := by rw [bI_z, h2]; decide
      have ep : x9_isOnPile m b (putR g m r) = some (bI (onP (r.2 1) y), putR g m r) := by rw [y3]; exact s_isOnPile w y
      rw [if_neg hb2, R_isO, gb_s, ep, cb_s, e34 2 (by decide)]
      by_cases h3 : hw (r.2 1) 5 b = -1
      · have hp : onP (r.2 1) y = true := by unfold onP; rw [← y3]; simpa using h3
        have hb3 : ¬ bI (onP (r.2 1) y) = 0 := by rw [bI_z, hp]; decide
        have ef : ftTake (r.2 1) i b = 0 := by unfold ftTake; rw [if_pos h1, if_pos h2, if_pos h3]
        rw [if_neg hb3, ef]
        refine ⟨fun _ => ?_, fun hc => absurd rfl hc⟩
        have G1 : Gd (upd (r.2 1) (49 + 10 * x + 5) b) := G.up5 (Or.inr ⟨y, y1, y3⟩) (Or.inr (hw_no w.h.2 h3))
        have G1' : Ws (upd ((RS_setF r 6 0).2 1) (49 + 10 * x + 5) b) := G1.1
        unfold x9_takeBlanket_j34
        rw [R_putI rfl, gb_s, R_getI rfl, gb_s, RSF_at, if_pos (by decide), R_isO, gb_s, x4, x3, s_change (f := 5) (x := 5) ha (h50 h5 0) rfl x2 (by decide), cb_s, R_isO, gb_s, D_warmthNow G1' x2, cb_s]
        rfl
      · have hp : onP (r.2 1) y = false := by unfold onP; rw [← y3]; simpa using h3
        have ef : ftTake (r.2 1) i b = 3 := by unfold ftTake; rw [if_pos h1, if_pos h2, if_neg h3]
        rw [if_pos ((bI_z _).mpr hp), ef]
        exact ⟨fun hc => absurd hc (by decide), fun _ => ⟨0, rfl⟩⟩
    · have ef : ftTake (r.2 1) i b = 1 := by unfold ftTake; rw [if_pos h1, if_neg h2]
      have hb2 : bI (isL (r.2 1) b) = 0 := (bI_z _).mpr (by simpa using h2)
      rw [if_pos hb2, e34 1 (by decide), ef]
      exact ⟨fun hc => absurd hc (by decide), fun _ => ⟨0, rfl⟩⟩
  · have ef : ftTake (r.2 1) i b = 1 := by unfold ftTake; rw [if_neg h1]
    have hb1 : bI (isH (r.2 1) i) = 0 := (bI_z _).mpr (by simpa using h1)
    rw [if_pos hb1, ef]
    exact ⟨fun hc => absurd hc (by decide), fun _ => ⟨0, rfl⟩⟩
theorem s_return (ha : a ≤ 6) (h5 : r.1 5 = I a) (w : Ws (r.2 1)) (i : Int32) : (ftReturn (r.2 1) i = 0 → x9_returnBlanket m i (putR g m r) = some (hk (r.2 1) (kN i) 5, putR g m (pfR r (upd (r.2 1) (49 + 10 * kN i + 5) (-1)) (r.2 6)))) ∧ (¬ ftReturn (r.2 1) i = 0 → ∃ v, x9_returnBlanket m i (putR g m r) = some (v, putR g m (RS_setF r 6 (tcA (ftReturn (r.2 1) i))))) := by
  have e28 : ∀ c : Int32, ¬ c ≤ 0 → x9_returnBlanket_j28 m i c m (putR g m r) = some (0, putR g m (RS_setF r 6 c)) := by
    intro c hc
    unfold x9_returnBlanket_j28
    rw [R_putI rfl, gb_s, R_getI rfl, gb_s, RSF_at, if_neg hc]
  unfold x9_returnBlanket
  rw [R_isO, gb_s, s_isHiker, cb_s, e28 1 (by decide)]
  by_cases h1 : isH (r.2 1) i = true
  · obtain ⟨x, x1, x2, x3, x4⟩ := isH_ex w h1
    have hb1 : ¬ bI (isH (r.2 1) i) = 0 := by rw [bI_z, h1]; decide
    have eg : x9_get m i 5 (putR g m r) = some (hk (r.2 1) x 5, putR g m r) := by rw [x3]; exact s_get (f := 5) rfl x2 (by decide)
    rw [if_neg hb1, R_isO, gb_s, eg, cb_s, e28 2 (by decide)]
    by_cases h3 : hk (r.2 1) x 5 = -1
    · have ef : ftReturn (r.2 1) i = 3 := by unfold ftReturn; rw [if_pos h1, x4, if_pos h3]
      rw [if_pos h3, ef]
      exact ⟨fun hc => absurd hc (by decide), fun _ => ⟨0, rfl⟩⟩
    · have ef : ftReturn (r.2 1) i = 0 := by unfold ftReturn; rw [if_pos h1, x4, if_neg h3]
      rw [if_neg h3, ef]
      refine ⟨fun _ => ?_, fun hc => absurd rfl hc⟩
      unfold x9_returnBlanket_j28
      rw [R_putI rfl, gb_s, R_getI rfl, gb_s, RSF_at, if_pos (by decide), R_isO, gb_s, x4, x3, s_change (f := 5) (x := 5) ha (h50 h5 0) rfl x2 (by decide), cb_s]
      rfl
  · have ef : ftReturn (r.2 1) i = 1 := by unfold ftReturn; rw [if_neg h1]
    have hb1 : bI (isH (r.2 1) i) = 0 := (bI_z _).mpr (by simpa using h1)
    rw [if_pos hb1, ef]
    exact ⟨fun hc => absurd hc (by decide), fun _ => ⟨0, rfl⟩⟩
theorem s_rise (ha : a ≤ 6) (h5 : r.1 5 = I a) (w : Ws (r.2 1)) (i : Int32) : (ftRise (r.2 1) i = 0 → x9_getUp m i (putR g m r) = some (hk (r.2 1) (kN i) 4, putR g m (pfR r (upd (r.2 1) (49 + 10 * kN i + 4) (-1)) (r.2 6)))) ∧ (¬ ftRise (r.2 1) i = 0 → ∃ v, x9_getUp m i (putR g m r) = some (v, putR g m (RS_setF r 6 (tcA (ftRise (r.2 1) i))))) := by
  have e28 : ∀ c : Int32, ¬ c ≤ 0 → x9_getUp_j28 m i c m (putR g m r) = some (0, putR g m (RS_setF r 6 c)) := by
    intro c hc
    unfold x9_getUp_j28
    rw [R_putI rfl, gb_s, R_getI rfl, gb_s, RSF_at, if_neg hc]
  unfold x9_getUp
  rw [R_isO, gb_s, s_isHiker, cb_s, e28 1 (by decide)]
  by_cases h1 : isH (r.2 1) i = true
  · obtain ⟨x, x1, x2, x3, x4⟩ := isH_ex w h1
    have hb1 : ¬ bI (isH (r.2 1) i) = 0 := by rw [bI_z, h1]; decide
    have eg : x9_get m i 4 (putR g m r) = some (hk (r.2 1) x 4, putR g m r) := by rw [x3]; exact s_get (f := 4) rfl x2 (by decide)
    rw [if_neg hb1, R_isO, gb_s, eg, cb_s, e28 2 (by decide)]
    by_cases h3 : hk (r.2 1) x 4 = -1
    · have ef : ftRise (r.2 1) i = 3 := by unfold ftRise; rw [if_pos h1, x4, if_pos h3]
      rw [if_pos h3, ef]
      exact ⟨fun hc => absurd hc (by decide), fun _ => ⟨0, rfl⟩⟩
    · have ef : ftRise (r.2 1) i = 0 := by unfold ftRise; rw [if_pos h1, x4, if_neg h3]
      rw [if_neg h3, ef]
      refine ⟨fun _ => ?_, fun hc => absurd rfl hc⟩
      unfold x9_getUp_j28
      rw [R_putI rfl, gb_s, R_getI rfl, gb_s, RSF_at, if_pos (by decide), R_isO, gb_s, x4, x3, s_change (f := 4) (x := 4) ha (h50 h5 0) rfl x2 (by decide), cb_s]
      rfl
  · have ef : ftRise (r.2 1) i = 1 := by unfold ftRise; rw [if_neg h1]
    have hb1 : bI (isH (r.2 1) i) = 0 := (bI_z _).mpr (by simpa using h1)
    rw [if_pos hb1, ef]
    exact ⟨fun hc => absurd hc (by decide), fun _ => ⟨0, rfl⟩⟩
theorem s_lie (ha : a ≤ 6) (h5 : r.1 5 = I a) (G : Gd (r.2 1)) (i b : Int32) : (ftLie (r.2 1) i b = 0 → x9_lieDown m i b (putR g m r) = some (noi (upd (r.2 1) (49 + 10 * kN i + 4) b) b, putR g m (pfR r (upd (r.2 1) (49 + 10 * kN i + 4) b) (r.2 6)))) ∧ (¬ ftLie (r.2 1) i b = 0 → ∃ v, x9_lieDown m i b (putR g m r) = some (v, putR g m (RS_setF r 6 (tcA (ftLie (r.2 1) i b))))) := by
  have w := G.1
  have e34 : ∀ c : Int32, ¬ c ≤ 0 → x9_lieDown_j35 m i b c m (putR g m r) = some (0, putR g m (RS_setF r 6 c)) := by
    intro c hc
    unfold x9_lieDown_j35
    rw [R_putI rfl, gb_s, R_getI rfl, gb_s, RSF_at, if_neg hc]
  unfold x9_lieDown x9_lieDown_j17
  rw [R_isO, gb_s, s_isHiker, cb_s, e34 1 (by decide)]
  by_cases h1 : isH (r.2 1) i = true
  · obtain ⟨x, x1, x2, x3, x4⟩ := isH_ex w h1
    have hb1 : ¬ bI (isH (r.2 1) i) = 0 := by rw [bI_z, h1]; decide
    rw [if_neg hb1, R_isO, gb_s, s_isBunk, cb_s]
    by_cases h2 : isB (r.2 1) b = true
    · obtain ⟨y, y1, y2, y3, y4⟩ := isB_ex w h2
      have hb2 : ¬ bI (isB (r.2 1) b) = 0 := by rw [bI_z, h2]; decide
      rw [if_neg hb2, R_isO, gb_s, s_inBunk w, cb_s, e34 2 (by decide)]
      by_cases h3 : inB (r.2 1) b = -1
      · have ef : ftLie (r.2 1) i b = 0 := by unfold ftLie; rw [if_pos h1, if_pos h2, if_pos h3]
        rw [if_pos h3, ef]
        refine ⟨fun _ => ?_, fun hc => absurd rfl hc⟩
        have G1 : Gd (upd (r.2 1) (49 + 10 * x + 4) b) := G.up4 (Or.inr ⟨y, y1, y3⟩) (Or.inr fun k hk0 _ => inB_no2 h2 h3 k hk0)
        have G1' : Ws (upd ((RS_setF r 6 0).2 1) (49 + 10 * x + 4) b) := G1.1
        unfold x9_lieDown_j35
        rw [R_putI rfl, gb_s, R_getI rfl, gb_s, RSF_at, if_pos (by decide), R_isO, gb_s, x4, x3, s_change (f := 4) (x := 4) ha (h50 h5 0) rfl x2 (by decide), cb_s, R_isO, gb_s, D_noise G1', cb_s]
        rfl
      · have ef : ftLie (r.2 1) i b = 3 := by unfold ftLie; rw [if_pos h1, if_pos h2, if_neg h3]
        rw [if_neg h3, ef]
        exact ⟨fun hc => absurd hc (by decide), fun _ => ⟨0, rfl⟩⟩
    · have ef : ftLie (r.2 1) i b = 1 := by unfold ftLie; rw [if_pos h1, if_neg h2]
      have hb2 : bI (isB (r.2 1) b) = 0 := (bI_z _).mpr (by simpa using h2)
      rw [if_pos hb2, e34 1 (by decide), ef]
      exact ⟨fun hc => absurd hc (by decide), fun _ => ⟨0, rfl⟩⟩
  · have ef : ftLie (r.2 1) i b = 1 := by unfold ftLie; rw [if_neg h1]
    have hb1 : bI (isH (r.2 1) i) = 0 := (bI_z _).mpr (by simpa using h1)
    rw [if_pos hb1, ef]
    exact ⟨fun hc => absurd hc (by decide), fun _ => ⟨0, rfl⟩⟩
theorem s_swap (ha : a ≤ 6) (h5 : r.1 5 = I a) (G : Gd (r.2 1)) (i j : Int32) : (ftSwap (r.2 1) i j = 0 → x9_swapBlankets m i j (putR g m r) = some (cntD (exS (r.2 1) (kN i) (kN j)) 0, putR g m (pfR r (exS (r.2 1) (kN i) (kN j)) (r.2 6)))) ∧ (¬ ftSwap (r.2 1) i j = 0 → ∃ v, x9_swapBlankets m i j (putR g m r) = some (v, putR g m (RS_setF r 6 (tcA (ftSwap (r.2 1) i j))))) := by
  have w := G.1
  have e21 : x9_swapBlankets_j21 m (putR g m (RS_setF r 6 0)) = some (0, putR g m (RS_setF r 6 1)) := by
    unfold x9_swapBlankets_j21
    rw [R_isO, gb_s, s_fail, cb_s, RSF_two]
  have e47 : x9_swapBlankets_j47 m (putR g m (RS_setF r 6 0)) = some (0, putR g m (RS_setF r 6 2)) := by
    unfold x9_swapBlankets_j47
    rw [R_isO, gb_s, s_fail, cb_s, RSF_two]
  unfold x9_swapBlankets
  rw [R_putI rfl, gb_s, R_isO, gb_s, s_isHiker, cb_s, e21]
  by_cases h1 : isH (r.2 1) i = true
  · obtain ⟨x, x1, x2, x3, x4⟩ := isH_ex w h1
    have hb1 : ¬ bI (isH ((RS_setF r 6 0).2 1) i) = 0 := by rw [bI_z, show isH ((RS_setF r 6 0).2 1) i = true from h1]; decide
    rw [if_neg hb1, R_isO, gb_s, s_isHiker, cb_s, e21]
    by_cases h2 : isH (r.2 1) j = true
    · obtain ⟨y, y1, y2, y3, y4⟩ := isH_ex w h2
      have hb2 : ¬ bI (isH ((RS_setF r 6 0).2 1) j) = 0 := by rw [bI_z, show isH ((RS_setF r 6 0).2 1) j = true from h2]; decide
      rw [if_neg hb2, e47]
      by_cases h3 : i = j
      · have ef : ftSwap (r.2 1) i j = 3 := by unfold ftSwap; rw [if_pos h1, if_pos h2, if_pos h3]
        rw [if_pos h3, ef]
        exact ⟨fun hc => absurd hc (by decide), fun _ => ⟨0, rfl⟩⟩
      · have hxy : x ≠ y := fun hc => h3 (by rw [x3, y3, hc])
        have hu := (G.2.1 x y x1 y1 hxy).2
        have ex : x9_get m i 5 (putR g m (RS_setF r 6 0)) = some (hk (r.2 1) x 5, putR g m (RS_setF r 6 0)) := by rw [x3]; exact s_get (f := 5) rfl x2 (by decide)
        have ey : x9_get m j 5 (putR g m (RS_setF r 6 0)) = some (hk (r.2 1) y 5, putR g m (RS_setF r 6 0)) := by rw [y3]; exact s_get (f := 5) rfl y2 (by decide)
        rw [if_neg h3, R_isO, gb_s, ex, cb_s, R_isO, gb_s, ey, cb_s, e47]
        by_cases h4 : hk (r.2 1) x 5 = hk (r.2 1) y 5
        · have h5' : hk (r.2 1) x 5 = -1 := by
            by_cases hc : hk (r.2 1) x 5 = -1
            · exact hc
            · exact absurd h4 (hu hc)
          have ef : ftSwap (r.2 1) i j = 3 := by unfold ftSwap; rw [if_pos h1, if_pos h2, if_neg h3, x4, y4, if_pos ⟨h5', h4.symm.trans h5'⟩]
          rw [if_pos h4, ef]
          exact ⟨fun hc => absurd hc (by decide), fun _ => ⟨0, rfl⟩⟩
        · have ef : ftSwap (r.2 1) i j = 0 := by unfold ftSwap; rw [if_pos h1, if_pos h2, if_neg h3, x4, y4, if_neg (fun hc => h4 (hc.1.trans hc.2.symm))]
          rw [if_neg h4, ef, x4, y4]
          refine ⟨fun _ => ?_, fun hc => absurd rfl hc⟩
          have w1 := (ex_ws w x1 y1).2
          have w1' : Ws (upd (upd ((RS_setF r 6 0).2 1) (49 + 10 * x + 5) (hk ((RS_setF r 6 0).2 1) y 5)) (49 + 10 * y + 5) (hk ((RS_setF r 6 0).2 1) x 5)) := w1
          unfold x9_exchange
          rw [R_isO, gb_s, s_recD ha (h50 h5 0), cb_s, R_isO, gb_s, gb_s, x3, y3, D_get (f := 5) (x := 5) rfl x2 (by decide), cb_s, R_isO, gb_s, D_get (f := 5) (x := 5) rfl y2 (by decide), cb_s, R_isO, gb_s, D_set (f := 5) (x := 5) rfl x2 (by decide), cb_s, R_isO, gb_s, D_set (f := 5) (x := 5) rfl y2 (by decide), cb_s, cb_s, R_isO, gb_s, D_countDeed w1', cb_s]
          rfl
    · have ef : ftSwap (r.2 1) i j = 1 := by unfold ftSwap; rw [if_pos h1, if_neg h2]
      have hb2 : bI (isH ((RS_setF r 6 0).2 1) j) = 0 := (bI_z _).mpr (show isH (r.2 1) j = false by simpa using h2)
      rw [if_pos hb2, ef]
      exact ⟨fun hc => absurd hc (by decide), fun _ => ⟨0, rfl⟩⟩
  · have ef : ftSwap (r.2 1) i j = 1 := by unfold ftSwap; rw [if_neg h1]
    have hb1 : bI (isH ((RS_setF r 6 0).2 1) i) = 0 := (bI_z _).mpr (show isH (r.2 1) i = false by simpa using h1)
    rw [if_pos hb1, ef]
    exact ⟨fun hc => absurd hc (by decide), fun _ => ⟨0, rfl⟩⟩
theorem s_setRate (ha : a ≤ 6) (h5 : r.1 5 = I a) (v : Int32) : (bt v 0 3 = true → x9_setRate m v (putR g m r) = some (r.2 1 1, putR g m (pfR r (upd (r.2 1) 1 v) (r.2 6)))) ∧ (¬ bt v 0 3 = true → ∃ x, x9_setRate m v (putR g m r) = some (x, putR g m (RS_setF r 6 1))) := by
  unfold x9_setRate
  rw [R_putI rfl, gb_s, s_isBetween, cb_s]
  refine ⟨fun h1 => ?_, fun h1 => ?_⟩
  · have hb1 : ¬ bI (bt v 0 3) = 0 := by rw [bI_z, h1]; decide
    rw [if_neg hb1, R_isO, gb_s, s_recD ha (h50 h5 0), cb_s, R_getR rfl, gb_s, D_ald (k := 1) (x := 1) rfl (by decide), gb_s, gb_s, D_ast (k := 1) (x := 1) rfl (by decide), gb_s]
    rfl
  · have hb1 : bI (bt v 0 3) = 0 := (bI_z _).mpr (by simpa using h1)
    rw [if_pos hb1, R_isO, gb_s, s_fail, cb_s, RSF_two]
    exact ⟨0, rfl⟩
theorem s_fetch (ha : a ≤ 6) (h5 : r.1 5 = I a) (v : Int32) : (ftFetch (r.2 1) v = 0 → x9_fetchLogs m v (putR g m r) = some (r.2 1 0 + v, putR g m (pfR r (upd (upd (r.2 1) 0 (r.2 1 0 + v)) 8 (r.2 1 8 + v)) (r.2 6)))) ∧ (¬ ftFetch (r.2 1) v = 0 → ∃ x, x9_fetchLogs m v (putR g m r) = some (x, putR g m (RS_setF r 6 (tcB (ftFetch (r.2 1) v))))) := by
  have e33 : ∀ c : Int32, ¬ c ≤ 0 → x9_fetchLogs_j33 m v c m (putR g m r) = some (0, putR g m (RS_setF r 6 c)) := by
    intro c hc
    unfold x9_fetchLogs_j33
    rw [R_putI rfl, gb_s, R_getI rfl, gb_s, RSF_at, if_neg hc]
  unfold x9_fetchLogs
  rw [s_isBetween, cb_s, e33 1 (by decide), R_getR rfl, gb_s, R_s (k := 0) (x := 0) rfl (by decide), gb_s, e33 2 (by decide)]
  by_cases h1 : bt v 1 50 = true
  · have hb1 : ¬ bI (bt v 1 50) = 0 := by rw [bI_z, h1]; decide
    rw [if_neg hb1]
    by_cases h2 : r.2 1 0 + v ≤ 99
    · have ef : ftFetch (r.2 1) v = 0 := by unfold ftFetch; rw [if_pos h1, if_pos h2]
      rw [if_pos h2, ef]
      refine ⟨fun _ => ?_, fun hc => absurd rfl hc⟩
      unfold x9_fetchLogs_j33
      rw [R_putI rfl, gb_s, R_getI rfl, gb_s, RSF_at, if_pos (by decide), R_isO, gb_s, s_recD ha (h50 h5 0), cb_s, R_getR rfl, gb_s, D_ald (k := 0) (x := 0) rfl (by decide), gb_s, D_ast (k := 0) (x := 0) rfl (by decide), gb_s, R_getR rfl, gb_s, D_ald (k := 8) (x := 8) rfl (by decide), gb_s, D_ast (k := 8) (x := 8) rfl (by decide), gb_s, R_getR rfl, gb_s, D_ald (k := 0) (x := 0) rfl (by decide), gb_s]
      rfl
    · have ef : ftFetch (r.2 1) v = 3 := by unfold ftFetch; rw [if_pos h1, if_neg h2]
      rw [if_neg h2, ef]
      exact ⟨fun hc => absurd hc (by decide), fun _ => ⟨0, rfl⟩⟩
  · have ef : ftFetch (r.2 1) v = 2 := by unfold ftFetch; rw [if_neg h1]
    have hb1 : bI (bt v 1 50) = 0 := (bI_z _).mpr (by simpa using h1)
    rw [if_pos hb1, ef]
    exact ⟨fun hc => absurd hc (by decide), fun _ => ⟨0, rfl⟩⟩
theorem s_payDebt (ha : a ≤ 6) (h5 : r.1 5 = I a) (w : Ws (r.2 1)) (i v : Int32) : (ftPay (r.2 1) i v = 0 → x9_payDebt m i v (putR g m r) = some (hk (r.2 1) (kN i) 3 + -v, putR g m (pfR r (pbS (r.2 1) (kN i) v) (r.2 6)))) ∧ (¬ ftPay (r.2 1) i v = 0 → ∃ x, x9_payDebt m i v (putR g m r) = some (x, putR g m (RS_setF r 6 (ftPay (r.2 1) i v)))) := by
  have e55 : x9_payDebt_j55 m (putR g m (RS_setF r 6 0)) = some (0, putR g m (RS_setF r 6 3)) := by
    unfold x9_payDebt_j55
    rw [R_isO, gb_s, s_fail, cb_s, RSF_two]
  unfold x9_payDebt
  rw [R_putI rfl, gb_s, R_isO, gb_s, s_isHiker, cb_s, s_isBetween, cb_s]
  by_cases h1 : isH (r.2 1) i = true
  · obtain ⟨x, x1, x2, x3, x4⟩ := isH_ex w h1
    have hb1 : ¬ bI (isH ((RS_setF r 6 0).2 1) i) = 0 := by rw [bI_z, show isH ((RS_setF r 6 0).2 1) i = true from h1]; decide
    rw [if_neg hb1]
    by_cases h2 : bt v 1 99 = true
    · have hb2 : ¬ bI (bt v 1 99) = 0 := by rw [bI_z, h2]; decide
      have e2 : x9_get m i 2 (putR g m (RS_setF r 6 0)) = some (hk (r.2 1) x 2, putR g m (RS_setF r 6 0)) := by rw [x3]; exact s_get (f := 2) rfl x2 (by decide)
      have e3 : x9_get m i 3 (putR g m (RS_setF r 6 0)) = some (hk (r.2 1) x 3, putR g m (RS_setF r 6 0)) := by rw [x3]; exact s_get (f := 3) rfl x2 (by decide)
      rw [if_neg hb2, R_isO, gb_s, e2, cb_s, R_isO, gb_s, e3, cb_s, e55]
      by_cases h3 : hk (r.2 1) x 2 < v
      · have ef : ftPay (r.2 1) i v = 3 := by unfold ftPay; rw [if_pos h1, if_pos h2, x4, if_pos h3]
        rw [if_pos h3, ef]
        exact ⟨fun hc => absurd hc (by decide), fun _ => ⟨0, rfl⟩⟩
      · rw [if_neg h3]
        by_cases h4 : v ≤ hk (r.2 1) x 3
        · have ef : ftPay (r.2 1) i v = 0 := by unfold ftPay; rw [if_pos h1, if_pos h2, x4, if_neg h3, if_pos h4]
          rw [if_pos h4, ef, x4]
          refine ⟨fun _ => ?_, fun hc => absurd rfl hc⟩
          rw [R_isO, gb_s, s_recD ha (h50 h5 0), cb_s, R_isO, gb_s, x3, D_inc (f := 2) (x := 2) rfl x2 (by decide), cb_s, R_isO, gb_s, D_inc (f := 3) (x := 3) rfl x2 (by decide), cb_s, R_getR rfl, gb_s, D_ald (k := 6) (x := 6) rfl (by decide), gb_s, D_ast (k := 6) (x := 6) rfl (by decide), gb_s, R_isO, gb_s, D_get (f := 3) (x := 3) rfl x2 (by decide), cb_s]
          have hz : ∀ z : St, hk (upd (upd (upd z (49 + 10 * x + 2) (hk z x 2 + -v)) (49 + 10 * x + 3) (hk (upd z (49 + 10 * x + 2) (hk z x 2 + -v)) x 3 + -v)) 6 (upd (upd z (49 + 10 * x + 2) (hk z x 2 + -v)) (49 + 10 * x + 3) (hk (upd z (49 + 10 * x + 2) (hk z x 2 + -v)) x 3 + -v) 6 + v)) x 3 = hk z x 3 + -v ∧ upd (upd (upd z (49 + 10 * x + 2) (hk z x 2 + -v)) (49 + 10 * x + 3) (hk (upd z (49 + 10 * x + 2) (hk z x 2 + -v)) x 3 + -v)) 6 (upd (upd z (49 + 10 * x + 2) (hk z x 2 + -v)) (49 + 10 * x + 3) (hk (upd z (49 + 10 * x + 2) (hk z x 2 + -v)) x 3 + -v) 6 + v) = pbS z x v := by
            intro z
            have h30 : hk (upd z (49 + 10 * x + 2) (hk z x 2 + -v)) x 3 = hk z x 3 := upd_ne (by omega)
            have h60 : upd (upd z (49 + 10 * x + 2) (hk z x 2 + -v)) (49 + 10 * x + 3) (hk z x 3 + -v) 6 = z 6 := by rw [upd_ne (by omega), upd_ne (by omega)]
            rw [h30, h60]
            refine ⟨?_, rfl⟩
            show upd (upd (upd z (49 + 10 * x + 2) (hk z x 2 + -v)) (49 + 10 * x + 3) (hk z x 3 + -v)) 6 (z 6 + v) (49 + 10 * x + 3) = _
            rw [upd_ne (by omega), upd_at]
          rw [(hz _).1, (hz _).2]
          rfl
        · have ef : ftPay (r.2 1) i v = 3 := by unfold ftPay; rw [if_pos h1, if_pos h2, x4, if_neg h3, if_neg h4]
          rw [if_neg h4, ef]
          exact ⟨fun hc => absurd hc (by decide), fun _ => ⟨0, rfl⟩⟩
    · have ef : ftPay (r.2 1) i v = 2 := by unfold ftPay; rw [if_pos h1, if_neg h2]
      have hb2 : bI (bt v 1 99) = 0 := (bI_z _).mpr (by simpa using h2)
      rw [if_pos hb2, ef, R_isO, gb_s, s_fail, cb_s, RSF_two]
      exact ⟨fun hc => absurd hc (by decide), fun _ => ⟨0, rfl⟩⟩
  · have ef : ftPay (r.2 1) i v = 1 := by unfold ftPay; rw [if_neg h1]
    have hb1 : bI (isH ((RS_setF r 6 0).2 1) i) = 0 := (bI_z _).mpr (show isH (r.2 1) i = false by simpa using h1)
    rw [if_pos hb1, ef, R_isO, gb_s, s_fail, cb_s, RSF_two]
    exact ⟨fun hc => absurd hc (by decide), fun _ => ⟨0, rfl⟩⟩
theorem s_pass (ha : a ≤ 6) (h5 : r.1 5 = I a) (G : Gd (r.2 1)) (v : Int32) : (ftPass (r.2 1) v = 0 → x9_passHours m v (putR g m r) = some ((manyS (kN v) (r.2 1, r.2 6)).1 6 - r.2 1 6, putR g m (pfR r (manyS (kN v) (r.2 1, r.2 6)).1 (manyS (kN v) (r.2 1, r.2 6)).2))) ∧ (¬ ftPass (r.2 1) v = 0 → ∃ x, x9_passHours m v (putR g m r) = some (x, putR g m (RS_setF r 6 (tcB (ftPass (r.2 1) v))))) := by
  have w := G.1
  have hT := G.2.2.2
  have e34 : ∀ c : Int32, ¬ c ≤ 0 → x9_passHours_j34 m v c m (putR g m r) = some (0, putR g m (RS_setF r 6 c)) := by
    intro c hc
    unfold x9_passHours_j34
    rw [R_putI rfl, gb_s, R_getI rfl, gb_s, RSF_at, if_neg hc]
  unfold x9_passHours
  rw [s_isBetween, cb_s, e34 1 (by decide), R_getR rfl, gb_s, R_s (k := 3) (x := 3) rfl (by decide), gb_s, e34 2 (by decide)]
  by_cases h1 : bt v 1 48 = true
  · have hb1 : ¬ bI (bt v 1 48) = 0 := by rw [bI_z, h1]; decide
    obtain ⟨x, x1, x2, x3, x4⟩ := bt_ex (lo := 1) (hi := 48) (by decide) (by decide) h1
    rw [if_neg hb1]
    by_cases h2 : r.2 1 3 + v ≤ 9999
    · have ef : ftPass (r.2 1) v = 0 := by unfold ftPass; rw [if_pos h1, if_pos h2]
      rw [if_pos h2, ef, x4]
      refine ⟨fun _ => ?_, fun hc => absurd rfl hc⟩
      have e1 : x9_passMany m (I x) (putR g m (RD (recS (RS_setF r 6 0)) ((RS_setF r 6 0).2 1) ((RS_setF r 6 0).2 6))) = some ((), putR g m (RD (recS (RS_setF r 6 0)) (manyS x (r.2 1, r.2 6)).1 (manyS x (r.2 1, r.2 6)).2)) := s_passMany (s := (r.2 1, r.2 6)) w (show nT (r.2 1) + x ≤ 20000 by omega) (by omega)
      unfold x9_passHours_j34
      rw [R_putI rfl, gb_s, R_getI rfl, gb_s, RSF_at, if_pos (by decide), R_isO, gb_s, s_recD ha (h50 h5 0), cb_s, R_getR rfl, gb_s, D_ald (k := 6) (x := 6) rfl (by decide), gb_s, R_isO, gb_s, x3, e1, cb_s, R_getR rfl, gb_s, D_ald (k := 6) (x := 6) rfl (by decide), gb_s]
      rfl
    · have ef : ftPass (r.2 1) v = 3 := by unfold ftPass; rw [if_pos h1, if_neg h2]
      rw [if_neg h2, ef]
      exact ⟨fun hc => absurd hc (by decide), fun _ => ⟨0, rfl⟩⟩
  · have ef : ftPass (r.2 1) v = 2 := by unfold ftPass; rw [if_neg h1]
    have hb1 : bI (bt v 1 48) = 0 := (bI_z _).mpr (by simpa using h1)
    rw [if_pos hb1, ef]
    exact ⟨fun hc => absurd hc (by decide), fun _ => ⟨0, rfl⟩⟩
end SAct
