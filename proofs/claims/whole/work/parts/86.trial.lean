/-! huts on trial -/
def mvS (st : St) (i : Nat) (v : Int32) : St := upd st (49 + 10 * i + 4) v
theorem upd_two {f : Nat → Int32} {k : Nat} {v v1 : Int32} : upd (upd f k v) k v1 = upd f k v1 := by
  funext j
  by_cases hj : j = k
  · rw [hj, upd_at, upd_at]
  · rw [upd_ne hj, upd_ne hj, upd_ne hj]
def freeB (st : St) (i b : Nat) : Bool := decide (inB st (I b) = -1) || decide (inB st (I b) = I i)
def bpS (st : St) (i : Nat) : Nat → Option Nat × Int32
  | 0 => (none, cntD (mvS st i (-1)) 2)
  | n + 1 => if freeB st i n = true ∧ (bpS st i n).2 < cntD (mvS st i (I n)) 2 then (some n, cntD (mvS st i (I n)) 2) else bpS st i n
def wbS (st : St) (i : Nat) : Nat → Option Nat × Int32 × Int32
  | 0 => (none, 0, 0)
  | n + 1 => if freeB st i n = true ∧ ((wbS st i n).1 = none ∨ (wbS st i n).2.1 < wN (mvS st i (I n)) i ∨ (wN (mvS st i (I n)) i = (wbS st i n).2.1 ∧ noi (mvS st i (I n)) (I n) < (wbS st i n).2.2)) then (some n, wN (mvS st i (I n)) i, noi (mvS st i (I n)) (I n)) else wbS st i n
def snz (st : St) (i : Nat) : St := upd st (49 + 10 * i + 1) 0
def wzS (st : St) : Nat → Option Nat × Int32
  | 0 => (none, cntD st 1)
  | n + 1 => if (cntD (snz st n) 1) < (wzS st n).2 then (some n, cntD (snz st n) 1) else wzS st n
theorem mv_n (st : St) (i : Nat) (v : Int32) : nH (mvS st i v) = nH st ∧ nB (mvS st i v) = nB st := by
  unfold mvS nH nB
  rw [upd_ne (by omega), upd_ne (by omega)]
  exact ⟨rfl, rfl⟩
theorem mv_ok {st : St} (w : Ws st) (u : Un st) {i : Nat} {v : Int32} (hi : i < nH st) (hv : v = -1 ∨ ∃ b, b < nB st ∧ v = I b ∧ freeB st i b = true) : Ws (mvS st i v) ∧ Un (mvS st i v) := by
  have hh := w.h.2
  have hb0 := w.b.2
  refine ⟨Ws_up4 w (hv.imp id (fun ⟨b, h1, h2, h3⟩ => ⟨b, h1, h2⟩)), Un_up4 u (hv.imp id (fun ⟨b, h1, h2, h3⟩ k hk0 hki hc => ?_))⟩
  have hB : isB st (I b) = true := by rw [isB_has w, w.b.1]; exact has_I (by omega) h1
  rw [h2] at hc
  unfold freeB at h3
  rw [Bool.or_eq_true] at h3
  rcases h3 with h3 | h3
  · exact inB_no2 hB (of_decide_eq_true h3) k hk0 hc
  · have h4 := inB_eq w u hk0 (I_ne_neg (by omega)) hc
    rw [of_decide_eq_true h3, I_eq (by omega) (by omega)] at h4
    exact hki h4.symm
section Trial
variable {g : AH} {t q pl m : Nat} {h k : HS} {st : St} {r : RS}
theorem atq {α : Type} {F : AH → Option (α × AH)} {v : α} (hq : putH g q k = g) (hd : t + 27 ≤ q ∨ q + 27 ≤ t) (hF : ∀ G, F (putH G q k) = some (v, putH G q k)) : F (putH g t h) = some (v, putH g t h) := by
  have := hF (putH g t h)
  rw [hut_keep hq hd] at this
  exact this
theorem c_isFree (w : Ws st) (R : Rel st k) (i b : Nat) : x5_isFreeFor q (I i) (I b) (putH g q k) = some (bI (freeB st i b), putH g q k) := by
  unfold x5_isFreeFor x5_isFreeFor_j16 freeB
  rw [H_isO, gb_s, c_sleeperIn w R, cb_s]
  by_cases h1 : inB st (I b) = -1
  · rw [if_pos h1]; simp [h1, bI]
  · rw [if_neg h1]
    by_cases h2 : inB st (I b) = I i
    · rw [if_pos h2]; simp [h2, bI]
    · rw [if_neg h2]; simp [h1, h2, bI]
theorem s_isFree (w : Ws (r.2 1)) (i b : Nat) : x9_isFreeFor m (I i) (I b) (putR g m r) = some (bI (freeB (r.2 1) i b), putR g m r) := by
  unfold x9_isFreeFor x9_isFreeFor_j18 freeB
  rw [R_isO, gb_s, s_inBunk w, cb_s, R_isO, gb_s, s_inBunk w, cb_s]
  by_cases h1 : inB (r.2 1) (I b) = -1
  · rw [if_pos h1]; simp [h1, bI]
  · rw [if_neg h1]
    by_cases h2 : inB (r.2 1) (I b) = I i
    · rw [if_pos h2]; simp [h2, bI]
    · rw [if_neg h2]; simp [h1, h2, bI]
theorem c_place (hq : putH g q k = g) (hd : t + 27 ≤ q ∨ q + 27 ≤ t) (hpl : ∀ h, getR 5 (putH g t h) pl 0 = some t) (w : Ws st) (u : Un st) (R : Rel st k) {i : Nat} (hi : i < nH st) : ∃ h1, x5_placeForMostSleep pl q (I i) (putH g t h) = some (oI (bpS st i (nB st)).1, putH g t h1) := by
  have hh := w.h.2
  have hb0 := w.b.2
  have e9 : k.1 9 = I (nB st) := (Rel_at R 9 (by decide)).trans w.b.1
  obtain ⟨h1, e1, c1⟩ := c_copyFrom (h := h) hq hd hh ((Rel_at R 12 (by decide)).trans w.h.1)
  have R1 := Rel_cp w R c1
  obtain ⟨w2, u2⟩ := mv_ok w u hi (v := -1) (Or.inl rfl)
  obtain ⟨h2, e2, R2, M2⟩ := c_moveTo (g := g) (p := t) w u R1 hi (v := -1) (Or.inl rfl) u2
  unfold x5_placeForMostSleep
  rw [hpl, gb_s, H_isO, gb_s, e1, cb_s, hpl, gb_s, H_isO, gb_s, e2, cb_s, hpl, gb_s, H_isO, gb_s, c_countOf w2 R2 M2, cb_s]
  have H := loop_inv (body := x5_placeForMostSleep_l33 pl q (I i)) (n := nB st) (fuel := 1000) (s := (-1, cntD (mvS st i (-1)) 2, 0)) (g := putH g t h2) (fun n s g1 => s = (oI (bpS st i n).1, (bpS st i n).2, I n) ∧ ∃ h v, g1 = putH g t h ∧ Ws (mvS st i v) ∧ Un (mvS st i v) ∧ Rel (mvS st i v) h) (fun s g1 => s = oI (bpS st i (nB st)).1 ∧ ∃ h, g1 = putH g t h) (fun n s g1 hn h0 => by
      obtain ⟨rfl, h3, v, rfl, w3, u3, R3⟩ := h0
      unfold x5_placeForMostSleep_l33 x5_placeForMostSleep_j87_33
      dsimp only
      rw [Q_getI hq hd (by decide), gb_s, cn_lt e9 (by omega) hn, atq hq hd (fun G => c_isFree (g := G) w R i n), cb_s, bpS]
      by_cases hf : freeB st i n = true
      · have hv : I n = -1 ∨ ∃ b, b < nB st ∧ I n = I b ∧ freeB st i b = true := Or.inr ⟨n, hn, rfl, hf⟩
        obtain ⟨w4, u4⟩ := mv_ok w u hi hv
        have hm : upd (mvS st i v) (49 + 10 * i + 4) (I n) = mvS st i (I n) := upd_two
        have hu4 : Un (upd (mvS st i v) (49 + 10 * i + 4) (I n)) := by rw [hm]; exact u4
        obtain ⟨h5, e5, R5, M5⟩ := c_moveTo (g := g) (p := t) w3 u3 R3 (by rw [(mv_n st i v).1]; exact hi) (v := I n) (Or.inr ⟨n, by rw [(mv_n st i v).2]; exact hn, rfl⟩) hu4
        rw [hm] at R5 M5
        rw [if_neg (by rw [bI_z, hf]; decide), hpl, gb_s, H_isO, gb_s, e5, cb_s, hpl, gb_s, H_isO, gb_s, c_countOf w4 R5 M5, cb_s]
        by_cases hc : cntD (mvS st i (I n)) 2 ≤ (bpS st i n).2
        · rw [if_pos hc, if_neg (fun h => absurd h.2 (Int32.not_lt.mpr hc)), I_succ]
          exact ⟨_, _, rfl, rfl, h5, I n, rfl, w4, u4, R5⟩
        · rw [if_neg hc, if_pos ⟨hf, Int32.not_le.mp hc⟩, I_succ]
          exact ⟨_, _, rfl, rfl, h5, I n, rfl, w4, u4, R5⟩
      · rw [if_pos ((bI_z _).mpr (by simpa using hf)), if_neg (fun h => hf h.1), I_succ]
        exact ⟨_, _, rfl, rfl, h3, v, rfl, w3, u3, R3⟩) (fun s g1 h0 => by
      obtain ⟨rfl, h3, v, rfl, -⟩ := h0
      unfold x5_placeForMostSleep_l33
      dsimp only
      rw [Q_getI hq hd (by decide), gb_s, cn_ge e9 (by omega)]
      exact ⟨_, _, rfl, rfl, h3, rfl⟩) (by omega) ⟨rfl, h2, -1, rfl, w2, u2, R2⟩
  obtain ⟨t2, g2, e3, rfl, h3, rfl⟩ := H
  rw [e3, cb_s]
  exact ⟨h3, rfl⟩
theorem s_sleepersIf (w : Ws (r.2 1)) {i : Nat} {v : Int32} (hi : i < 10) (w1 : Ws (mvS (r.2 1) i v)) : x9_sleepersIf m (I i) v (putR g m r) = some (cntD (mvS (r.2 1) i v) 2, putR g m (RS_setA (RS_setA r 2 (cp1 (r.2 1) (r.2 2))) 6 (r.2 6))) := by
  have hh : Hi (r.2 1) (mvS (r.2 1) i v) := Hi.refl.up (by omega)
  have w1' : Ws (upd (r.2 1) (49 + 10 * i + 4) v) := w1
  unfold x9_sleepersIf x9_sleepersWith
  rw [R_isO, gb_s, s_goAside2, cb_s, R_isO, gb_s, gb_s, D_set (f := 4) (x := 4) rfl hi (by decide), cb_s, R_isO, gb_s, D_countDeed w1', cb_s, cb_s, R_isO, gb_s]
  rw [show x9_comeBack m (cntD (upd (r.2 1) (49 + 10 * i + 4) v) 2) (putR g m (RD (RS_setA r 2 (cp1 (r.2 1) (r.2 2))) (upd (r.2 1) (49 + 10 * i + 4) v) (r.2 6))) = _ from s_aside hh _, cb_s]
  rfl
theorem s_bestPlaceFor (w : Ws (r.2 1)) (u : Un (r.2 1)) {i : Nat} (hi : i < nH (r.2 1)) : ∃ r1, x9_bestPlaceFor m (I i) (putR g m r) = some (oI (bpS (r.2 1) i (nB (r.2 1))).1, putR g m r1) ∧ Sq r r1 ∧ r1.1 6 = 0 := by
  have hh := w.h.2
  have hb0 := w.b.2
  have hi0 : i < 10 := by omega
  unfold x9_bestPlaceFor
  rw [R_putI rfl, gb_s, R_isO, gb_s, s_isHiker, cb_s]
  have hH : isH (r.2 1) (I i) = true := by rw [isH_has w, w.h.1]; exact has_I (by omega) hi
  rw [show isH ((RS_setF r 6 0).2 1) (I i) = true from hH, if_neg (by decide), R_isO, gb_s, s_sleepersIf (r := RS_setF r 6 0) w hi0 (mv_ok w u hi (v := -1) (Or.inl rfl)).1, cb_s]
  have hS : ∀ r1 : RS, Sq (RS_setF r 6 0) r1 → r1.2 1 = r.2 1 := fun r1 h => h.st
  have hpos : ∀ n, 0 ≤ (bpS (r.2 1) i n).2 := by
    intro n
    induction n with
    | zero =>
      obtain ⟨x, x1, x2⟩ := cntD_b (mvS (r.2 1) i (-1)) (mv_ok w u hi (v := -1) (Or.inl rfl)).1 2
      show 0 ≤ cntD (mvS (r.2 1) i (-1)) 2
      rw [x2]
      exact Int32.zero_le_ofNat_of_lt (by omega)
    | succ n ih =>
      rw [bpS]
      split
      · rename_i hc
        exact Int32.le_trans ih (Int32.le_of_lt hc.2)
      · exact ih
  have H := loop_inv (body := x9_bestPlaceFor_l31 m (I i)) (n := nB (r.2 1)) (fuel := 1000) (s := (-1, cntD (mvS (r.2 1) i (-1)) 2, 0)) (g := putR g m (RS_setA (RS_setA (RS_setF r 6 0) 2 (cp1 ((RS_setF r 6 0).2 1) ((RS_setF r 6 0).2 2))) 6 ((RS_setF r 6 0).2 6))) (fun n s g1 => s = (oI (bpS (r.2 1) i n).1, (bpS (r.2 1) i n).2, I n) ∧ ∃ r1, g1 = putR g m r1 ∧ Sq (RS_setF r 6 0) r1 ∧ r1.1 6 = 0) (fun s g1 => s = oI (bpS (r.2 1) i (nB (r.2 1))).1 ∧ ∃ r1, g1 = putR g m r1 ∧ Sq (RS_setF r 6 0) r1 ∧ r1.1 6 = 0) (fun n s g1 hn h0 => by
      obtain ⟨rfl, r1, rfl, q1, q2⟩ := h0
      have e1 := hS r1 q1
      have w1 : Ws (r1.2 1) := by rw [e1]; exact w
      unfold x9_bestPlaceFor_l31 x9_bestPlaceFor_j64_31 x9_bestPlaceFor_j78_31
      dsimp only
      rw [R_getR rfl, gb_s, R_s (k := 9) (x := 9) rfl (by decide), gb_s, e1, cn_lt w.b.1 (by omega) hn, R_isO, gb_s, s_isFree w1, cb_s, e1, bpS]
      by_cases hf : freeB (r.2 1) i n = true
      · have hv : I n = -1 ∨ ∃ b, b < nB (r.2 1) ∧ I n = I b ∧ freeB (r.2 1) i b = true := Or.inr ⟨n, hn, rfl, hf⟩
        have w4 := (mv_ok w u hi hv).1
        rw [if_neg (by rw [bI_z, hf]; decide), R_isO, gb_s, s_sleepersIf w1 hi0 (by rw [e1]; exact w4), cb_s, e1]
        have q3 := q1.trans (s_asideSq (r := r1) (du := r1.2 6))
        rw [e1] at q3
        by_cases hc : cntD (mvS (r.2 1) i (I n)) 2 ≤ (bpS (r.2 1) i n).2
        · rw [if_pos hc, if_neg (Int32.not_lt.mpr hc), if_neg (fun h => absurd h.2 (Int32.not_lt.mpr hc)), I_succ]
          exact ⟨_, _, rfl, rfl, _, rfl, q3, q2⟩
        · rw [if_neg hc, if_pos (Int32.not_le.mp hc), if_pos ⟨hf, Int32.not_le.mp hc⟩, I_succ]
          exact ⟨_, _, rfl, rfl, _, rfl, q3, q2⟩
      · rw [if_pos ((bI_z _).mpr (by simpa using hf)), if_pos (hpos n), if_neg (Int32.not_lt.mpr (hpos n)), if_neg (fun h => hf h.1), I_succ]
        exact ⟨_, _, rfl, rfl, r1, rfl, q1, q2⟩) (fun s g1 h0 => by
      obtain ⟨rfl, r1, rfl, q1, q2⟩ := h0
      have e1 := hS r1 q1
      unfold x9_bestPlaceFor_l31
      dsimp only
      rw [R_getR rfl, gb_s, R_s (k := 9) (x := 9) rfl (by decide), gb_s, e1, cn_ge w.b.1 (by omega)]
      exact ⟨_, _, rfl, rfl, r1, rfl, q1, q2⟩) (by omega) ⟨rfl, _, rfl, s_asideSq, rfl⟩
  obtain ⟨t2, g2, e3, rfl, r1, rfl, q1, q2⟩ := H
  have e3' : loopX (x9_bestPlaceFor_l31 m (I i)) 1000 (-1, cntD (mvS ((RS_setF r 6 0).2 1) i (-1)) 2, 0) (putR g m (RS_setA (RS_setA (RS_setF r 6 0) 2 (cp1 ((RS_setF r 6 0).2 1) ((RS_setF r 6 0).2 2))) 6 ((RS_setF r 6 0).2 6))) = some (oI (bpS (r.2 1) i (nB (r.2 1))).1, putR g m r1) := e3
  rw [e3', cb_s]
  exact ⟨r1, rfl, Sq.f6.trans q1, q2⟩
end Trial
