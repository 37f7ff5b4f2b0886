/-! the bunks are written by both -/
def mrk (d : Int32) : List Nat := if d = 0 then [33] else if d = 1 then [63] else []
def bnk (st : St) (b : Nat) : List Nat := if inB st (I b) = -1 then [45] else [97 + kN (inB st (I b))] ++ (if hk st (kN (inB st (I b))) 5 = -1 then [] else [48 + kN (thk st (kN (inB st (I b))))]) ++ mrk (deed st (kN (inB st (I b))))
def bks (st : St) : Nat → List Nat
  | 0 => []
  | n + 1 => bks st n ++ (if n = 0 then [] else [32]) ++ bnk st n
theorem mrk_len (d : Int32) : (mrk d).length ≤ 1 := by
  unfold mrk
  repeat' split
  all_goals simp
theorem bnk_len (st : St) (b : Nat) : (bnk st b).length ≤ 3 := by
  have := mrk_len (deed st (kN (inB st (I b))))
  unfold bnk
  repeat' split
  · simp
  · simp only [List.length_append, List.length_singleton, List.length_nil]; omega
  · simp only [List.length_append, List.length_singleton]; omega
theorem bks_len (st : St) : ∀ k, (bks st k).length ≤ 4 * k := by
  intro k
  induction k with
  | zero => exact Nat.le_refl _
  | succ k ih =>
    have := bnk_len st k
    rw [bks, List.length_append, List.length_append]
    split
    · rw [List.length_nil]; omega
    · rw [List.length_singleton]; omega
section Bnk
variable {g : AH} {n m : Nat} {w : WS} {st : St} {l : List Nat} {r : RS}
theorem thk_pos (G : Gd st) {i : Nat} (hi : i < nH st) : ∃ t, t ≤ 9 ∧ thk st i = I t ∧ kN (thk st i) = t ∧ (t = 0 ↔ hk st i 5 = -1) := by
  obtain ⟨w, -, ⟨-, B, hp1⟩, hT⟩ := G
  have hi0 : i < 10 := by have := w.h.2; omega
  obtain ⟨t, t1, t2⟩ := thk_b w B hi0
  have t3 : kN (thk st i) = t := by rw [t2]; exact I_nat (by omega)
  refine ⟨t, t1, t2, t3, ?_⟩
  by_cases h5 : hk st i 5 = -1
  · have e0 : thk st i = 0 := if_pos h5
    rw [e0] at t3
    exact ⟨fun _ => h5, fun _ => t3.symm⟩
  · obtain ⟨b, b1', b2, b3, b4⟩ := w.blan hi0 h5
    have e1 : thk st i = st (25 + b) := by unfold thk; rw [if_neg h5, b4]
    have := hp1 b (b2 hi)
    rw [← e1, t3] at this
    exact ⟨fun h => by omega, fun h => absurd h h5⟩
theorem W_sleeper (G : Gm st (w.1 0)) (v : Int32) : x3_sleeperIn (n + hp 0) v (putW g n w) = some (inB st v, putW g n w) := by
  have := c_sleeperIn (g := putW g n w) (p := n + hp 0) G.1.1 G.2.1 v
  rw [W_H (by decide)] at this
  exact this
theorem W_hasH (G : Gm st (w.1 0)) (v : Int32) : x3_hasHiker (n + hp 0) v (putW g n w) = some (bI (hasN (st 12) v), putW g n w) := by
  have := c_hasHiker (g := putW g n w) (p := n + hp 0) G.2.1 v
  rw [W_H (by decide)] at this
  exact this
theorem W_deed (G : Gm st (w.1 0)) {i : Nat} (hi : i < nH st) : x3_activityNow (n + hp 0) (I i) (putW g n w) = some (deed st i, putW g n w) := by
  have := c_activityNow (g := putW g n w) (p := n + hp 0) G.1.1 G.2.1 G.2.2 hi
  rw [W_H (by decide)] at this
  exact this
theorem W_isO3 : isO 3 (putW g n w) (n + hp 0) = some () := W_isH (by decide)
/-- the class writes one bunk -/
theorem c_bunk {s : OS} (G : Gm st (w.1 0)) {b : Nat} (h : OC s l) (hl : l.length ≤ 240) : ∃ s1, x8_writeBunk n (I b) (putW g n (wO w s)) = some ((), putW g n (wO w s1)) ∧ OC s1 (l ++ bnk st b) := by
  have hh := G.1.1.h
  have Go : ∀ s, Gm st ((wO w s).1 0) := fun s => G
  unfold x8_writeBunk bnk
  rw [W_80, gb_s, W_isO3, gb_s, W_sleeper (Go s), cb_s, W_80, gb_s, W_isO3, gb_s, W_hasH (Go s), cb_s]
  rcases inB_cases G.1.1 (I b) with h1 | ⟨i, i1, i2, i3, i4⟩
  · obtain ⟨s1, e1, e2⟩ := Wo_put (g := g) (n := n) (w := w) (b := 45) (x := 45) h (by omega) rfl
    rw [h1, if_pos ((bI_z _).mpr (has_neg _)), if_pos rfl, W_8o, gb_s, W_isO4, gb_s, e1, cb_s]
    exact ⟨s1, rfl, e2⟩
  · have hi0 : i < 10 := by omega
    obtain ⟨t, t1, t2, t3, t4⟩ := thk_pos G.1 i1
    have r6 : ∀ s, getI 1 (putW g n (wO w s)) (n + hp 0 + (7 + 2 * i)) 6 = some (I t) := fun s => (W_kI (w := wO w s) hi0 (by decide)).trans (congrArg some ((G.2.2.1 i i1).1.trans t2))
    have hne : ¬ inB st (I b) = -1 := by rw [i2]; exact I_ne_neg (by omega)
    rw [i3, i2, if_neg (show ¬ bI (hasN (st 12) (I i)) = 0 by rw [bI_z, hh.1, has_I (by omega) i1]; decide), if_neg (I_ne_neg (by omega)), t3]
    obtain ⟨s1, e1, e2⟩ := Wo_put (g := g) (n := n) (w := w) (b := 97 + i) (x := 97 + I i) h (by omega) (I_add 97 i)
    have j75 : ∀ s2 l2, OC s2 l2 → l2.length ≤ 280 → ∃ s3, x8_writeBunk_j75 n (I i) (putW g n (wO w s2)) = some ((), putW g n (wO w s3)) ∧ OC s3 (l2 ++ mrk (deed st i)) := fun s2 l2 h2 hl2 => by
      unfold x8_writeBunk_j75 mrk
      rw [W_80, gb_s, W_isO3, gb_s, W_deed (Go s2) i1, cb_s]
      by_cases d0 : deed st i = 0
      · obtain ⟨s3, p1, p2⟩ := Wo_put (g := g) (n := n) (w := w) (b := 33) (x := 33) h2 (by omega) rfl
        rw [if_pos d0, if_pos d0, W_8o, gb_s, W_isO4, gb_s, p1, cb_s]
        exact ⟨s3, rfl, p2⟩
      · by_cases d1 : deed st i = 1
        · obtain ⟨s3, p1, p2⟩ := Wo_put (g := g) (n := n) (w := w) (b := 63) (x := 63) h2 (by omega) rfl
          rw [if_neg d0, if_neg d0, if_pos d1, if_pos d1, W_8o, gb_s, W_isO4, gb_s, p1, cb_s]
          exact ⟨s3, rfl, p2⟩
        · rw [if_neg d0, if_neg d0, if_neg d1, if_neg d1, List.append_nil]
          exact ⟨s2, rfl, h2⟩
    rw [W_8o, gb_s, W_isO4, gb_s, e1, cb_s, W_80, gb_s, W_h18, gb_s, W_hik hi0, gb_s, r6, gb_s]
    by_cases h5 : hk st i 5 = -1
    · have ht0 : t = 0 := t4.mpr h5
      obtain ⟨s3, p1, p2⟩ := j75 s1 _ e2 (by rw [List.length_append, List.length_singleton]; omega)
      rw [if_pos (show I t ≤ 0 by rw [ht0]; exact Int32.le_refl 0), p1, if_pos h5, List.append_nil, ← List.append_assoc]
      exact ⟨s3, rfl, p2⟩
    · have ht0 : ¬ t = 0 := fun h => h5 (t4.mp h)
      obtain ⟨s2, q1, q2⟩ := Wo_number (g := g) (n := n) (w := w) (x := I t) e2 (by omega) (by rw [List.length_append, List.length_singleton]; omega) rfl
      rw [show dgs 12 t = [48 + t] by rw [dgs, if_pos t1]] at q2
      obtain ⟨s3, p1, p2⟩ := j75 s2 _ q2 (by simp only [List.length_append, List.length_singleton]; omega)
      rw [if_neg (show ¬ I t ≤ 0 by rw [show (0 : Int32) = I 0 from rfl, I_le (by omega) (by decide)]; omega), W_8o, gb_s, gb_s, W_h18, gb_s, W_hik hi0, gb_s, r6, gb_s, W_isO4, gb_s, q1, cb_s, p1, if_neg h5]
      simp only [← List.append_assoc] at p2 ⊢
      exact ⟨s3, rfl, p2⟩
theorem c_writeBunks {s : OS} (G : Gm st (w.1 0)) : ∃ s1, x8_writeBunks n (putW g n (wO w s)) = some (I (bks st (nB st)).length, putW g n (wO w s1)) ∧ OC s1 (bks st (nB st)) := by
  have hh := G.1.1.b
  have r9 : ∀ s, getI 3 (putW g n (wO w s)) (n + hp 0) 9 = some (I (nB st)) := fun s => (W_hI (w := wO w s) (by decide)).trans (congrArg some ((Rel_at G.2.1 9 (by decide)).trans hh.1))
  obtain ⟨s0, c1, c2⟩ := Wo_clear (g := g) (n := n) (w := w) (s := s)
  obtain ⟨t, g1, e1, s1, rfl, e2⟩ := loop_inv (body := x8_writeBunks_l9 n) (n := nB st) (fuel := 1000) (s := (0 : Int32)) (g := putW g n (wO w s0)) (fun i x g1 => x = I i ∧ ∃ s1, g1 = putW g n (wO w s1) ∧ OC s1 (bks st i)) (fun _ g1 => ∃ s1, g1 = putW g n (wO w s1) ∧ OC s1 (bks st (nB st))) (fun i x g1 hi h0 => by
    obtain ⟨rfl, s1, rfl, h1⟩ := h0
    have hln := bks_len st i
    have e33 : ∀ s2 l2, OC s2 l2 → l2.length ≤ 240 → ∃ s3, x8_writeBunks_j33_9 n (I i) (putW g n (wO w s2)) = some (.inl (I (i + 1)), putW g n (wO w s3)) ∧ OC s3 (l2 ++ bnk st i) := fun s2 l2 h2 hl2 => by
      obtain ⟨s3, p1, p2⟩ := c_bunk (g := g) (n := n) (w := w) (b := i) G h2 hl2
      unfold x8_writeBunks_j33_9
      rw [W_isO, gb_s, p1, cb_s, I_succ]
      exact ⟨s3, rfl, p2⟩
    unfold x8_writeBunks_l9
    rw [W_80, gb_s, r9, gb_s, if_neg (show ¬ I (nB st) ≤ I i by rw [I_le (by omega) (by omega)]; omega)]
    by_cases h0 : i = 0
    · obtain ⟨s3, p1, p2⟩ := e33 s1 _ h1 (by omega)
      rw [if_pos (show I i ≤ 0 by rw [h0]; exact Int32.le_refl 0), p1]
      refine ⟨_, _, rfl, rfl, s3, rfl, ?_⟩
      rw [bks, if_pos h0, List.append_nil]
      exact p2
    · obtain ⟨s2, m1, m2⟩ := Wo_put (g := g) (n := n) (w := w) (b := 32) (x := 32) h1 (by omega) rfl
      obtain ⟨s3, p1, p2⟩ := e33 s2 _ m2 (by rw [List.length_append, List.length_singleton]; omega)
      rw [if_neg (show ¬ I i ≤ 0 by rw [show (0 : Int32) = I 0 from rfl, I_le (by omega) (by decide)]; omega), W_8o, gb_s, W_isO4, gb_s, m1, cb_s, p1]
      refine ⟨_, _, rfl, rfl, s3, rfl, ?_⟩
      rw [bks, if_neg h0]
      exact p2) (fun x g1 h0 => by
    obtain ⟨rfl, s1, rfl, h1⟩ := h0
    unfold x8_writeBunks_l9
    rw [W_80, gb_s, r9, gb_s, if_pos (Int32.le_refl _)]
    exact ⟨_, _, rfl, s1, rfl, h1⟩) (by omega) ⟨rfl, s0, rfl, c2⟩
  unfold x8_writeBunks
  rw [W_8o, gb_s, W_isO4, gb_s, c1, cb_s, e1, cb_s, W_8o, gb_s, show getI 4 (putW g n (wO w s1)) (n + 310) 1 = some s1.1 from W_cnt (w := wO w s1), gb_s, e2.1]
  exact ⟨s1, rfl, e2⟩
/-- the reference writes one bunk's hiker -/
theorem s_hikerW (G : Gd (r.2 1)) {i : Nat} (hi : i < nH (r.2 1)) (h : OR r l) (hl : l.length ≤ 240) : ∃ r1, x9_writeHiker m (I i) (putR g m r) = some ((), putR g m r1) ∧ OR r1 (l ++ ([97 + i] ++ (if hk (r.2 1) i 5 = -1 then [] else [48 + kN (thk (r.2 1) i)]) ++ mrk (deed (r.2 1) i))) ∧ Ro r r1 := by
  have w := G.1
  have hi0 : i < 10 := by have := w.h.2; omega
  obtain ⟨t, t1, t2, t3, t4⟩ := thk_pos G hi
  have est : ∀ r1, Ro r r1 → r1.2 1 = r.2 1 := fun r1 q => q.2 1 (by decide)
  obtain ⟨r1, e1, e2, e3⟩ := s_put (g := g) (m := m) (b := 97 + i) (x := 97 + I i) h (by omega) (by omega) (I_add 97 i)
  have j30 : ∀ r2 l2, OR r2 l2 → Ro r r2 → l2.length ≤ 280 → ∃ r3, x9_writeHiker_j30 m (I i) (putR g m r2) = some ((), putR g m r3) ∧ OR r3 (l2 ++ mrk (deed (r.2 1) i)) ∧ Ro r r3 := fun r2 l2 h2 q2 hl2 => by
    have dd := s_deed (g := g) (m := m) (r := r2) (by rw [est r2 q2]; exact w) hi0
    rw [est r2 q2] at dd
    unfold x9_writeHiker_j30 mrk
    rw [R_isO, gb_s, dd, cb_s]
    by_cases d0 : deed (r.2 1) i = 0
    · obtain ⟨r3, p1, p2, p3⟩ := s_put (g := g) (m := m) (b := 33) (x := 33) h2 (by omega) (by decide) rfl
      unfold x9_writeHiker_j45 x9_writeHiker_j57
      rw [if_pos d0, if_pos d0, if_pos d0, R_isO, gb_s, p1, cb_s]
      exact ⟨r3, rfl, p2, q2.trans p3⟩
    · by_cases d1 : deed (r.2 1) i = 1
      · obtain ⟨r3, p1, p2, p3⟩ := s_put (g := g) (m := m) (b := 63) (x := 63) h2 (by omega) (by decide) rfl
        unfold x9_writeHiker_j45 x9_writeHiker_j57
        rw [if_neg d0, if_neg d0, if_pos d1, if_pos d1, if_neg d0, R_isO, gb_s, p1, cb_s]
        exact ⟨r3, rfl, p2, q2.trans p3⟩
      · rw [if_neg d0, if_neg d0, if_neg d1, if_neg d1, List.append_nil]
        exact ⟨r2, rfl, h2, q2⟩
  have gg := s_get (g := g) (m := m) (r := r1) (k := i) (f := 5) (x := 5) rfl hi0 (by decide)
  rw [est r1 e3] at gg
  unfold x9_writeHiker
  rw [R_isO, gb_s, e1, cb_s, R_isO, gb_s, gg, cb_s]
  by_cases h5 : hk (r.2 1) i 5 = -1
  · obtain ⟨r3, p1, p2, p3⟩ := j30 r1 _ e2 e3 (by rw [List.length_append, List.length_singleton]; omega)
    rw [if_pos (show r.2 1 (49 + 10 * i + 5) = -1 from h5), p1, if_pos h5, List.append_nil, ← List.append_assoc]
    exact ⟨r3, rfl, p2, p3⟩
  · have tt := s_thk (g := g) (m := m) (r := r1) (by rw [est r1 e3]; exact w) hi0
    rw [est r1 e3, t2] at tt
    obtain ⟨r2, q1, q2, q3⟩ := s_put (g := g) (m := m) (b := 48 + t) (x := 48 + I t) e2 (by rw [List.length_append, List.length_singleton]; omega) (by omega) (I_add 48 t)
    obtain ⟨r3, p1, p2, p3⟩ := j30 r2 _ q2 (e3.trans q3) (by simp only [List.length_append, List.length_singleton]; omega)
    rw [if_neg (show ¬ r.2 1 (49 + 10 * i + 5) = -1 from h5), R_isO, gb_s, tt, cb_s, R_isO, gb_s, q1, cb_s, p1, if_neg h5, t3]
    simp only [← List.append_assoc] at p2 ⊢
    exact ⟨r3, rfl, p2, p3⟩
theorem s_writeBunks (G : Gd (r.2 1)) : ∃ r1, x9_writeBunks m (putR g m r) = some (I (bks (r.2 1) (nB (r.2 1))).length, putR g m r1) ∧ OR r1 (bks (r.2 1) (nB (r.2 1))) ∧ Ro (RS_setF r 6 0) r1 := by
  have hh := G.1.b
  generalize hst : r.2 1 = st at G hh ⊢
  obtain ⟨t, g1, e1, r1, rfl, e2, e3⟩ := loop_inv (body := x9_writeBunks_l12 m) (n := nB st) (fuel := 1000) (s := (0 : Int32)) (g := putR g m (RS_setF (RS_setF r 6 0) 20 0)) (fun i x g1 => x = I i ∧ ∃ r1, g1 = putR g m r1 ∧ OR r1 (bks st i) ∧ Ro (RS_setF r 6 0) r1) (fun _ g1 => ∃ r1, g1 = putR g m r1 ∧ OR r1 (bks st (nB st)) ∧ Ro (RS_setF r 6 0) r1) (fun i x g1 hi h0 => by
    obtain ⟨rfl, r1, rfl, h1, q1⟩ := h0
    have hln := bks_len st i
    have est : ∀ r2, Ro (RS_setF r 6 0) r2 → r2.2 1 = st := fun r2 q => (q.2 1 (by decide)).trans hst
    have e33 : ∀ r2 l2, OR r2 l2 → Ro (RS_setF r 6 0) r2 → l2.length ≤ 240 → ∃ r3, x9_writeBunks_j33_12 m (I i) (putR g m r2) = some (.inl (I (i + 1)), putR g m r3) ∧ OR r3 (l2 ++ bnk st i) ∧ Ro (RS_setF r 6 0) r3 := fun r2 l2 h2 q2 hl2 => by
      have bb := s_inBunk (g := g) (m := m) (r := r2) (by rw [est r2 q2]; exact G.1) (I i)
      rw [est r2 q2] at bb
      unfold x9_writeBunks_j33_12 x9_writeBunks_j60_12 bnk
      rw [R_isO, gb_s, bb, cb_s]
      rcases inB_cases G.1 (I i) with c1 | ⟨k, k1, k2, k3, k4⟩
      · obtain ⟨r3, p1, p2, p3⟩ := s_put (g := g) (m := m) (b := 45) (x := 45) h2 (by omega) (by decide) rfl
        rw [if_pos c1, if_pos c1, R_isO, gb_s, p1, cb_s, I_succ]
        exact ⟨r3, rfl, p2, q2.trans p3⟩
      · have hne : ¬ inB st (I i) = -1 := by rw [k2]; exact I_ne_neg (by have := G.1.h.2; omega)
        have := s_hikerW (g := g) (m := m) (r := r2) (l := l2) (by rw [est r2 q2]; exact G) (i := k) (by rw [est r2 q2]; exact k1) h2 hl2
        rw [est r2 q2] at this
        obtain ⟨r3, p1, p2, p3⟩ := this
        rw [if_neg hne, if_neg hne, R_isO, gb_s, bb, cb_s, R_isO, gb_s, k3, k2, p1, cb_s, I_succ]
        exact ⟨r3, rfl, p2, q2.trans p3⟩
    unfold x9_writeBunks_l12
    rw [R_getR (d := 1) rfl, gb_s, R_s (k := 9) (x := 9) rfl (by decide), gb_s, est r1 q1, hh.1, if_neg (show ¬ I (nB st) ≤ I i by rw [I_le (by omega) (by omega)]; omega)]
    by_cases h0 : i = 0
    · obtain ⟨r3, p1, p2, p3⟩ := e33 r1 _ h1 q1 (by omega)
      rw [if_pos (show I i ≤ 0 by rw [h0]; exact Int32.le_refl 0), p1]
      refine ⟨_, _, rfl, rfl, r3, rfl, ?_, p3⟩
      rw [bks, if_pos h0, List.append_nil]
      exact p2
    · obtain ⟨r2, m1, m2, m3⟩ := s_put (g := g) (m := m) (b := 32) (x := 32) h1 (by omega) (by decide) rfl
      obtain ⟨r3, p1, p2, p3⟩ := e33 r2 _ m2 (q1.trans m3) (by rw [List.length_append, List.length_singleton]; omega)
      rw [if_neg (show ¬ I i ≤ 0 by rw [show (0 : Int32) = I 0 from rfl, I_le (by omega) (by decide)]; omega), R_isO, gb_s, m1, cb_s, p1]
      refine ⟨_, _, rfl, rfl, r3, rfl, ?_, p3⟩
      rw [bks, if_neg h0]
      exact p2) (fun x g1 h0 => by
    obtain ⟨rfl, r1, rfl, h1, q1⟩ := h0
    unfold x9_writeBunks_l12
    rw [R_getR (d := 1) rfl, gb_s, R_s (k := 9) (x := 9) rfl (by decide), gb_s, (q1.2 1 (by decide)).trans hst, hh.1, if_pos (Int32.le_refl _)]
    exact ⟨_, _, rfl, r1, rfl, h1, q1⟩) (by omega) ⟨rfl, _, rfl, ⟨RSF_at _ _ _, fun i hi => absurd hi (Nat.not_lt_zero _)⟩, fun k hk0 => RSF_ne hk0, fun d _ => rfl⟩
  unfold x9_writeBunks
  rw [R_putI rfl, gb_s, R_putI rfl, gb_s, e1, cb_s, R_getI rfl, gb_s, e2.1]
  exact ⟨r1, rfl, e2, e3⟩
end Bnk
