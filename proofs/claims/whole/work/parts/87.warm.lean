/-! huts on trial: the warmest bunk, the loudest snorer -/
theorem mv_bl {st : St} {S C D O : Nat} (h : Bl S C D O st) (i : Nat) (v : Int32) : Bl S C D O (mvS st i v) := h.upN (lim_h (by decide))
theorem wN_b {st : St} {S C D O i : Nat} (w : Ws st) (h : Bl S C D O st) (hi : i < 10) : B0 (wN st i) 60 := by
  obtain ⟨x, x1, x2⟩ := wB_b w h hi
  obtain ⟨y, y1, y2⟩ := thk_b w h hi
  unfold wN
  rw [x2, y2, I_add]
  exact ⟨_, by omega, rfl⟩
theorem good_lt {a b c d : Nat} (ha : a ≤ 60) (hb : b ≤ 27) (hc : c ≤ 60) (hd : d ≤ 27) : 100 * I a - I b ≤ 100 * I c - I d ↔ ¬ (I c < I a ∨ (I a = I c ∧ I b < I d)) := by
  rw [show (100 : Int32) = I 100 from rfl, I_mul, I_mul, Int32.le_iff_toInt_le, Is_int (by omega) (by omega), Is_int (by omega) (by omega), I_lt (by omega) (by omega), I_lt (by omega) (by omega), I_eq (by omega) (by omega)]
  omega
/-- how good the reference finds it -/
def gdS (x : Option Nat × Int32 × Int32) : Int32 := if x.1 = none then 0 else 100 * x.2.1 - x.2.2
section Warm
variable {g : AH} {t q pl m : Nat} {h k : HS} {st : St} {r : RS}
theorem wbS_b {S C D O : Nat} (w : Ws st) (u : Un st) (bd : Bl S C D O st) {i : Nat} (hi : i < nH st) : ∀ n, n ≤ nB st → B0 (wbS st i n).2.1 60 ∧ B0 (wbS st i n).2.2 27 := by
  intro n
  induction n with
  | zero => intro _; exact ⟨⟨0, by decide, rfl⟩, ⟨0, by decide, rfl⟩⟩
  | succ n ih =>
    intro hn
    rw [wbS]
    split
    · rename_i hc
      have w1 := (mv_ok w u hi (v := I n) (Or.inr ⟨n, by omega, rfl, hc.1⟩)).1
      have hh := w.h.2
      exact ⟨wN_b w1 (mv_bl bd i (I n)) (by omega), noi_b w1 (mv_bl bd i (I n)) (I n)⟩
    · exact ih (by omega)
theorem c_warm (hq : putH g q k = g) (hd : t + 27 ≤ q ∨ q + 27 ≤ t) (hpl : ∀ h, getR 5 (putH g t h) pl 0 = some t) (w : Ws st) (u : Un st) (R : Rel st k) {i : Nat} (hi : i < nH st) : ∃ h1, x5_bunkForMostWarmth pl q (I i) (putH g t h) = some (oI (wbS st i (nB st)).1, putH g t h1) := by
  have hh := w.h.2
  have hb0 := w.b.2
  have hi0 : i < 10 := by omega
  have e9 : k.1 9 = I (nB st) := (Rel_at R 9 (by decide)).trans w.b.1
  obtain ⟨h1, e1, c1⟩ := c_copyFrom (h := h) hq hd hh ((Rel_at R 12 (by decide)).trans w.h.1)
  have R1 := Rel_cp w R c1
  have hst : mvS st i (hk st i 4) = st := upd_self rfl
  unfold x5_bunkForMostWarmth
  rw [hpl, gb_s, H_isO, gb_s, e1, cb_s]
  have H := loop_inv (body := x5_bunkForMostWarmth_l19 pl q (I i)) (n := nB st) (fuel := 1000) (s := (-1, 0, 0, 0)) (g := putH g t h1) (fun n s g1 => s = (oI (wbS st i n).1, (wbS st i n).2.1, (wbS st i n).2.2, I n) ∧ ∃ h v, g1 = putH g t h ∧ Ws (mvS st i v) ∧ Un (mvS st i v) ∧ Rel (mvS st i v) h) (fun s g1 => s = oI (wbS st i (nB st)).1 ∧ ∃ h, g1 = putH g t h) (fun n s g1 hn h0 => by
      obtain ⟨rfl, h3, v, rfl, w3, u3, R3⟩ := h0
      unfold x5_bunkForMostWarmth_l19 x5_bunkForMostWarmth_j100_19 x5_bunkForMostWarmth_j111_19
      dsimp only
      rw [Q_getI hq hd (by decide), gb_s, cn_lt e9 (by omega) hn, atq hq hd (fun G => c_isFree (g := G) w R i n), cb_s, wbS]
      by_cases hf : freeB st i n = true
      · have hv : I n = -1 ∨ ∃ b, b < nB st ∧ I n = I b ∧ freeB st i b = true := Or.inr ⟨n, hn, rfl, hf⟩
        obtain ⟨w4, u4⟩ := mv_ok w u hi hv
        have hm : upd (mvS st i v) (49 + 10 * i + 4) (I n) = mvS st i (I n) := upd_two
        have hu4 : Un (upd (mvS st i v) (49 + 10 * i + 4) (I n)) := by rw [hm]; exact u4
        obtain ⟨h5, e5, R5, M5⟩ := c_moveTo (g := g) (p := t) w3 u3 R3 (by rw [(mv_n st i v).1]; exact hi) (v := I n) (Or.inr ⟨n, by rw [(mv_n st i v).2]; exact hn, rfl⟩) hu4
        rw [hm] at R5 M5
        have P : ∃ h v, putH g t h5 = putH g t h ∧ Ws (mvS st i v) ∧ Un (mvS st i v) ∧ Rel (mvS st i v) h := ⟨h5, I n, rfl, w4, u4, R5⟩
        rw [if_neg (by rw [bI_z, hf]; decide), hpl, gb_s, H_isO, gb_s, e5, cb_s, hpl, gb_s, H_getR (d := 6) rfl (by decide) (by decide), gb_s, H_hik hi0, gb_s, K_getI hi0 (by decide), gb_s, gb_s, H_isO, gb_s, c_noiseAt w4 R5 M5 (by rw [(mv_n st i (I n)).2]; exact hn), cb_s, (M5.1 i (by rw [(mv_n st i (I n)).1]; exact hi)).2]
        cases hb : (wbS st i n).1 with
        | none =>
          rw [if_pos (show oI none = -1 from rfl), if_pos ⟨hf, Or.inl rfl⟩, I_succ]
          exact ⟨_, _, rfl, rfl, P⟩
        | some b =>
          have hne : ¬ oI (some b) = -1 := by
            have hlt : ∀ n, n ≤ nB st → ∀ b, (wbS st i n).1 = some b → b < n := by
              intro n
              induction n with
              | zero => intro _ b h; cases h
              | succ n ih =>
                intro hn b h
                rw [wbS] at h
                split at h
                · cases h; omega
                · have := ih (by omega) b h; omega
            have := hlt n (by omega) b hb
            exact I_ne_neg (by omega)
          rw [if_neg hne]
          by_cases h6 : (wbS st i n).2.1 < wN (mvS st i (I n)) i
          · rw [if_pos h6, if_pos ⟨hf, Or.inr (Or.inl h6)⟩, I_succ]
            exact ⟨_, _, rfl, rfl, P⟩
          · rw [if_neg h6]
            by_cases h7 : wN (mvS st i (I n)) i = (wbS st i n).2.1
            · rw [if_pos h7]
              by_cases h8 : (wbS st i n).2.2 ≤ noi (mvS st i (I n)) (I n)
              · rw [if_pos h8, if_neg (fun hc => by
                  rcases hc.2 with hc | hc | hc
                  · cases hc
                  · exact h6 hc
                  · exact absurd hc.2 (Int32.not_lt.mpr h8)), I_succ, hb]
                exact ⟨_, _, rfl, rfl, P⟩
              · rw [if_neg h8, if_pos ⟨hf, Or.inr (Or.inr ⟨h7, Int32.not_le.mp h8⟩)⟩, I_succ]
                exact ⟨_, _, rfl, rfl, P⟩
            · rw [if_neg h7, if_neg (fun hc => by
                  rcases hc.2 with hc | hc | hc
                  · cases hc
                  · exact h6 hc
                  · exact h7 hc.1), I_succ, hb]
              exact ⟨_, _, rfl, rfl, P⟩
      · rw [if_pos ((bI_z _).mpr (by simpa using hf)), if_neg (fun h => hf h.1), I_succ]
        exact ⟨_, _, rfl, rfl, h3, v, rfl, w3, u3, R3⟩) (fun s g1 h0 => by
      obtain ⟨rfl, h3, v, rfl, -⟩ := h0
      unfold x5_bunkForMostWarmth_l19
      dsimp only
      rw [Q_getI hq hd (by decide), gb_s, cn_ge e9 (by omega)]
      exact ⟨_, _, rfl, rfl, h3, rfl⟩) (by omega) ⟨rfl, h1, hk st i 4, rfl, by rw [hst]; exact w, by rw [hst]; exact u, by rw [hst]; exact R1⟩
  obtain ⟨t2, g2, e3, rfl, h3, rfl⟩ := H
  rw [e3, cb_s]
  exact ⟨h3, rfl⟩
theorem s_goodness {a z du : St} {i : Nat} {v : Int32} (hi : i < 10) (w1 : Ws (mvS z i v)) : x9_goodness m (I i) v (putR g m (RD (RS_setA r 2 a) z du)) = some (100 * wN (mvS z i v) i - noi (mvS z i v) v, putR g m (RD (RS_setA r 2 a) (mvS z i v) du)) := by
  have w1' : Ws (upd z (49 + 10 * i + 4) v) := w1
  unfold x9_goodness
  rw [R_isO, gb_s, D_set (f := 4) (x := 4) rfl hi (by decide), cb_s, R_isO, gb_s, D_warmthNow w1' hi, cb_s, R_isO, gb_s, D_noise w1', cb_s]
  rfl
theorem s_warm (w : Ws (r.2 1)) (u : Un (r.2 1)) {S C D O : Nat} (bd : Bl S C D O (r.2 1)) {i : Nat} (hi : i < nH (r.2 1)) : ∃ r1, x9_warmestBunk m (I i) (putR g m r) = some (oI (wbS (r.2 1) i (nB (r.2 1))).1, putR g m r1) ∧ Sq r r1 ∧ r1.1 6 = 0 := by
  have hh := w.h.2
  have hb0 := w.b.2
  have hi0 : i < 10 := by omega
  unfold x9_warmestBunk
  rw [R_putI rfl, gb_s, R_isO, gb_s, s_isHiker, cb_s]
  have hH : isH (r.2 1) (I i) = true := by rw [isH_has w, w.h.1]; exact has_I (by omega) hi
  rw [show isH ((RS_setF r 6 0).2 1) (I i) = true from hH, if_neg (by decide)]
  have hS : ∀ r1 : RS, Sq (RS_setF r 6 0) r1 → r1.2 1 = r.2 1 := fun r1 h => h.st
  have H := loop_inv (body := x9_warmestBunk_l26 m (I i)) (n := nB (r.2 1)) (fuel := 1000) (s := (-1, 0, 0)) (g := putR g m (RS_setF r 6 0)) (fun n s g1 => s = (oI (wbS (r.2 1) i n).1, gdS (wbS (r.2 1) i n), I n) ∧ ∃ r1, g1 = putR g m r1 ∧ Sq (RS_setF r 6 0) r1 ∧ r1.1 6 = 0) (fun s g1 => s = oI (wbS (r.2 1) i (nB (r.2 1))).1 ∧ ∃ r1, g1 = putR g m r1 ∧ Sq (RS_setF r 6 0) r1 ∧ r1.1 6 = 0) (fun n s g1 hn h0 => by
      obtain ⟨rfl, r1, rfl, q1, q2⟩ := h0
      have e1 := hS r1 q1
      have w1 : Ws (r1.2 1) := by rw [e1]; exact w
      unfold x9_warmestBunk_l26 x9_warmestBunk_j76_26 x9_warmestBunk_j82_26
      dsimp only
      rw [R_getR rfl, gb_s, R_s (k := 9) (x := 9) rfl (by decide), gb_s, e1, cn_lt w.b.1 (by omega) hn, R_isO, gb_s, s_isFree w1, cb_s, e1, wbS]
      by_cases hf : freeB (r.2 1) i n = true
      · have hv : I n = -1 ∨ ∃ b, b < nB (r.2 1) ∧ I n = I b ∧ freeB (r.2 1) i b = true := Or.inr ⟨n, hn, rfl, hf⟩
        have w4 := (mv_ok w u hi hv).1
        have hhi : Hi (r1.2 1) (mvS (r1.2 1) i (I n)) := Hi.refl.up (by omega)
        have q3 := q1.trans (s_asideSq (r := r1) (du := r1.2 6))
        rw [if_neg (by rw [bI_z, hf]; decide), R_isO, gb_s, s_goAside2, cb_s, R_isO, gb_s, s_goodness hi0 (by rw [e1]; exact w4), cb_s, R_isO, gb_s, s_aside hhi, cb_s, e1]
        rw [e1] at q3
        have P : ∃ r2, putR g m (RS_setA (RS_setA r1 2 (cp1 (r.2 1) (r1.2 2))) 6 (r1.2 6)) = putR g m r2 ∧ Sq (RS_setF r 6 0) r2 ∧ r2.1 6 = 0 := ⟨_, rfl, q3, q2⟩
        obtain ⟨a, a1, a2⟩ := wN_b w4 (mv_bl bd i (I n)) hi0
        obtain ⟨b, b1, b2⟩ := noi_b w4 (mv_bl bd i (I n)) (I n)
        obtain ⟨⟨c, c1, c2⟩, ⟨d, d1, d2⟩⟩ := wbS_b w u bd hi n (by omega)
        have hlt : ∀ n, n ≤ nB (r.2 1) → ∀ b, (wbS (r.2 1) i n).1 = some b → b < n := by
          intro n
          induction n with
          | zero => intro _ b h; cases h
          | succ n ih =>
            intro hn b h
            rw [wbS] at h
            split at h
            · cases h; omega
            · have := ih (by omega) b h; omega
        have hlt2 := hlt n (by omega)
        rw [a2, b2]
        generalize wbS (r.2 1) i n = y at c2 d2 hlt2 ⊢
        obtain ⟨y1, y2, y3⟩ := y
        dsimp only at c2 d2 hlt2 ⊢
        rw [c2, d2]
        cases y1 with
        | none =>
          rw [if_pos (show oI none = -1 from rfl), if_pos ⟨hf, Or.inl rfl⟩, I_succ]
          exact ⟨_, _, rfl, rfl, P⟩
        | some e =>
          have := hlt2 e rfl
          rw [if_neg (show ¬ oI (some e) = -1 from I_ne_neg (by omega))]
          have eg : gdS (some e, I c, I d) = 100 * I c - I d := if_neg (by intro h; cases h)
          rw [eg]
          have hgl := good_lt a1 b1 c1 d1
          by_cases h6 : 100 * I a - I b ≤ 100 * I c - I d
          · rw [if_pos h6, if_neg (fun hc => hgl.mp h6 (hc.2.resolve_left (by intro h; cases h))), I_succ]
            exact ⟨_, _, rfl, by rw [eg], P⟩
          · rw [if_neg h6, if_pos ⟨hf, Or.inr (Decidable.not_not.mp (fun hc => h6 (hgl.mpr hc)))⟩, I_succ]
            exact ⟨_, _, rfl, rfl, P⟩
      · rw [if_pos ((bI_z _).mpr (by simpa using hf)), if_neg (fun h => hf h.1), I_succ]
        exact ⟨_, _, rfl, rfl, r1, rfl, q1, q2⟩) (fun s g1 h0 => by
      obtain ⟨rfl, r1, rfl, q1, q2⟩ := h0
      have e1 := hS r1 q1
      unfold x9_warmestBunk_l26
      dsimp only
      rw [R_getR rfl, gb_s, R_s (k := 9) (x := 9) rfl (by decide), gb_s, e1, cn_ge w.b.1 (by omega)]
      exact ⟨_, _, rfl, rfl, r1, rfl, q1, q2⟩) (by omega) ⟨rfl, _, rfl, Sq.refl, rfl⟩
  obtain ⟨t2, g2, e3, rfl, r1, rfl, q1, q2⟩ := H
  rw [e3, cb_s]
  exact ⟨r1, rfl, Sq.f6.trans q1, q2⟩
theorem snz_ok (w : Ws st) (u : Un st) {i : Nat} : Ws (snz st i) ∧ Un (snz st i) := by
  have k : Kp st (snz st i) := Kp.refl.up (by omega) (fun j hj => by omega)
  exact ⟨k.ws w, k.un w u⟩
theorem c_loud (hq : putH g q k = g) (hd : t + 27 ≤ q ∨ q + 27 ≤ t) (hpl : ∀ h, getR 5 (putH g t h) pl 0 = some t) (w : Ws st) (u : Un st) (R : Rel st k) (M : Meas st k) : ∃ h1, x5_loudestDisturber pl q (putH g t h) = some (oI (wzS st (nH st)).1, putH g t h1) := by
  have hh := w.h.2
  obtain ⟨h1, e1, c1⟩ := c_copyFrom (h := h) hq hd hh ((Rel_at R 12 (by decide)).trans w.h.1)
  have R1 := Rel_cp w R c1
  have M1 := Meas_cp M c1
  have e12 : k.1 12 = I (nH st) := (Rel_at R 12 (by decide)).trans w.h.1
  unfold x5_loudestDisturber
  rw [hpl, gb_s, H_isO, gb_s, e1, cb_s, hpl, gb_s, H_isO, gb_s, c_countOf w R1 M1, cb_s]
  have H := loop_inv (body := x5_loudestDisturber_l22 pl q) (n := nH st) (fuel := 1000) (s := (-1, cntD st 1, 0)) (g := putH g t h1) (fun n s g1 => s = (oI (wzS st n).1, (wzS st n).2, I n) ∧ ∃ h, g1 = putH g t h ∧ Rel st h) (fun s g1 => s = oI (wzS st (nH st)).1 ∧ ∃ h, g1 = putH g t h) (fun n s g1 hn h0 => by
      obtain ⟨rfl, h3, rfl, R3⟩ := h0
      have hn0 : n < 10 := by omega
      obtain ⟨w4, u4⟩ := snz_ok (i := n) w u
      have hn4 : nH (snz st n) = nH st := by unfold snz nH; rw [upd_ne (by omega)]
      have R4 : Rel (snz st n) (hK h3 n 1 0) := R3.upK w hn0 (by decide)
      obtain ⟨h5, e5, R5, M5⟩ := c_measure (g := g) (p := t) w4 u4 R4
      have R6 : Rel st (hK h5 n 1 (hk st n 1)) := by
        have h6 := R5.upK (v := hk st n 1) w4 hn0 (f := 1) (by decide)
        unfold snz at h6
        rw [upd_two, upd_self (show hk st n 1 = st (49 + 10 * n + 1) from rfl)] at h6
        exact h6
      have e74 : ∀ a b : Int32, x5_loudestDisturber_j74_22 pl q a b (I n) (putH g t h5) = some (.inl (a, b, I (n + 1)), putH g t (hK h5 n 1 (hk st n 1))) := by
        intro a b
        unfold x5_loudestDisturber_j74_22
        rw [hpl, gb_s, H_getR (d := 6) rfl (by decide) (by decide), gb_s, H_hik hn0, gb_s, Q_getR (d := 6) hq hd rfl (by decide) (by decide), gb_s, Q_hik hq hd hn0, gb_s, Q_kI hq hd hn0 (by decide), gb_s, R.2.2.1 n hn 1 (by decide), K_putI hn0 (by decide), gb_s, I_succ]
      unfold x5_loudestDisturber_l22
      dsimp only
      rw [Q_getI hq hd (by decide), gb_s, cn_lt e12 (by omega) hn, hpl, gb_s, H_getR (d := 6) rfl (by decide) (by decide), gb_s, H_hik hn0, gb_s, K_putI hn0 (by decide), gb_s, hpl, gb_s, H_isO, gb_s, e5, cb_s, hpl, gb_s, H_isO, gb_s, c_countOf w4 R5 M5, cb_s, e74, e74, wzS]
      by_cases hc : (wzS st n).2 ≤ cntD (snz st n) 1
      · rw [if_pos hc, if_neg (Int32.not_lt.mpr hc)]
        exact ⟨_, _, rfl, rfl, _, rfl, R6⟩
      · rw [if_neg hc, if_pos (Int32.not_le.mp hc)]
        exact ⟨_, _, rfl, rfl, _, rfl, R6⟩) (fun s g1 h0 => by
      obtain ⟨rfl, h3, rfl, -⟩ := h0
      unfold x5_loudestDisturber_l22
      dsimp only
      rw [Q_getI hq hd (by decide), gb_s, cn_ge e12 (by omega)]
      exact ⟨_, _, rfl, rfl, h3, rfl⟩) (by omega) ⟨rfl, h1, rfl, R1⟩
  obtain ⟨t2, g2, e3, rfl, h3, rfl⟩ := H
  rw [e3, cb_s]
  exact ⟨h3, rfl⟩
theorem s_awake {a z du : St} {i : Nat} (hi : i < 10) (w1 : Ws (snz z i)) : x9_awakeWithout m (I i) (putR g m (RD (RS_setA r 2 a) z du)) = some (cntD (snz z i) 1, putR g m (RD (RS_setA r 2 a) (snz z i) du)) := by
  have w1' : Ws (upd z (49 + 10 * i + 1) 0) := w1
  unfold x9_awakeWithout
  rw [R_isO, gb_s, D_set (f := 1) (x := 1) rfl hi (by decide), cb_s, R_isO, gb_s, D_countDeed w1', cb_s]
  rfl
theorem s_loud (w : Ws (r.2 1)) (u : Un (r.2 1)) : ∃ r1, x9_worstSnorer m (putR g m r) = some (oI (wzS (r.2 1) (nH (r.2 1))).1, putR g m r1) ∧ Sq r r1 ∧ r1.1 6 = 0 := by
  have hh := w.h.2
  have w' : Ws ((RS_setF r 6 0).2 1) := w
  unfold x9_worstSnorer
  rw [R_putI rfl, gb_s, R_isO, gb_s, s_countDeed w', cb_s]
  have hS : ∀ r1 : RS, Sq (RS_setF r 6 0) r1 → r1.2 1 = r.2 1 := fun r1 h => h.st
  have H := loop_inv (body := x9_worstSnorer_l15 m) (n := nH (r.2 1)) (fuel := 1000) (s := (-1, cntD (r.2 1) 1, 0)) (g := putR g m (RS_setF r 6 0)) (fun n s g1 => s = (oI (wzS (r.2 1) n).1, (wzS (r.2 1) n).2, I n) ∧ ∃ r1, g1 = putR g m r1 ∧ Sq (RS_setF r 6 0) r1 ∧ r1.1 6 = 0) (fun s g1 => s = oI (wzS (r.2 1) (nH (r.2 1))).1 ∧ ∃ r1, g1 = putR g m r1 ∧ Sq (RS_setF r 6 0) r1 ∧ r1.1 6 = 0) (fun n s g1 hn h0 => by
      obtain ⟨rfl, r1, rfl, q1, q2⟩ := h0
      have hn0 : n < 10 := by omega
      have e1 := hS r1 q1
      have w4 := (snz_ok (i := n) w u).1
      have hhi : Hi (r1.2 1) (snz (r1.2 1) n) := Hi.refl.up (by omega)
      have q3 := q1.trans (s_asideSq (r := r1) (du := r1.2 6))
      unfold x9_worstSnorer_l15 x9_worstSnorer_j52_15
      dsimp only
      rw [R_getR rfl, gb_s, R_s (k := 12) (x := 12) rfl (by decide), gb_s, e1, s_head w n hn, R_isO, gb_s, s_goAside2, cb_s, R_isO, gb_s, s_awake hn0 (by rw [e1]; exact w4), cb_s, R_isO, gb_s, s_aside hhi, cb_s, e1, wzS]
      rw [e1] at q3
      by_cases hc : (wzS (r.2 1) n).2 ≤ cntD (snz (r.2 1) n) 1
      · rw [if_pos hc, if_neg (Int32.not_lt.mpr hc), if_neg (Int32.not_lt.mpr hc), I_succ]
        exact ⟨_, _, rfl, rfl, _, rfl, q3, q2⟩
      · rw [if_neg hc, if_pos (Int32.not_le.mp hc), if_pos (Int32.not_le.mp hc), I_succ]
        exact ⟨_, _, rfl, rfl, _, rfl, q3, q2⟩) (fun s g1 h0 => by
      obtain ⟨rfl, r1, rfl, q1, q2⟩ := h0
      have e1 := hS r1 q1
      unfold x9_worstSnorer_l15
      dsimp only
      rw [R_getR rfl, gb_s, R_s (k := 12) (x := 12) rfl (by decide), gb_s, e1, s_tail w]
      exact ⟨_, _, rfl, rfl, r1, rfl, q1, q2⟩) (by omega) ⟨rfl, _, rfl, Sq.refl, rfl⟩
  obtain ⟨t2, g2, e3, rfl, r1, rfl, q1, q2⟩ := H
  have e3' : loopX (x9_worstSnorer_l15 m) 1000 (-1, cntD ((RS_setF r 6 0).2 1) 1, 0) (putR g m (RS_setF r 6 0)) = some (oI (wzS (r.2 1) (nH (r.2 1))).1, putR g m r1) := e3
  rw [e3', cb_s]
  exact ⟨r1, rfl, Sq.f6.trans q1, q2⟩
end Warm
