/-! the text in the world -/
def hi8 (x : Int32) : Int32 := x
section Text2
variable {g : AH} {n L : Nat} {w : WS} {T : Nat → Int32} {gi : Nat → Int32} {a b c : Int32}
theorem W_6 : getR 8 (putW g n w) n 6 = some (n + 303) := W_o8 rfl
theorem W_60 : getR 0 (putW g n w) (n + 303) 0 = some (n + 303 + 1) := by
  have := P_getR0 (g := putW g n w) (p := n + 303) (s := w.2.2.2.1)
  rw [W_P] at this
  exact this
theorem W_isO7 : isO 7 (putW g n w) (n + 303 + 1) = some () := by
  have := P_isO7 (g := putW g n w) (p := n + 303) (s := w.2.2.2.1)
  rw [W_P] at this
  exact this
theorem W_isO0 : isO 0 (putW g n w) (n + 303) = some () := by
  have := P_isO0 (g := putW g n w) (p := n + 303) (s := w.2.2.2.1)
  rw [W_P] at this
  exact this
theorem W_tI {k : Nat} (h : k ≠ 0) : getI 7 (putW g n w) (n + 303 + 1) k = some (w.2.2.2.1.2.1 k) := by
  have := P_tI (g := putW g n w) (p := n + 303) (s := w.2.2.2.1) h
  rw [W_P] at this
  exact this
theorem W_gI {k : Nat} (h : k ≠ 0) : getI 0 (putW g n w) (n + 303) k = some (w.2.2.2.1.1 k) := by
  have := P_gI (g := putW g n w) (p := n + 303) (s := w.2.2.2.1) h
  rw [W_P] at this
  exact this
theorem W_putT {k : Nat} {v : Int32} (h : k ≠ 0) : putV 7 (putW g n w) (n + 303 + 1) k (.int v) = some (putW g n (wP w (pT w.2.2.2.1 k v))) := by
  have := P_putT (g := putW g n w) (p := n + 303) (s := w.2.2.2.1) (v := v) h
  rw [W_P, W_setP] at this
  exact this
theorem Wp_put1 (v : Int32) (hL : L < 500) : x7_put (n + 303 + 1) v (putW g n (wP w (gi, tiC (I L) a b c, T))) = some ((), putW g n (wP w (gi, tiC (I (L + 1)) a b c, upd T L (v &&& 255)))) := by
  have := c_put1 (g := putW g n w) (p := n + 303) (gi := gi) (a := a) (b := b) (c := c) (T := T) v hL
  rw [W_setP, W_setP] at this
  exact this
theorem Wp_room {k : Nat} {x : Int32} (hx : x = I k) (hL : L ≤ 500) (hk0 : k ≤ 4) : x7_hasRoomFor (n + 303 + 1) x (putW g n (wP w (gi, tiC (I L) a b c, T))) = some (if 500 < L + k then 0 else 1, putW g n (wP w (gi, tiC (I L) a b c, T))) := by
  have := c_room (g := putW g n w) (p := n + 303) (gi := gi) (a := a) (b := b) (c := c) (T := T) hx hL hk0
  rw [W_setP] at this
  exact this
/-- the class appends -/
theorem c_append (hL : L ≤ 500) (x : Int32) : x8_appendText n x (putW g n (wP w (gi, tiC (I L) a b c, T))) = if L + 4 ≤ 500 then some (.inl (I (L + 4)), putW g n (wP w (gi, tiC (I (L + 4)) a b c, T4 T L x))) else some (.inr "java/lang/IllegalStateException", hcut (putW g n (wP w (gi, tiC (I L) a b c, T)))) := by
  unfold x8_appendText
  rw [W_6, gb_s, W_60, gb_s, W_isO7, gb_s, Wp_room (k := 4) (x := 4) rfl hL (by decide), cb_s]
  by_cases h : L + 4 ≤ 500
  · rw [if_neg (show ¬ 500 < L + 4 by omega), if_neg (show ¬ (1 : Int32) = 0 by decide), if_pos h, W_6, gb_s, W_60, gb_s, W_isO7, gb_s, Wp_put1 _ (by omega), cb_s, W_6, gb_s, W_60, gb_s, W_isO7, gb_s, Wp_put1 _ (by omega), cb_s, W_6, gb_s, W_60, gb_s, W_isO7, gb_s, Wp_put1 _ (by omega), cb_s, W_6, gb_s, W_60, gb_s, W_isO7, gb_s, Wp_put1 _ (by omega), cb_s, W_6, gb_s, W_60, gb_s, W_tI (by decide), gb_s]
    rfl
  · rw [if_pos (show 500 < L + 4 by omega), if_pos (show (0 : Int32) = 0 from rfl), if_neg h]
/-- the class cuts -/
theorem c_truncate (hL : L ≤ 500) (x : Int32) : x8_truncateText n x (putW g n (wP w (gi, tiC (I L) a b c, T))) = if bt x 0 (I L) = true then some (.inl x, putW g n (wP w (gi, tiC x a b c, T))) else some (.inr "java/lang/IllegalArgumentException", hcut (putW g n (wP w (gi, tiC (I L) a b c, T)))) := by
  unfold x8_truncateText
  rw [W_6, gb_s, W_60, gb_s, W_tI (by decide), gb_s]
  show cb (x8_isWithin x 0 (I L) (putW g n (wP w (gi, tiC (I L) a b c, T)))) _ = _
  rw [s_isWithin, cb_s]
  by_cases h : bt x 0 (I L) = true
  · rw [if_neg (show ¬ bI (bt x 0 (I L)) = 0 by rw [bI_z, h]; decide), if_pos h, W_6, gb_s, W_60, gb_s, W_putT (by decide), gb_s]
    show some ((Sum.inl x : Int32 ⊕ String), putW g n (wP w (gi, upd (tiC (I L) a b c) 1 x, T))) = _
    rw [ti1]
  · rw [if_pos ((bI_z _).mpr (by simpa using h)), if_neg h]
theorem s_truncate {m : Nat} {r : RS} (h9 : r.1 9 = I L) (x : Int32) : x9_truncateText m x (putR g m r) = if bt x 0 (I L) = true then some (x, putR g m (RS_setF (RS_setF r 6 0) 9 x)) else some (0, putR g m (RS_setF r 6 1)) := by
  have e9 : (RS_setF r 6 0).1 9 = I L := (RSF_ne (by decide)).trans h9
  unfold x9_truncateText
  rw [R_putI rfl, gb_s, R_getI rfl, gb_s, e9, s_isBetween, cb_s]
  by_cases h : bt x 0 (I L) = true
  · rw [if_neg (show ¬ bI (bt x 0 (I L)) = 0 by rw [bI_z, h]; decide), if_pos h, R_putI rfl, gb_s, R_getI rfl, gb_s, RSF_at]
  · rw [if_pos ((bI_z _).mpr (by simpa using h)), if_neg h, R_isO, gb_s]
    unfold x9_fail
    rw [R_putI rfl, gb_s, cb_s, RSF_two]
/-- a byte of what was written -/
theorem c_outputByte {s : OS} {l : List Nat} (h : OC s l) (hl : l.length ≤ 300) (x : Int32) : x8_outputByte n x (putW g n (wO w s)) = some (if bt x 0 (I l.length - 1) = true then I (l.getD (kN x) 0) else -1, putW g n (wO w s)) := by
  have eC : getI 4 (putW g n (wO w s)) (n + 310) 1 = some s.1 := W_cnt (w := wO w s)
  unfold x8_outputByte
  rw [W_8o, gb_s, eC, gb_s, h.1, s_isWithin, cb_s]
  by_cases hb : bt x 0 (I l.length - 1) = true
  · have h0 : ¬ l.length = 0 := fun h0 => by
      rw [h0] at hb
      exact absurd hb (by
        unfold bt
        by_cases c1 : x < 0
        · simp [c1]
        · have c2 : I 0 - 1 < x := Int32.lt_of_lt_of_le (by decide) (Int32.not_lt.mp c1)
          simp [c2])
    have e1 : I l.length - 1 = I (l.length - 1) := by rw [show (1 : Int32) = I 1 from rfl, I_sub (by omega)]
    rw [e1] at hb
    obtain ⟨k, k1, k2, k3, k4⟩ := bt_ex (lo := 0) (by decide) (by omega) hb
    rw [e1, if_neg (show ¬ bI (bt x 0 (I (l.length - 1))) = 0 by rw [bI_z, hb]; decide), if_pos hb, W_8o, gb_s]
    have r0 : getR 4 (putW g n (wO w s)) (n + 310) 0 = some (n + 310 + 1) := by
      have := O_getR (g := putW g n (wO w s)) (p := n + 310) (s := s)
      rw [show putO (putW g n (wO w s)) (n + 310) s = putW g n (wO w s) from W_O (w := wO w s)] at this
      exact this
    have a0 : aldI 0 (putW g n (wO w s)) (n + 310 + 1) x = some (s.2 k) := by
      have := O_ald (g := putW g n (wO w s)) (p := n + 310) (s := s) (k := k) k3 (by omega)
      rw [show putO (putW g n (wO w s)) (n + 310) s = putW g n (wO w s) from W_O (w := wO w s)] at this
      exact this
    rw [r0, gb_s, a0, gb_s, h.2 k (by omega), k4]
  · rw [if_pos ((bI_z _).mpr (by simpa using hb)), if_neg hb]
theorem s_outputByte {m : Nat} {r : RS} {l : List Nat} (h : OR r l) (hl : l.length ≤ 300) (x : Int32) : x9_outputByte m x (putR g m r) = some (if bt x 0 (I l.length - 1) = true then I (l.getD (kN x) 0) else -1, putR g m (RS_setF r 6 0)) := by
  have e20 : (RS_setF r 6 0).1 20 = I l.length := (RSF_ne (by decide)).trans h.1
  unfold x9_outputByte
  rw [R_putI rfl, gb_s, R_getI rfl, gb_s, e20, s_isBetween, cb_s]
  by_cases hb : bt x 0 (I l.length - 1) = true
  · have h0 : ¬ l.length = 0 := fun h0 => by
      rw [h0] at hb
      exact absurd hb (by
        unfold bt
        by_cases c1 : x < 0
        · simp [c1]
        · have c2 : I 0 - 1 < x := Int32.lt_of_lt_of_le (by decide) (Int32.not_lt.mp c1)
          simp [c2])
    have e1 : I l.length - 1 = I (l.length - 1) := by rw [show (1 : Int32) = I 1 from rfl, I_sub (by omega)]
    rw [e1] at hb
    obtain ⟨k, k1, k2, k3, k4⟩ := bt_ex (lo := 0) (by decide) (by omega) hb
    rw [e1, if_neg (show ¬ bI (bt x 0 (I (l.length - 1))) = 0 by rw [bI_z, hb]; decide), if_pos hb, R_getR (d := 10) rfl, gb_s, k3, R_aldN (d := 10) (t := 1) (by decide) (by decide) rfl (by show _ < 300; omega), gb_s]
    show some (r.2 10 k &&& 255, _) = _
    rw [h.2 k (by omega), ← k3, k4]
  · rw [if_pos ((bI_z _).mpr (by simpa using hb)), if_neg hb]
end Text2
