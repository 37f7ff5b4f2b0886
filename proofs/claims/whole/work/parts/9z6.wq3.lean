/-! the world: ranks, hours of a hiker -/
def exN (k : Nat) : String := if k = 1 then "java/util/NoSuchElementException" else ""
def exJ (k : Nat) : String := if k = 1 then sIO else if k = 2 then sIA else ""
section WQ3
variable {n : Nat} {w : WS}
theorem Qt_blanketOnPile (H : Iv w) (x : Int32) : Qt n w (x8_blanketOnPile n x) (fun m => x9_blanketOnPile m x) exN := by
  have G := H.1.1
  have hl := G.1.1.l.2
  have S : ∀ g m, x9_blanketOnPile m x (putR g m (wr w)) = some ((ansO (wr w) (ff (barP ((wr w).2 1) x) (nL ((wr w).2 1)))).1, putR g m (ansO (wr w) (ff (barP ((wr w).2 1) x) (nL ((wr w).2 1)))).2) := fun g m => s_blanketOnPile G.1.1 G.1.2.2.1.2.1 x
  have C : ∀ g, x3_blanketAtRank (n + hp 0) x (putW g n w) = some (oI (ff (barP ((wr w).2 1) x) (nL ((wr w).2 1))), putW g n w) := fun g => by
    have e := c_blanketAtRank (g := putW g n w) (p := n + hp 0) G.1.1 G.2.1 x
    rw [W_H (by decide)] at e
    exact e
  match hf : ff (barP ((wr w).2 1) x) (nL ((wr w).2 1)) with
  | none =>
    rw [hf] at S C
    refine Qt_q H (B := false) (V := 0) (fun hb => absurd hb (by decide)) (fun _ => ⟨1, Or.inl rfl, fun g => ?_, fun g m => ⟨_, _, S g m, RSF_at _ _ _, Sq.f6⟩⟩)
    unfold x8_blanketOnPile
    rw [W_80, gb_s, W_isO3, gb_s, C, cb_s, if_pos (show oI none = -1 from rfl)]
    rfl
  | some k =>
    obtain ⟨k1, -, -⟩ := ff_some hf
    rw [hf] at S C
    refine Qt_q H (B := true) (V := I k) (fun _ => ⟨fun g => ⟨w.1 2, ?_⟩, fun g m => ⟨_, S g m, RSF_at _ _ _, Sq.f6⟩⟩) (fun hb => absurd rfl hb)
    rw [wH_self]
    unfold x8_blanketOnPile
    rw [W_80, gb_s, W_isO3, gb_s, C, cb_s, show oI (some k) = I k from rfl, if_neg (I_ne_neg (by omega))]
theorem Qt_hikerAtRank (H : Iv w) (x : Int32) : Qt n w (x8_hikerAtRank n x) (fun m => x9_hikerAtRank m x) exN := by
  have G := H.1.1
  have hl := G.1.1.h.2
  have hT := G.1.2.2.2
  have S : ∀ g m, x9_hikerAtRank m x (putR g m (wr w)) = some ((ansO (wr w) (ff (rhQ ((wr w).2 1) x) (nH ((wr w).2 1)))).1, putR g m (ansO (wr w) (ff (rhQ ((wr w).2 1) x) (nH ((wr w).2 1)))).2) := fun g m => s_hikerAtRank G.1.1 G.1.2.2.1.2.1 (by omega) x
  have C : ∀ g, x3_hikerOfRank (n + hp 0) x (putW g n w) = some (oI (ff (rhQ ((wr w).2 1) x) (nH ((wr w).2 1))), putW g n w) := fun g => by
    have e := c_hikerOfRank (g := putW g n w) (p := n + hp 0) G.1.1 G.2.1 x
    rw [W_H (by decide)] at e
    exact e
  match hf : ff (rhQ ((wr w).2 1) x) (nH ((wr w).2 1)) with
  | none =>
    rw [hf] at S C
    refine Qt_q H (B := false) (V := 0) (fun hb => absurd hb (by decide)) (fun _ => ⟨1, Or.inl rfl, fun g => ?_, fun g m => ⟨_, _, S g m, RSF_at _ _ _, Sq.f6⟩⟩)
    unfold x8_hikerAtRank
    rw [W_80, gb_s, W_isO3, gb_s, C, cb_s, if_pos (show oI none = -1 from rfl)]
    rfl
  | some k =>
    obtain ⟨k1, -, -⟩ := ff_some hf
    rw [hf] at S C
    refine Qt_q H (B := true) (V := I k) (fun _ => ⟨fun g => ⟨w.1 2, ?_⟩, fun g m => ⟨_, S g m, RSF_at _ _ _, Sq.f6⟩⟩) (fun hb => absurd rfl hb)
    rw [wH_self]
    unfold x8_hikerAtRank
    rw [W_80, gb_s, W_isO3, gb_s, C, cb_s, show oI (some k) = I k from rfl, if_neg (I_ne_neg (by omega))]
theorem s_hours27 {g : AH} {m : Nat} {r : RS} {x y s : Int32} (hs : ¬ s ≤ 0) : x9_hoursOf_j27 m x y s m (putR g m r) = some (0, putR g m (RS_setF r 6 s)) := by
  unfold x9_hoursOf_j27
  rw [R_putI rfl, gb_s, R_getI rfl, gb_s, if_neg (by rw [RSF_at]; exact hs)]
theorem Qt_hoursOf (H : Iv w) (x y : Int32) : Qt n w (x8_hoursOf n x y) (fun m => x9_hoursOf m x y) exJ := by
  have G := H.1.1
  have eI : ∀ g m, x9_isHiker m x (putR g m (wr w)) = some (bI (isH ((wr w).2 1) x), putR g m (wr w)) := fun g m => s_isHiker x
  by_cases hx : isH ((wr w).2 1) x = true
  · obtain ⟨i, i1, i2, i3, i4⟩ := isH_ex G.1.1 hx
    by_cases hy : bt y 0 3 = true
    · obtain ⟨f, -, f1, f2, f3⟩ := bt_ex (lo := 0) (hi := 3) (by decide) (by decide) hy
      refine Qt_q H (B := true) (V := hk ((wr w).2 1) i (6 + f)) (fun _ => ⟨fun g => ⟨w.1 2, ?_⟩, fun g m => ⟨RS_setF (wr w) 6 0, ?_, RSF_at _ _ _, Sq.f6⟩⟩) (fun hb => absurd rfl hb)
      · rw [wH_self]
        unfold x8_hoursOf
        rw [W_isO, gb_s, demH G, if_pos hx, cb_s]
        rw [Sum.elim_inl, s_isWithin, cb_s, if_neg (show ¬ bI (bt y 0 3) = 0 by rw [bI_z, hy]; decide), W_80, gb_s, W_h18, gb_s, i3, W_hik i2, gb_s, W_kR i2, gb_s, W_kA i2 f2 (by omega), gb_s, G.2.1.2.2.2.1 i i1 f (by omega)]
      · show x9_hoursOf m x y (putR g m (wr w)) = _
        unfold x9_hoursOf
        rw [R_isO, gb_s, eI, cb_s, if_neg (show ¬ bI (isH ((wr w).2 1) x) = 0 by rw [bI_z, hx]; decide), s_isBetween, cb_s, if_neg (show ¬ bI (bt y 0 3) = 0 by rw [bI_z, hy]; decide)]
        unfold x9_hoursOf_j27
        rw [R_putI rfl, gb_s, R_getI rfl, gb_s, if_pos (show (RS_setF (wr w) 6 0).1 6 ≤ 0 by rw [RSF_at]; exact Int32.le_refl 0), R_isO, gb_s, i3, f2, s_get (r := RS_setF (wr w) 6 0) (f := 6 + f) (show (6 : Int32) + I f = I (6 + f) from I_add 6 f) i2 (by omega), cb_s]
        rfl
    · refine Qt_q H (B := false) (V := 0) (fun hb => absurd hb (by decide)) (fun _ => ⟨2, Or.inr (Or.inl ⟨rfl, sIA_ne⟩), fun g => ?_, fun g m => ⟨0, RS_setF (wr w) 6 2, ?_, RSF_at _ _ _, Sq.f6⟩⟩)
      · unfold x8_hoursOf
        rw [W_isO, gb_s, demH G, if_pos hx, cb_s]
        rw [Sum.elim_inl, s_isWithin, cb_s, if_pos ((bI_z _).mpr (by simpa using hy))]
        rfl
      · show x9_hoursOf m x y (putR g m (wr w)) = _
        unfold x9_hoursOf
        rw [R_isO, gb_s, eI, cb_s, if_neg (show ¬ bI (isH ((wr w).2 1) x) = 0 by rw [bI_z, hx]; decide), s_isBetween, cb_s, if_pos ((bI_z _).mpr (by simpa using hy)), s_hours27 (by decide)]
  · refine Qt_q H (B := false) (V := 0) (fun hb => absurd hb (by decide)) (fun _ => ⟨1, Or.inl rfl, fun g => ?_, fun g m => ⟨0, RS_setF (wr w) 6 1, ?_, RSF_at _ _ _, Sq.f6⟩⟩)
    · unfold x8_hoursOf
      rw [W_isO, gb_s, demH G, if_neg hx, cb_s]
      rfl
    · show x9_hoursOf m x y (putR g m (wr w)) = _
      unfold x9_hoursOf
      rw [R_isO, gb_s, eI, cb_s, if_pos ((bI_z _).mpr (by simpa using hx)), s_hours27 (by decide)]
end WQ3
