/-! the world: text and undo -/
def exS1 (k : Nat) : String := if k = 1 then "java/lang/IllegalStateException" else ""
def exA1 (k : Nat) : String := if k = 1 then "java/lang/IllegalArgumentException" else ""
section WText
variable {n : Nat} {w : WS}
/-- only the text is another -/
theorem Iv_text (H : Iv w) {r1 : RS} {s : PS} (f : ∀ k, k ≠ 6 → k ≠ 9 → r1.1 k = (wr w).1 k) (a : ∀ d, d ≠ 7 → r1.2 d = (wr w).2 d) (hT : Tr s r1) : Iv (wR (wP w s) r1) := by
  obtain ⟨HJ, HD, HS', -, l, o1, o2, o3⟩ := H
  exact Iv_mk (w := w) (r := wr w) (HJ.eq (a 1 (by decide)) (a 3 (by decide)) (f 5 (by decide) (by decide)) (fun _ _ _ => rfl) rfl) HD HS' rfl (fun _ _ => rfl) (fun d hd => a d (by omega)) hT o1 o2 o3 rfl (f 20 (by decide) (by decide))
theorem Qt_append (H : Iv w) (x : Int32) : Qt n w (x8_appendText n x) (fun m => x9_appendText m x) exS1 := fun g => by
  obtain ⟨L, ec, ep, cnt, a, b, c, T, hpar, hL, h9, hT, h14, h15⟩ := H.2.2.2.1
  have eW : wP w (giC ec ep cnt, tiC (I L) a b c, T) = w := by rw [← hpar]; rfl
  have A := c_append (g := g) (n := n) (w := w) (gi := giC ec ep cnt) (a := a) (b := b) (c := c) (T := T) hL x
  rw [eW] at A
  have B := fun g' m => s_append (g := g') (m := m) (r := wr w) h9 hT hL x
  by_cases h : L + 4 ≤ 500
  · rw [if_pos h] at A
    refine Or.inl ⟨_, _, A, rfl, fun g' m => ?_⟩
    have B := B g' m
    rw [if_pos h] at B
    obtain ⟨r1, b1', b2, b3, b4, b5, b6⟩ := B
    exact ⟨r1, b1', b4, Iv_text H b5 b6 ⟨L + 4, ec, ep, cnt, a, b, c, T4 T L x, rfl, h, b2, b3, (b5 14 (by decide) (by decide)).trans h14, (b5 15 (by decide) (by decide)).trans h15⟩⟩
  · rw [if_neg h] at A
    refine Or.inr ⟨1, A, Or.inl rfl, fun g' m => ?_⟩
    have B := B g' m
    rw [if_neg h] at B
    exact ⟨_, _, B, RSF_at _ _ _, H.f6 1⟩
theorem Qt_truncate (H : Iv w) (x : Int32) : Qt n w (x8_truncateText n x) (fun m => x9_truncateText m x) exA1 := fun g => by
  obtain ⟨L, ec, ep, cnt, a, b, c, T, hpar, hL, h9, hT, h14, h15⟩ := H.2.2.2.1
  have eW : wP w (giC ec ep cnt, tiC (I L) a b c, T) = w := by rw [← hpar]; rfl
  have A := c_truncate (g := g) (n := n) (w := w) (gi := giC ec ep cnt) (a := a) (b := b) (c := c) (T := T) hL x
  rw [eW] at A
  have B := fun g' m => s_truncate (g := g') (m := m) (r := wr w) h9 x
  by_cases h : bt x 0 (I L) = true
  · obtain ⟨k, k1, k2, k3, k4⟩ := bt_ex (lo := 0) (by decide) (by omega) h
    rw [if_pos h] at A
    refine Or.inl ⟨_, _, A, rfl, fun g' m => ?_⟩
    have B := B g' m
    rw [if_pos h] at B
    have n9 : ∀ j, j ≠ 9 → (RS_setF (RS_setF (wr w) 6 0) 9 x).1 j = (RS_setF (wr w) 6 0).1 j := fun j hj => RSF_ne hj
    have n6 : ∀ j, j ≠ 6 → (RS_setF (wr w) 6 0).1 j = (wr w).1 j := fun j hj => RSF_ne hj
    refine ⟨_, B, (n9 6 (by decide)).trans (RSF_at _ _ _), Iv_text H (fun j h6 h9 => (n9 j h9).trans (n6 j h6)) (fun _ _ => rfl) ⟨k, ec, ep, cnt, a, b, c, T, by rw [k3], by omega, ?_, fun i hi => hT i (by omega), (n9 14 (by decide)).trans ((n6 14 (by decide)).trans h14), (n9 15 (by decide)).trans ((n6 15 (by decide)).trans h15)⟩⟩
    rw [← k3]
    exact RSF_at _ _ _
  · rw [if_neg h] at A
    refine Or.inr ⟨1, A, Or.inl rfl, fun g' m => ?_⟩
    have B := B g' m
    rw [if_neg h] at B
    exact ⟨_, _, B, RSF_at _ _ _, H.f6 1⟩
theorem Qt_undo (H : Iv w) : Qt n w (x8_undo n) x9_undo exS1 := fun g => by
  have H0 := H
  obtain ⟨⟨G, hz, a, x, h5, e, hs⟩, HD, HS', HT, l, o1, o2, o3⟩ := H
  have f2 : w.2.1.2 = I a := by rw [e]
  have e5 : (RS_setF (wr w) 6 0).1 5 = I a := (RSF_ne (by decide)).trans h5
  have ha := hs.1
  by_cases h0 : a = 0
  · refine Or.inr ⟨1, ?_, Or.inl rfl, fun g' m => ⟨0, RS_setF (wr w) 6 1, ?_, RSF_at _ _ _, H0.f6 1⟩⟩
    · unfold x8_undo
      rw [W_3, gb_s, W_h22, gb_s, f2, if_neg (show ¬ (1 : Int32) ≤ I a by rw [show (1 : Int32) = I 1 from rfl, I_le (by decide) (by omega)]; omega)]
      rfl
    · unfold x9_undo x9_fail
      rw [R_putI rfl, gb_s, R_getI rfl, gb_s, e5, if_pos (show I a = 0 by rw [h0]; rfl), R_isO, gb_s, R_putI rfl, gb_s, cb_s, RSF_two]
  · obtain ⟨b, rfl⟩ : ∃ b, a = b + 1 := ⟨a - 1, by omega⟩
    obtain ⟨G1, hs1⟩ := Hs_back hs
    obtain ⟨h1, q1, q2⟩ := W_back (g := g) (n := n) (w := w) (a := b) (x := x) (by omega) hs.2.1 e G1
    have f3 : I (b + 1) - 1 = I b := by rw [show (1 : Int32) = I 1 from rfl, I_sub (by omega)]; rfl
    refine Or.inl ⟨I b, wI (wH w 0 h1) (I ((x + 5) % 6), I b), ?_, rfl, fun g' m => ⟨RS_setA (RS_setF (RS_setF (wr w) 6 0) 5 (I b)) 1 (ent ((wr w).2 3) b), ?_, ?_, ?_⟩⟩
    · unfold x8_undo
      rw [W_3, gb_s, W_h22, gb_s, f2, if_pos (show (1 : Int32) ≤ I (b + 1) by rw [show (1 : Int32) = I 1 from rfl, I_le (by decide) (by omega)]; omega), gb_s, W_80, gb_s, W_h2O, gb_s, q1, cb_s, W_3, gb_s, W_h22, gb_s]
      rfl
    · have ec := s_copy (g := g') (m := m) (r := RS_setF (RS_setF (wr w) 6 0) 5 (I b)) (da := 3) (db := 1) (F := 149 * b) (T := 0) (by decide) (by decide) (by decide) (by decide) (by decide) rfl rfl (by show _ ≤ 894; omega) (by decide)
      rw [show cpF ((RS_setF (RS_setF (wr w) 6 0) 5 (I b)).2 3) ((RS_setF (RS_setF (wr w) 6 0) 5 (I b)).2 1) (149 * b) 0 149 = ent ((wr w).2 3) b from cp_ent hz] at ec
      have ec : x9_copy (m + 3) (I (149 * b)) (m + 1) 0 (putR g' m (RS_setF (RS_setF (wr w) 6 0) 5 (I b))) = some ((), putR g' m (RS_setA (RS_setF (RS_setF (wr w) 6 0) 5 (I b)) 1 (ent ((wr w).2 3) b))) := ec
      unfold x9_undo
      rw [R_putI rfl, gb_s, R_getI rfl, gb_s, e5, if_neg (show ¬ I (b + 1) = 0 from fun hc => by have := (I_eq (b := 0) (by omega) (by decide)).mp hc; omega), gb_s, f3, R_putI rfl, gb_s, R_getR (d := 3) rfl, gb_s, R_getI rfl, gb_s, RSF_at, R_getR (d := 1) rfl, gb_s, show (149 : Int32) * I b = I (149 * b) from I_mul 149 b, ec, cb_s, R_getI rfl, gb_s]
      exact congrArg (fun v => some (v, _)) (RSF_at (RS_setF (wr w) 6 0) 5 (I b))
    · exact (RSF_ne (by decide) : (RS_setF (RS_setF (wr w) 6 0) 5 (I b)).1 6 = _).trans (RSF_at _ _ _)
    · have f : ∀ k, k ≠ 5 → k ≠ 6 → (RS_setA (RS_setF (RS_setF (wr w) 6 0) 5 (I b)) 1 (ent ((wr w).2 3) b)).1 k = (wr w).1 k := fun k k5 k6 => (RSF_ne k5 : (RS_setF (RS_setF (wr w) 6 0) 5 (I b)).1 k = _).trans (RSF_ne k6)
      have aa : ∀ d, d ≠ 1 → (RS_setA (RS_setF (RS_setF (wr w) 6 0) 5 (I b)) 1 (ent ((wr w).2 3) b)).2 d = (wr w).2 d := fun d hd => RS_ne hd
      have hbb : (fun j => (wI (wH w 0 h1) (I ((x + 5) % 6), I b)).1 (3 + j)) = fun j => w.1 (3 + j) := funext fun j => wH_ne (by omega)
      refine Iv_mk (w := w) (r := wr w) ⟨?_, ?_, b, (x + 5) % 6, RSF_at (RS_setF (wr w) 6 0) 5 (I b), rfl, ?_⟩ ?_ HS' rfl (fun j hj => wH_ne (by omega)) (fun d hd => aa d (by omega)) (HT.eq (fun k hk0 => f k (by omega) (by omega)) (aa 7 (by decide))) o1 o2 o3 rfl (f 20 (by decide) (by decide))
      · rw [RS_at]
        show Gm _ ((wH w 0 h1).1 0)
        rw [wH_at]
        exact q2
      · rw [RS_at]
        exact ent_z _ _
      · rw [aa 3 (by decide), hbb]
        exact hs1
      · show Dr ((wH w 0 h1).1 1)
        rw [wH_ne (by decide)]
        exact HD
end WText
