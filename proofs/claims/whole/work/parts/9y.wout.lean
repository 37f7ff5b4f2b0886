/-! the world: queries that keep it, what is written, the text, undo -/
theorem Tr.eq {s : PS} {r r1 : RS} (h : Tr s r) (e : ∀ k, k = 9 ∨ k = 14 ∨ k = 15 → r1.1 k = r.1 k) (e7 : r1.2 7 = r.2 7) : Tr s r1 := by
  obtain ⟨L, ec, ep, cnt, a, b, c, T, h1, h2, h3, h4, h5, h6⟩ := h
  exact ⟨L, ec, ep, cnt, a, b, c, T, h1, h2, (e 9 (Or.inl rfl)).trans h3, fun i hi => by rw [e7]; exact h4 i hi, (e 14 (Or.inr (Or.inl rfl))).trans h5, (e 15 (Or.inr (Or.inr rfl))).trans h6⟩
theorem J.eq {w w1 : WS} {r r1 : RS} (H : J w r) (e1 : r1.2 1 = r.2 1) (e3 : r1.2 3 = r.2 3) (e5 : r1.1 5 = r.1 5) (w0 : ∀ k, k ≠ 1 → k ≠ 2 → w1.1 k = w.1 k) (wi : w1.2.1 = w.2.1) : J w1 r1 := by
  obtain ⟨G, hz, a, x, a5, e, hs⟩ := H
  have : (fun j => w1.1 (3 + j)) = fun j => w.1 (3 + j) := funext fun j => w0 (3 + j) (by omega) (by omega)
  exact ⟨by rw [e1, w0 0 (by decide) (by decide)]; exact G, by rw [e1]; exact hz, a, x, e5.trans a5, wi.trans e, by rw [e3, this]; exact hs⟩
/-- the place of an exception in the case's list -/
abbrev Kx (E : Nat → String) (k : Nat) : Prop := k = 1 ∨ (k = 2 ∧ E 2 ≠ "") ∨ (k = 3 ∧ E 3 ≠ "")
theorem Kx_mk {E : Nat → String} {k : Nat} (h : k = 1 ∨ k = 2 ∨ k = 3) (hE : E k ≠ "") : Kx E k := by
  rcases h with h | h | h
  · exact Or.inl h
  · exact Or.inr (Or.inl ⟨h, by rw [← h]; exact hE⟩)
  · exact Or.inr (Or.inr ⟨h, by rw [← h]; exact hE⟩)
/-- the call may throw -/
def Qt (n : Nat) (w : WS) (F : AH → Option ((Int32 ⊕ String) × AH)) (K : Nat → AH → Option (Int32 × AH)) (E : Nat → String) : Prop := ∀ g, (∃ v w1, F (putW g n w) = some (.inl v, putW g n w1) ∧ wr w1 = wr w ∧ ∀ g' m, ∃ r1, K m (putR g' m (wr w)) = some (v, putR g' m r1) ∧ r1.1 6 = 0 ∧ Iv (wR w1 r1)) ∨ (∃ k, F (putW g n w) = some (.inr (E k), hcut (putW g n w)) ∧ Kx E k ∧ ∀ g' m, ∃ v r1, K m (putR g' m (wr w)) = some (v, putR g' m r1) ∧ r1.1 6 = I k ∧ Iv (wR w r1))
section WOut
variable {n : Nat} {w : WS}
theorem Iv.sq (H : Iv w) {r1 : RS} (q : Sq (wr w) r1) (h : HS) : Iv (wR (wH w 2 h) r1) := by
  obtain ⟨HJ, HD, HS', HT, l, o1, o2, o3⟩ := H
  refine Iv_mk (w := w) (r := wr w) (HJ.eq (q.2 1 (by decide) (by decide) (by decide)) (q.2 3 (by decide) (by decide) (by decide)) (q.1 5 (by decide)) (fun k _ h2 => wH_ne h2) rfl) ?_ HS' rfl (fun j hj => wH_ne (by omega)) (fun d hd => q.2 d (by omega) (by omega) (by omega)) (HT.eq (fun k hk0 => q.1 k (by omega)) (q.2 7 (by decide) (by decide) (by decide))) o1 o2 o3 rfl (q.1 20 (by decide))
  show Dr ((wH w 2 h).1 1)
  rw [wH_ne (by decide)]
  exact HD
theorem Iv.f6 (H : Iv w) (v : Int32) : Iv (wR w (RS_setF (wr w) 6 v)) := by
  have := H.sq (r1 := RS_setF (wr w) 6 v) Sq.f6 (w.1 2)
  rw [wH_self] at this
  exact this
/-- a query that keeps all but the planner's hut -/
theorem Qr_q (H : Iv w) {F : AH → Option (Int32 × AH)} {K : Nat → AH → Option (Int32 × AH)} {V : Int32} (hF : ∀ g, ∃ h, F (putW g n w) = some (V, putW g n (wH w 2 h))) (hK : ∀ g m, ∃ r1, K m (putR g m (wr w)) = some (V, putR g m r1) ∧ r1.1 6 = 0 ∧ Sq (wr w) r1) : Qr n w F K := fun g => by
  obtain ⟨h, e⟩ := hF g
  refine ⟨V, _, e, rfl, fun g' m => ?_⟩
  obtain ⟨r1, e1, e2, e3⟩ := hK g' m
  exact ⟨r1, e1, e2, H.sq e3 h⟩
/-- what is written -/
theorem Qr_w (H : Iv w) {F : AH → Option (Int32 × AH)} {K : Nat → AH → Option (Int32 × AH)} {l' : List Nat} (hl : l'.length ≤ 300) (hF : ∀ g, ∃ s1, F (putW g n w) = some (I l'.length, putW g n (wO w s1)) ∧ OC s1 l') (hK : ∀ g m, ∃ r1, K m (putR g m (wr w)) = some (I l'.length, putR g m r1) ∧ OR r1 l' ∧ Ro (RS_setF (wr w) 6 0) r1) : Qr n w F K := fun g => by
  obtain ⟨HJ, HD, HS', HT, l, o1, o2, o3⟩ := H
  obtain ⟨s1, e, es⟩ := hF g
  refine ⟨_, _, e, rfl, fun g' m => ?_⟩
  obtain ⟨r1, e1, e2, q1, q2⟩ := hK g' m
  have f : ∀ k, k ≠ 6 → k ≠ 20 → r1.1 k = (wr w).1 k := fun k h6 h20 => (q1 k h20).trans (RSF_ne h6)
  have a : ∀ d, d ≠ 10 → r1.2 d = (wr w).2 d := fun d hd => q2 d hd
  refine ⟨r1, e1, (q1 6 (by decide)).trans (RSF_at _ _ _), HJ.eq (a 1 (by decide)) (a 3 (by decide)) (f 5 (by decide) (by decide)) (fun _ _ _ => rfl) rfl, HD, fun j hj => ?_, HT.eq (fun k hk0 => f k (by omega) (by omega)) (a 7 (by decide)), l', es, e2, hl⟩
  show w.2.2.1 j = r1.2 5 j ∧ (¬ r1.2 5 j = 0 → Gm (ent (r1.2 4) j) (w.1 (9 + j)))
  rw [a 5 (by decide), a 4 (by decide)]
  exact HS' j hj
theorem wO_self : wO w w.2.2.2.2.2.1 = w := rfl
theorem Qr_ledger (H : Iv w) : Qr n w (x8_writeLedger n) x9_writeLedger := by
  have G := H.1.1
  have hh := G.1.1.h.2
  refine Qr_w H (l' := led ((wr w).2 1) (nH ((wr w).2 1))) (by have := led_len G.1 _ hh; omega) (fun g => ?_) (fun g m => s_writeLedger G.1)
  exact c_writeLedger (s := w.2.2.2.2.2.1) G
theorem Qr_bunks (H : Iv w) : Qr n w (x8_writeBunks n) x9_writeBunks := by
  have G := H.1.1
  have hh := G.1.1.b.2
  refine Qr_w H (l' := bks ((wr w).2 1) (nB ((wr w).2 1))) (by have := bks_len ((wr w).2 1) (nB ((wr w).2 1)); omega) (fun g => ?_) (fun g m => s_writeBunks G.1)
  exact c_writeBunks (s := w.2.2.2.2.2.1) G
theorem Qr_byte (H : Iv w) (x : Int32) : Qr n w (x8_outputByte n x) (fun m => x9_outputByte m x) := by
  obtain ⟨l, o1, o2, o3⟩ := H.2.2.2.2
  refine Qr_q H (V := if bt x 0 (I l.length - 1) = true then I (l.getD (kN x) 0) else -1) (fun g => ⟨w.1 2, ?_⟩) (fun g m => ⟨_, s_outputByte o2 o3 x, RSF_at _ _ _, Sq.f6⟩)
  rw [wH_self]
  exact c_outputByte (s := w.2.2.2.2.2.1) o1 o3 x
theorem Qr_code (H : Iv w) : Qr n w (x8_errorCode n) x9_errorCode := by
  obtain ⟨L, ec, ep, cnt, a, b, c, T, hpar, hL, h9, hT, h14, h15⟩ := H.2.2.2.1
  refine Qr_q H (V := ec) (fun g => ⟨w.1 2, ?_⟩) (fun g m => ⟨RS_setF (wr w) 6 0, ?_, RSF_at _ _ _, Sq.f6⟩)
  · rw [wH_self]
    unfold x8_errorCode
    rw [W_6, gb_s, W_gI (by decide), gb_s, hpar]
    rfl
  · unfold x9_errorCode x9_tell
    rw [R_getI rfl, gb_s, R_isO, gb_s, R_putI rfl, gb_s, cb_s, h14]
theorem Qr_pos (H : Iv w) : Qr n w (x8_errorPosition n) x9_errorPosition := by
  obtain ⟨L, ec, ep, cnt, a, b, c, T, hpar, hL, h9, hT, h14, h15⟩ := H.2.2.2.1
  refine Qr_q H (V := ep) (fun g => ⟨w.1 2, ?_⟩) (fun g m => ⟨RS_setF (wr w) 6 0, ?_, RSF_at _ _ _, Sq.f6⟩)
  · rw [wH_self]
    unfold x8_errorPosition
    rw [W_6, gb_s, W_gI (by decide), gb_s, hpar]
    rfl
  · unfold x9_errorPosition x9_tell
    rw [R_getI rfl, gb_s, R_isO, gb_s, R_putI rfl, gb_s, cb_s, h15]
end WOut
