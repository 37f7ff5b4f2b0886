/-! the world: snapshots -/
def Qu (n : Nat) (w : WS) (F : AH → Option ((Unit ⊕ String) × AH)) (K : Nat → AH → Option (Unit × AH)) (E : Nat → String) : Prop := ∀ g, (∃ w1, F (putW g n w) = some (.inl (), putW g n w1) ∧ wr w1 = wr w ∧ ∀ g' m, ∃ r1, K m (putR g' m (wr w)) = some ((), putR g' m r1) ∧ r1.1 6 = 0 ∧ Iv (wR w1 r1)) ∨ (∃ k, F (putW g n w) = some (.inr (E k), hcut (putW g n w)) ∧ Kx E k ∧ ∀ g' m, ∃ r1, K m (putR g' m (wr w)) = some ((), putR g' m r1) ∧ r1.1 6 = I k ∧ Iv (wR w r1))
theorem Hs.cg {Z : Nat → Int32} {a x : Nat} {B B1 : Nat → HS} (H : Hs Z a x B) (h : ∀ j, j < 6 → B1 j = B j) : Hs Z a x B1 := ⟨H.1, H.2.1, fun k hk0 => by rw [h _ (by omega)]; exact H.2.2 k hk0⟩
theorem J.eq2 {w w1 : WS} {r r1 : RS} (H : J w r) (e1 : r1.2 1 = r.2 1) (e3 : r1.2 3 = r.2 3) (e5 : r1.1 5 = r.1 5) (w0 : ∀ k, k = 0 ∨ (3 ≤ k ∧ k < 9) → w1.1 k = w.1 k) (wi : w1.2.1 = w.2.1) : J w1 r1 := by
  obtain ⟨G, hz, a, x, a5, e, hs⟩ := H
  exact ⟨by rw [e1, w0 0 (Or.inl rfl)]; exact G, by rw [e1]; exact hz, a, x, e5.trans a5, wi.trans e, by rw [e3]; exact hs.cg fun j hj => w0 (3 + j) (by omega)⟩
section WSnap
variable {n : Nat} {w : WS}
theorem W_4 {g : AH} : getR 8 (putW g n w) n 4 = some (n + 247) := W_o8 rfl
theorem W_5 {g : AH} : getR 8 (putW g n w) n 5 = some (n + 302) := W_o8 rfl
theorem demand_ok {x : Int32} (h : bt x 0 1 = true) (g : AH) : x8_demandSnapshotNumber x g = some (.inl (), g) := by
  unfold x8_demandSnapshotNumber
  rw [s_isWithin, cb_s, if_neg (by rw [bI_z, h]; decide)]
theorem demand_no {x : Int32} (h : ¬ bt x 0 1 = true) (g : AH) : x8_demandSnapshotNumber x g = some (.inr "java/lang/IllegalArgumentException", hcut g) := by
  unfold x8_demandSnapshotNumber
  rw [s_isWithin, cb_s, if_pos ((bI_z _).mpr (by simpa using h))]
theorem Qu_save (H : Iv w) (x : Int32) : Qu n w (x8_saveSnapshot n x) (fun m => x9_saveSnapshot m x) exA1 := fun g => by
  have H0 := H
  obtain ⟨HJ, HD, HS', HT, l, o1, o2, o3⟩ := H
  by_cases hb : bt x 0 1 = true
  · obtain ⟨j, -, j1, j2, j3⟩ := bt_ex (lo := 0) (hi := 1) (by decide) (by decide) hb
    obtain ⟨h1, q1, q2⟩ := W_copy (g := g) (n := n) (w := w) (i := 9 + j) (j := 0) (by omega) (by decide) (by omega) HJ.1
    refine Or.inl ⟨wV (wH w (9 + j) h1) (upd w.2.2.1 j 1), ?_, rfl, fun g' m => ⟨RS_setA (RS_setA (RS_setF (wr w) 6 0) 4 (cpF ((wr w).2 1) ((wr w).2 4) 0 (149 * j) 149)) 5 (upd ((wr w).2 5) j 1), ?_, RSF_at (wr w) 6 0, ?_⟩⟩
    · unfold x8_saveSnapshot
      rw [demand_ok hb, cb_s]
      show gb (getR 8 (putW g n w) n 4) _ = _
      rw [W_4, gb_s, j2, W_snp (by omega), gb_s, W_80, gb_s, W_isH (by omega), gb_s, q1, cb_s, W_5, gb_s, W_putV (j := j) rfl (by omega), gb_s]
      rfl
    · have ec := s_copy (g := g') (m := m) (r := RS_setF (wr w) 6 0) (da := 1) (db := 4) (F := 0) (T := 149 * j) (by decide) (by decide) (by decide) (by decide) (by decide) rfl rfl (by decide) (by show _ ≤ 298; omega)
      have ec : x9_copy (m + 1) 0 (m + 4) (I (149 * j)) (putR g' m (RS_setF (wr w) 6 0)) = some ((), putR g' m (RS_setA (RS_setF (wr w) 6 0) 4 (cpF ((wr w).2 1) ((wr w).2 4) 0 (149 * j) 149))) := ec
      have a5 : astI 2 (putR g' m (RS_setA (RS_setF (wr w) 6 0) 4 (cpF ((wr w).2 1) ((wr w).2 4) 0 (149 * j) 149))) (m + 5) (I j) 1 = some (putR g' m (RS_setA (RS_setA (RS_setF (wr w) 6 0) 4 (cpF ((wr w).2 1) ((wr w).2 4) 0 (149 * j) 149)) 5 (upd ((wr w).2 5) j 1))) := R_astN (d := 5) (t := 2) (by decide) (by decide) rfl (by show _ < 2; omega)
      show x9_saveSnapshot m x (putR g' m (wr w)) = _
      unfold x9_saveSnapshot x9_saveSnapshot_j15
      rw [s_isBetween, cb_s, if_neg (show ¬ bI (bt x 0 1) = 0 by rw [bI_z, hb]; decide), R_putI rfl, gb_s, R_getI rfl, gb_s, if_pos (RSF_at (wr w) 6 0), R_getR (d := 1) rfl, gb_s, R_getR (d := 4) rfl, gb_s, j2, show (149 : Int32) * I j = I (149 * j) from I_mul 149 j, ec, cb_s, R_getR (d := 5) rfl, gb_s, a5, gb_s]
    · have f : ∀ k, k ≠ 6 → (RS_setA (RS_setA (RS_setF (wr w) 6 0) 4 (cpF ((wr w).2 1) ((wr w).2 4) 0 (149 * j) 149)) 5 (upd ((wr w).2 5) j 1)).1 k = (wr w).1 k := fun k hk0 => RSF_ne (r := wr w) (k := 6) (v := 0) hk0
      have aa : ∀ d, d ≠ 4 → d ≠ 5 → (RS_setA (RS_setA (RS_setF (wr w) 6 0) 4 (cpF ((wr w).2 1) ((wr w).2 4) 0 (149 * j) 149)) 5 (upd ((wr w).2 5) j 1)).2 d = (wr w).2 d := fun d h4 h5 => (RS_ne h5).trans (RS_ne h4)
      refine ⟨HJ.eq2 (w := w) (r := wr w) (aa 1 (by decide) (by decide)) (aa 3 (by decide) (by decide)) (f 5 (by decide)) (fun k hk0 => wH_ne (by omega)) rfl, ?_, fun k hk0 => ?_, HT.eq (fun k hk0 => f k (by omega)) (aa 7 (by decide) (by decide)), l, o1, ⟨(f 20 (by decide)).trans o2.1, fun i hi => ?_⟩, o3⟩
      · show Dr ((wH w (9 + j) h1).1 1)
        rw [wH_ne (by omega)]
        exact HD
      · obtain ⟨s1, s2⟩ := HS' k hk0
        show upd w.2.2.1 j 1 k = upd ((wr w).2 5) j 1 k ∧ (¬ upd ((wr w).2 5) j 1 k = 0 → Gm (ent (cpF ((wr w).2 1) ((wr w).2 4) 0 (149 * j) 149) k) ((wH w (9 + j) h1).1 (9 + k)))
        rw [ent_cp HJ.2.1]
        by_cases hkj : k = j
        · rw [hkj, upd_at, upd_at, if_pos rfl, wH_at]
          exact ⟨rfl, fun _ => q2⟩
        · rw [upd_ne hkj, upd_ne hkj, if_neg hkj, wH_ne (by omega)]
          exact ⟨s1, s2⟩
      · rw [show (wr (wR (wV (wH w (9 + j) h1) (upd w.2.2.1 j 1)) (RS_setA (RS_setA (RS_setF (wr w) 6 0) 4 (cpF ((wr w).2 1) ((wr w).2 4) 0 (149 * j) 149)) 5 (upd ((wr w).2 5) j 1)))).2 10 = (wr w).2 10 from aa 10 (by decide) (by decide)]
        exact o2.2 i hi
  · refine Or.inr ⟨1, ?_, Or.inl rfl, fun g' m => ⟨RS_setF (wr w) 6 1, ?_, RSF_at _ _ _, H0.f6 1⟩⟩
    · unfold x8_saveSnapshot
      rw [demand_no hb, cb_s]
      rfl
    · show x9_saveSnapshot m x (putR g' m (wr w)) = _
      unfold x9_saveSnapshot x9_saveSnapshot_j15
      rw [s_isBetween, cb_s, if_pos ((bI_z _).mpr (by simpa using hb)), R_putI rfl, gb_s, R_getI rfl, gb_s, if_neg (show ¬ (RS_setF (wr w) 6 1).1 6 = 0 by rw [RSF_at]; decide)]
theorem Qu_restore (H : Iv w) (x : Int32) : Qu n w (x8_restoreSnapshot n x) (fun m => x9_restoreSnapshot m x) exB := fun g => by
  have H0 := H
  obtain ⟨HJ, HD, HS', HT, l, o1, o2, o3⟩ := H
  by_cases hb : bt x 0 1 = true
  · obtain ⟨j, -, j1, j2, j3⟩ := bt_ex (lo := 0) (hi := 1) (by decide) (by decide) hb
    obtain ⟨s1, s2⟩ := HS' j (by omega)
    have a5 : ∀ g' m, aldI 2 (putR g' m (wr w)) (m + 5) (I j) = some ((wr w).2 5 j) := fun g' m => R_aldN (d := 5) (t := 2) (by decide) (by decide) rfl (by show _ < 2; omega)
    by_cases h0 : (wr w).2 5 j = 0
    · refine Or.inr ⟨2, ?_, Or.inr (Or.inl ⟨rfl, sIS_ne⟩), fun g' m => ⟨RS_setF (wr w) 6 2, ?_, RSF_at _ _ _, H0.f6 2⟩⟩
      · unfold x8_restoreSnapshot
        rw [demand_ok hb, cb_s]
        show gb (getR 8 (putW g n w) n 5) _ = _
        rw [W_5, gb_s, W_sav (j := j) j2 (by omega), gb_s, s1, if_pos h0]
        rfl
      · show x9_restoreSnapshot m x (putR g' m (wr w)) = _
        unfold x9_restoreSnapshot x9_restoreSnapshot_j28
        rw [s_isBetween, cb_s, if_neg (show ¬ bI (bt x 0 1) = 0 by rw [bI_z, hb]; decide), R_getR (d := 5) rfl, gb_s, j2, a5, gb_s, if_pos h0, R_putI rfl, gb_s, R_getI rfl, gb_s, if_neg (show ¬ (RS_setF (wr w) 6 2).1 6 = 0 by rw [RSF_at]; decide)]
    · obtain ⟨h1, q1, q2⟩ := W_copy (g := g) (n := n) (w := w) (i := 0) (j := 9 + j) (by decide) (by omega) (by omega) (s2 h0)
      obtain ⟨G, hz, a, y, h5, e, hs⟩ := HJ
      refine Or.inl ⟨wI (wH w 0 h1) (w.2.1.1, 0), ?_, rfl, fun g' m => ⟨RS_setF (RS_setA (RS_setF (wr w) 6 0) 1 (ent ((wr w).2 4) j)) 5 0, ?_, (RSF_ne (by decide)).trans (RSF_at (wr w) 6 0), ?_⟩⟩
      · unfold x8_restoreSnapshot
        rw [demand_ok hb, cb_s]
        show gb (getR 8 (putW g n w) n 5) _ = _
        rw [W_5, gb_s, W_sav (j := j) j2 (by omega), gb_s, s1, if_neg h0, W_80, gb_s, W_4, gb_s, j2, W_snp (by omega), gb_s, W_isO3, gb_s, q1, cb_s, W_3, gb_s, W_h2O, gb_s, W_forget, cb_s]
        rfl
      · have ec := s_copy (g := g') (m := m) (r := RS_setF (wr w) 6 0) (da := 4) (db := 1) (F := 149 * j) (T := 0) (by decide) (by decide) (by decide) (by decide) (by decide) rfl rfl (by show _ ≤ 298; omega) (by decide)
        rw [show cpF ((RS_setF (wr w) 6 0).2 4) ((RS_setF (wr w) 6 0).2 1) (149 * j) 0 149 = ent ((wr w).2 4) j from cp_ent hz] at ec
        have ec : x9_copy (m + 4) (I (149 * j)) (m + 1) 0 (putR g' m (RS_setF (wr w) 6 0)) = some ((), putR g' m (RS_setA (RS_setF (wr w) 6 0) 1 (ent ((wr w).2 4) j))) := ec
        show x9_restoreSnapshot m x (putR g' m (wr w)) = _
        unfold x9_restoreSnapshot x9_restoreSnapshot_j28
        rw [s_isBetween, cb_s, if_neg (show ¬ bI (bt x 0 1) = 0 by rw [bI_z, hb]; decide), R_getR (d := 5) rfl, gb_s, j2, a5, gb_s, if_neg h0, R_putI rfl, gb_s, R_getI rfl, gb_s, if_pos (RSF_at (wr w) 6 0), R_getR (d := 4) rfl, gb_s, R_getR (d := 1) rfl, gb_s, show (149 : Int32) * I j = I (149 * j) from I_mul 149 j, ec, cb_s, R_putI rfl, gb_s]
      · have f : ∀ k, k ≠ 5 → k ≠ 6 → (RS_setF (RS_setA (RS_setF (wr w) 6 0) 1 (ent ((wr w).2 4) j)) 5 0).1 k = (wr w).1 k := fun k k5 k6 => (RSF_ne k5).trans (RSF_ne (r := wr w) (k := 6) (v := 0) k6)
        have aa : ∀ d, d ≠ 1 → (RS_setF (RS_setA (RS_setF (wr w) 6 0) 1 (ent ((wr w).2 4) j)) 5 0).2 d = (wr w).2 d := fun d hd => RS_ne hd
        have a1 : (RS_setF (RS_setA (RS_setF (wr w) 6 0) 1 (ent ((wr w).2 4) j)) 5 0).2 1 = ent ((wr w).2 4) j := RS_at (r := RS_setF (wr w) 6 0) (d := 1)
        refine Iv_mk (w := w) (r := wr w) ⟨?_, ?_, 0, y, RSF_at _ _ _, ?_, Hs_none hs.2.1⟩ ?_ HS' rfl (fun j hj => wH_ne (by omega)) (fun d hd => aa d (by omega)) (HT.eq (fun k hk0 => f k (by omega) (by omega)) (aa 7 (by decide))) o1 o2 o3 rfl (f 20 (by decide) (by decide))
        · rw [a1]
          show Gm _ ((wH w 0 h1).1 0)
          rw [wH_at]
          exact q2
        · rw [a1]
          exact ent_z _ _
        · show (w.2.1.1, (0 : Int32)) = (I y, I 0)
          rw [e]
          rfl
        · show Dr ((wH w 0 h1).1 1)
          rw [wH_ne (by decide)]
          exact HD
  · refine Or.inr ⟨1, ?_, Or.inl rfl, fun g' m => ⟨RS_setF (wr w) 6 1, ?_, RSF_at _ _ _, H0.f6 1⟩⟩
    · unfold x8_restoreSnapshot
      rw [demand_no hb, cb_s]
      rfl
    · show x9_restoreSnapshot m x (putR g' m (wr w)) = _
      unfold x9_restoreSnapshot x9_restoreSnapshot_j28
      rw [s_isBetween, cb_s, if_pos ((bI_z _).mpr (by simpa using hb)), R_putI rfl, gb_s, R_getI rfl, gb_s, if_neg (show ¬ (RS_setF (wr w) 6 1).1 6 = 0 by rw [RSF_at]; decide)]
end WSnap
