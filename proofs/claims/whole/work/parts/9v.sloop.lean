/-! the reference reads a whole script -/
/-- what reading a script changes in the reference's base -/
def Rs (r r1 : RS) : Prop := (∀ k, k ≠ 17 → r1.1 k = r.1 k) ∧ ∀ d, d ≠ 8 → r1.2 d = r.2 d
theorem Rs.refl {r : RS} : Rs r r := ⟨fun _ _ => rfl, fun _ _ => rfl⟩
theorem Rs.trans {r r1 r2 : RS} (h : Rs r r1) (h1 : Rs r1 r2) : Rs r r2 := ⟨fun k hk0 => (h1.1 k hk0).trans (h.1 k hk0), fun d hd => (h1.2 d hd).trans (h.2 d hd)⟩
theorem Rs.cm {r : RS} {n c a b : Nat} : Rs r (cmR r n c a b) := ⟨fun k hk0 => RSF_ne hk0, fun d hd => RS_ne hd⟩
section SLoop
variable {g : AH} {m L : Nat} {T : Nat → Int32} {z : St}
theorem s_scLoop (hL : L ≤ 500) : ∀ n F cs s r0 r, n < F → cs.length + n = 31 → cs.length ≤ 30 → Tx r0 T L → Po r0 r T L s z → r0.1 17 = I cs.length → SR (r0.2 8) cs →
    (∃ cs', scS T L n cs s = .inl cs' ∧ cs'.length ≤ 30 ∧ ∃ r0' r1 s', loopX (x9_runScript_l9 m) F () (putR g m r) = some ((), putR g m r1) ∧ Po r0' r1 T L s' z ∧ r0'.1 17 = I cs'.length ∧ SR (r0'.2 8) cs' ∧ Rs r0 r0') ∨ (∃ c e, scS T L n cs s = .inr (c, e) ∧ (c = 1 ∨ c = 2 ∨ c = 3) ∧ e ≤ L ∧ ∃ r0' r1, loopX (x9_runScript_l9 m) F () (putR g m r) = some ((), putR g m r1) ∧ Px r0' r1 T L c e z ∧ Rs r0 r0') := by
  intro n
  induction n with
  | zero => intro F cs s r0 r hF hv hv2; omega
  | succ n ih =>
    intro F cs s r0 r hF hv hv2 hT h h17 hR
    match F, hF with
    | F + 1, hF =>
      have eB : x9_runScript_l9 m () (putR g m r) = if tk T L s = 0 then some (.inr (), putR g m r) else cb (x9_parseCommand m (putR g m r)) fun _ g11 => some (.inl (), g11) := by
        unfold x9_runScript_l9
        rw [R_isO, gb_s, s_fine1 h.2.1, cb_s, if_neg (show ¬ (1 : Int32) = 0 by decide), R_getI rfl, gb_s]
        by_cases h0 : tk T L s = 0
        · rw [if_pos (show r.1 10 = 0 from (h.tk (k := 0) (by decide)).mpr h0), if_pos h0]
        · rw [if_neg (show ¬ r.1 10 = 0 from fun hc => h0 ((h.tk (k := 0) (by decide)).mp hc)), if_neg h0, R_isO, gb_s]
      rw [loopX_s, eB]
      by_cases h0 : tk T L s = 0
      · rw [if_pos h0, show scS T L (n + 1) cs s = .inl cs by rw [scS, if_pos h0]]
        exact Or.inl ⟨cs, rfl, hv2, r0, r, s, rfl, h, h17, hR, Rs.refl⟩
      · rw [if_neg h0, scS_C h0]
        rcases s_parseCommand (g := g) (m := m) h hT hL hv2 h17 with ⟨c, a, b, s', e1, e2, r1, e3, e4⟩ | ⟨c, e, e1, r1, e2, e3⟩
        · rw [e3, cb_s, e1]
          have hT' : Tx (cmR r0 cs.length c a b) T L := fun i hi => by
            rw [(Rs.cm (r := r0) (n := cs.length) (c := c) (a := a) (b := b)).2 7 (by decide)]
            exact hT i hi
          have R := ih F (cs ++ [(c, a, b)]) s' (cmR r0 cs.length c a b) r1 (by omega) (by rw [List.length_append, List.length_singleton]; omega) (by rw [List.length_append, List.length_singleton]; omega) hT' e4 (by rw [List.length_append, List.length_singleton]; exact RSF_at _ _ _) (SR_cm hR)
          rcases R with ⟨cs', f1, f2, r0', r2, s2, f3, f4, f5, f6, f7⟩ | ⟨c', e', f1, f0, f2, r0', r2, f3, f4, f5⟩
          · exact Or.inl ⟨cs', f1, f2, r0', r2, s2, f3, f4, f5, f6, Rs.cm.trans f7⟩
          · exact Or.inr ⟨c', e', f1, f0, f2, r0', r2, f3, f4, Rs.cm.trans f5⟩
        · rw [e2, cb_s, e1]
          refine Or.inr ⟨c, e, rfl, e3.2.2.2.2.1, e3.2.2.2.1, r0, r1, ?_, e3, Rs.refl⟩
          match F, (show 0 < F by omega) with
          | F + 1, _ =>
            show loopX (x9_runScript_l9 m) (F + 1) () (putR g m r1) = _
            rw [loopX]
            unfold x9_runScript_l9
            rw [R_isO, gb_s, s_finex e3, cb_s, if_pos rfl]
end SLoop
/-- the reference's state of a world -/
abbrev wr (w : WS) : RS := w.2.2.2.2.2.2.1
/-- what always holds between two calls -/
def Iv (w : WS) : Prop := J w (wr w) ∧ Dr (w.1 1) ∧ (∀ j, j < 2 → w.2.2.1 j = (wr w).2 5 j ∧ (¬ (wr w).2 5 j = 0 → Gm (ent ((wr w).2 4) j) (w.1 (9 + j)))) ∧ Tr w.2.2.2.1 (wr w) ∧ ∃ l, OC w.2.2.2.2.2.1 l ∧ OR (wr w) l ∧ l.length ≤ 300
/-- both answer alike -/
def Qr (n : Nat) (w : WS) (F : AH → Option (Int32 × AH)) (K : Nat → AH → Option (Int32 × AH)) : Prop := ∀ g, ∃ v w1, F (putW g n w) = some (v, putW g n w1) ∧ wr w1 = wr w ∧ ∀ g' m, ∃ r1, K m (putR g' m (wr w)) = some (v, putR g' m r1) ∧ r1.1 6 = 0 ∧ Iv (wR w1 r1)
theorem GS_W {g : AH} {n : Nat} {w : WS} {sp : PS} {t : SS} : GS (putW g n w) (n + 303) sp (n + 306) t = putW g n (wP (wS w t) sp) := by
  show putP (putS (putW g n w) (n + 306) t) (n + 303) sp = _
  rw [W_setS, W_setP]
