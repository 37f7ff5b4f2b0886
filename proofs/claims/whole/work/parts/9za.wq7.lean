/-! the world: mean warmth, share of sleep, the audit -/
/-- a double or a float: both answer alike -/
def Qf {α : Type} (P : α → Prop) (n : Nat) (w : WS) (F : AH → Option (α × AH)) (K : Nat → AH → Option (α × AH)) : Prop := ∀ g, ∃ v, P v ∧ F (putW g n w) = some (v, putW g n w) ∧ ∀ g' m, ∃ r1, K m (putR g' m (wr w)) = some (v, putR g' m r1) ∧ Iv (wR w r1)
theorem n64_no {x : UInt64} (h : Jvm.FP.Core.dIsNaN x = false) : n64 x := by
  have h3 : ¬ 9218868437227405312 < x.toNat % 2 ^ 63 := fun hc => by
    rw [(Jvm.FP.Core.isNaN_bits x).mpr hc] at h
    cases h
  show x &&& 0x7fffffffffffffff ≤ 0x7ff0000000000000
  have h1 : (0x7fffffffffffffff : UInt64).toNat = 2 ^ 63 - 1 := by decide
  have h2 : (0x7ff0000000000000 : UInt64).toNat = 9218868437227405312 := by decide
  rw [UInt64.le_iff_toNat_le, UInt64.toNat_and, h1, h2, Nat.and_two_pow_sub_one_eq_mod]
  exact Nat.le_of_not_lt h3
theorem n32_no {x : UInt32} (h : Jvm.FP.Core.fIsNaN x = false) : n32 x := by
  have h3 : ¬ 2139095040 < x.toNat % 2 ^ 31 := fun hc => by
    rw [(Jvm.FP.Core.isNaN_bits32 x).mpr hc] at h
    cases h
  show x &&& 0x7fffffff ≤ 0x7f800000
  have h1 : (0x7fffffff : UInt32).toNat = 2 ^ 31 - 1 := by decide
  have h2 : (0x7f800000 : UInt32).toNat = 2139095040 := by decide
  rw [UInt32.le_iff_toNat_le, UInt32.toNat_and, h1, h2, Nat.and_two_pow_sub_one_eq_mod]
  exact Nat.le_of_not_lt h3
theorem no_n32 {x : UInt32} (h : n32 x) : Jvm.FP.Core.fIsNaN x = false := by
  have h : x &&& 0x7fffffff ≤ 0x7f800000 := h
  have h1 : (0x7fffffff : UInt32).toNat = 2 ^ 31 - 1 := by decide
  have h2 : (0x7f800000 : UInt32).toNat = 2139095040 := by decide
  rw [UInt32.le_iff_toNat_le, UInt32.toNat_and, h1, h2, Nat.and_two_pow_sub_one_eq_mod] at h
  cases hc : Jvm.FP.Core.fIsNaN x with
  | false => rfl
  | true => exact absurd ((Jvm.FP.Core.isNaN_bits32 x).mp hc) (Nat.not_lt.mpr h)
theorem nan_d {a b : Int32} (h : b ≠ 0) : n64 (FP.ddiv (FP.i2d a) (FP.i2d b)) := n64_no (Jvm.FP.Core.ddiv_out (Jvm.FP.Core.i2d_fin a).notNaN (Jvm.FP.Core.i2d_fin b) (fun hz => Jvm.FP.Core.i2d_ne_zero h ((Jvm.FP.Core.zero_bits2 _).mp hz)))
theorem nan_f {a b : Int32} (h : b ≠ 0) : n32 (FP.fdiv (FP.i2f a) (FP.i2f b)) := n32_no (Jvm.FP.Core.fdiv_out (Jvm.FP.Core.i2f_fin a).notNaN (Jvm.FP.Core.i2f_fin b) (fun hz => Jvm.FP.Core.i2f_ne_zero h ((Jvm.FP.Core.zero_bits232 _).mp hz)))
theorem nan_fd {a : UInt32} (h : n32 a) : n64 (FP.f2d a) := n64_no ((Jvm.FP.f2d_nan a).trans (no_n32 h))
section WQ7
variable {n : Nat} {w : WS}
theorem s_sumW {g : AH} {m : Nat} {r : RS} (w : Ws (r.2 1)) : loopX (x9_meanWarmth_l9 m) 1000 (0, 0) (putR g m r) = some (sumW (r.2 1), putR g m r) := by
  have h2 := w.h.2
  unfold sumW
  have hs : ∀ i, i < nH (r.2 1) → ∀ a, x9_meanWarmth_l9 m (a, I i) (putR g m r) = some (.inl (a + wN (r.2 1) i, I (i + 1)), putR g m r) := by
    intro i hi a
    unfold x9_meanWarmth_l9
    dsimp only
    rw [R_getR rfl, gb_s, R_s (k := 12) (x := 12) rfl (by decide), gb_s, s_head w i hi, R_isO, gb_s, s_warmthNow w (by omega), cb_s, I_succ]
  have he : ∀ a, x9_meanWarmth_l9 m (a, I (nH (r.2 1))) (putR g m r) = some (.inr a, putR g m r) := by
    intro a
    unfold x9_meanWarmth_l9
    dsimp only
    rw [R_getR rfl, gb_s, R_s (k := 12) (x := 12) rfl (by decide), gb_s]
    exact s_tail w _ _
  exact loop_sum (fun i => wN (r.2 1) i) hs he (by omega)
theorem Qf_meanWarmth (H : Iv w) : Qf (fun _ => True) n w (x8_meanWarmth n) x9_meanWarmth := fun g => by
  have G := H.1.1
  have h1 := G.1.2.2.1.1
  have h2 := G.1.1.h.2
  have e12 : (wr w).2 1 12 = I (nH ((wr w).2 1)) := G.1.1.h.1
  have hne : (wr w).2 1 12 ≠ 0 := by
    rw [e12, show (0 : Int32) = I 0 from rfl, Ne, I_eq (by omega) (by decide)]
    omega
  have hN : n64 (FP.ddiv (FP.i2d (sumW ((wr w).2 1))) (FP.i2d ((wr w).2 1 12))) := nan_d hne
  refine ⟨FP.ddiv (FP.i2d (sumW ((wr w).2 1))) (FP.i2d ((wr w).2 1 12)), trivial, ?_, fun g' m => ⟨RS_setF (wr w) 6 0, ?_, H.f6 0⟩⟩
  · have e := c_sumOfWarmths (g := putW g n w) (p := n + hp 0) G.1.1 G.2.1 G.2.2
    rw [W_H (by decide)] at e
    unfold x8_meanWarmth
    rw [W_80, gb_s, W_hI (by decide), gb_s, Rel_at G.2.1 12 (by decide), show fm 12 = 12 from rfl, if_pos (by rw [e12, show (1 : Int32) = I 1 from rfl, I_le (by decide) (by omega)]; exact h1), gb_s, W_isO3, gb_s, e, cb_s, if_pos hN]
  · have e := s_sumW (g := g') (m := m) (r := RS_setF (wr w) 6 0) G.1.1
    unfold x9_meanWarmth
    rw [R_putI rfl, gb_s, e, cb_s, R_getR rfl, gb_s, R_s (k := 12) (x := 12) rfl (by decide), gb_s]
    exact if_pos hN
theorem Qf_sleepShare (H : Iv w) : Qf (fun v => n64 (FP.f2d v)) n w (x8_sleepShare n) x9_sleepShare := fun g => by
  have G := H.1.1
  have h1 := G.1.2.2.1.1
  have h2 := G.1.1.h.2
  have hT := G.1.2.2.2
  have e12 : (wr w).2 1 12 = I (nH ((wr w).2 1)) := G.1.1.h.1
  have e3 : (wr w).2 1 3 = I (nT ((wr w).2 1)) := G.1.1.t.1
  have hm : nT ((wr w).2 1) * nH ((wr w).2 1) ≤ 9999 * 10 := Nat.mul_le_mul hT h2
  have eM : (wr w).2 1 3 * (wr w).2 1 12 = I (nT ((wr w).2 1) * nH ((wr w).2 1)) := by
    rw [e12, e3]
    exact I_mul _ _
  have e := c_sumOfHours (g := putW g n w) (p := n + hp 0) G.1.1 G.2.1 (d := 2) (x := 2) (by decide) rfl
  rw [W_H (by decide)] at e
  by_cases hz : nT ((wr w).2 1) * nH ((wr w).2 1) = 0
  · refine ⟨FP.fconst0, by decide +kernel, ?_, fun g' m => ⟨RS_setF (wr w) 6 0, ?_, H.f6 0⟩⟩
    · unfold x8_sleepShare
      rw [W_80, gb_s, W_hI (k := 0) (by decide), gb_s, gb_s, W_hI (k := 12) (by decide), gb_s, Rel_at G.2.1 12 (by decide), Rel_at G.2.1 0 (by decide), show fm 12 = 12 from rfl, show fm 0 = 3 from rfl, eM, hz, if_neg (by decide)]
    · unfold x9_sleepShare
      rw [R_putI rfl, gb_s, R_getR (d := 1) rfl, gb_s, R_s (k := 3) (x := 3) rfl (by decide), gb_s, gb_s, R_s (k := 12) (x := 12) rfl (by decide), gb_s]
      refine if_pos ?_
      show (wr w).2 1 3 * (wr w).2 1 12 = 0
      rw [eM, hz]
      rfl
  · have hne : I (nT ((wr w).2 1) * nH ((wr w).2 1)) ≠ 0 := by
      rw [show (0 : Int32) = I 0 from rfl, Ne, I_eq (by omega) (by decide)]
      exact hz
    have hN : n32 (FP.fdiv (FP.i2f (sumF ((wr w).2 1) 8)) (FP.i2f (I (nT ((wr w).2 1) * nH ((wr w).2 1))))) := nan_f hne
    refine ⟨FP.fdiv (FP.i2f (sumF ((wr w).2 1) 8)) (FP.i2f (I (nT ((wr w).2 1) * nH ((wr w).2 1)))), nan_fd hN, ?_, fun g' m => ⟨RS_setF (wr w) 6 0, ?_, H.f6 0⟩⟩
    · unfold x8_sleepShare
      rw [W_80, gb_s, W_hI (k := 0) (by decide), gb_s, gb_s, W_hI (k := 12) (by decide), gb_s, Rel_at G.2.1 12 (by decide), Rel_at G.2.1 0 (by decide), show fm 12 = 12 from rfl, show fm 0 = 3 from rfl, eM, if_pos (by rw [show (1 : Int32) = I 1 from rfl, I_le (by decide) (by omega)]; omega), gb_s, W_isO3, gb_s, e, cb_s, if_pos hN]
    · have e := s_sumOf (g := g') (m := m) (r := RS_setF (wr w) 6 0) G.1.1 (f := 8) (x := 8) rfl (by decide)
      unfold x9_sleepShare
      rw [R_putI rfl, gb_s, R_getR (d := 1) rfl, gb_s, R_s (k := 3) (x := 3) rfl (by decide), gb_s, gb_s, R_s (k := 12) (x := 12) rfl (by decide), gb_s, show (RS_setF (wr w) 6 0).2 1 3 * (RS_setF (wr w) 6 0).2 1 12 = I (nT ((wr w).2 1) * nH ((wr w).2 1)) from eM, if_neg hne, R_isO, gb_s, e, cb_s]
      exact if_pos hN
theorem Qr_auditDifference (H : Iv w) : Qr n w (x8_auditDifference n) x9_auditDifference := by
  have G := H.1.1
  have hl := G.1.1.l
  have hb := G.1.1.b
  refine Qr_q H (V := (if (0:Int32) ≤ (((wr w).2 1 7 - (wr w).2 1 6) - sumF ((wr w).2 1) 2) then (((wr w).2 1 7 - (wr w).2 1 6) - sumF ((wr w).2 1) 2) else 0 - (((wr w).2 1 7 - (wr w).2 1 6) - sumF ((wr w).2 1) 2)) + (if (0:Int32) ≤ (((wr w).2 1 8 - (wr w).2 1 0) - (wr w).2 1 4) then (((wr w).2 1 8 - (wr w).2 1 0) - (wr w).2 1 4) else 0 - (((wr w).2 1 8 - (wr w).2 1 0) - (wr w).2 1 4)) + 0) (fun g => ⟨w.1 2, ?_⟩) (fun g m => ⟨RS_setF (wr w) 6 0, ?_, RSF_at _ _ _, Sq.f6⟩)
  · have e := c_sumOfCoins (g := putW g n w) (p := n + hp 0) G.1.1 G.2.1
    have e2 := c_usedTwice (g := putW g n w) (p := n + hp 0) G.1.1 G.1.2.1 G.2.1
    rw [W_H (by decide)] at e e2
    rw [wH_self]
    unfold x8_auditDifference
    rw [W_80, gb_s, W_hI (k := 7) (by decide), gb_s, gb_s, W_hI (k := 4) (by decide), gb_s, gb_s, W_isO3, gb_s, e, cb_s, W_80, gb_s, W_hI (k := 8) (by decide), gb_s, gb_s, W_hI (k := 1) (by decide), gb_s, gb_s, W_hI (k := 5) (by decide), gb_s, gb_s, W_isO3, gb_s, e2, cb_s, Rel_at G.2.1 7 (by decide), Rel_at G.2.1 4 (by decide), Rel_at G.2.1 8 (by decide), Rel_at G.2.1 1 (by decide), Rel_at G.2.1 5 (by decide)]
    rfl
  · have e := s_sumOf (g := g) (m := m) (r := RS_setF (wr w) 6 0) G.1.1 (f := 2) (x := 2) rfl (by decide)
    have e2 := s_countTwice (g := g) (m := m) (r := RS_setF (wr w) 6 0) G.1.1 G.1.2.1 (f := 5) (x := 5) (Or.inr rfl) rfl hl.2 hl.1
    have e3 := s_countTwice (g := g) (m := m) (r := RS_setF (wr w) 6 0) G.1.1 G.1.2.1 (f := 4) (x := 4) (Or.inl rfl) rfl hb.2 hb.1
    have q : ∀ k, k < 149 → aldI 0 (putR g m (RS_setF (wr w) 6 0)) (m + 1) (I k) = some ((wr w).2 1 k) := fun k hk0 => R_s (r := RS_setF (wr w) 6 0) (k := k) rfl hk0
    have q7 := q 7 (by decide)
    have q6 := q 6 (by decide)
    have q8 := q 8 (by decide)
    have q0 := q 0 (by decide)
    have q4 := q 4 (by decide)
    have q10 := q 10 (by decide)
    have q9 := q 9 (by decide)
    unfold x9_auditDifference
    rw [R_putI rfl, gb_s, R_getR (d := 1) rfl, gb_s]
    refine (congrFun (congrArg gb q7) _).trans ?_
    rw [gb_s, gb_s]
    refine (congrFun (congrArg gb q6) _).trans ?_
    rw [gb_s, R_isO, gb_s, e, cb_s, R_getR (d := 1) rfl, gb_s]
    refine (congrFun (congrArg gb q8) _).trans ?_
    rw [gb_s, gb_s]
    refine (congrFun (congrArg gb q0) _).trans ?_
    rw [gb_s, gb_s]
    refine (congrFun (congrArg gb q4) _).trans ?_
    rw [gb_s, gb_s]
    refine (congrFun (congrArg gb q10) _).trans ?_
    rw [gb_s, R_isO, gb_s, e2, cb_s, R_getR (d := 1) rfl, gb_s]
    refine (congrFun (congrArg gb q9) _).trans ?_
    rw [gb_s, R_isO, gb_s, e3, cb_s, Int32.add_zero]
    rfl
end WQ7
