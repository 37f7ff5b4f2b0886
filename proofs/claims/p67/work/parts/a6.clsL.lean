/-! the law's calls of the class, over a hut that is well -/
theorem W_3 {g : AH} {n : Nat} {w : WS} : getR 8 (putW g n w) n 3 = some (n + 83) := W_o8 rfl
section ClsL
variable {n : Nat} {w : WS} {z : St}
theorem isH_lt (W : Ws z) {i : Nat} (hi : i < nH z) : isH z (I i) = true := by
  have h := W.h
  rw [isH_has W, h.1]
  unfold hasN
  have e1 : ¬ I i < 0 := nI_pos (by omega)
  have e2 : I i < I (nH z) := by rw [I_lt (by omega) (by omega)]; exact hi
  simp [e1, e2]
theorem isL_lt (W : Ws z) {b : Nat} (hb : b < nL z) : isL z (I b) = true := by
  have h := W.l
  rw [isL_has W, h.1]
  unfold hasN
  have e1 : ¬ I b < 0 := nI_pos (by omega)
  have e2 : I b < I (nL z) := by rw [I_lt (by omega) (by omega)]; exact hb
  simp [e1, e2]
theorem L_hoursOf (G : Gm z (w.1 0)) {i f : Nat} (hi : i < nH z) (hf : f < 4) (g : AH) : l_hoursOf n (I i) (I f) (putW g n w) = some (hk z i (6 + f), putW g n w) := by
  have h2 := G.1.1.h.2
  have hy : bt (I f) 0 3 = true := by
    have : ∀ f, f < 4 → bt (I f) 0 3 = true := by decide
    exact this f hf
  unfold l_hoursOf x8_hoursOf
  rw [W_isO, gb_s, gb_s, demH G, if_pos (isH_lt G.1.1 hi), cb_s, Sum.elim_inl, s_isWithin, cb_s, if_neg (show ¬ bI (bt (I f) 0 3) = 0 by rw [bI_z, hy]; decide), W_80, gb_s, W_h18, gb_s, W_hik (by omega), gb_s, W_kR (by omega), gb_s, W_kA (by omega) rfl hf, gb_s, G.2.1.2.2.2.1 i (by omega) f (by omega), cb_s]
  rfl
theorem L_bunkOf (G : Gm z (w.1 0)) {i : Nat} (hi : i < nH z) (g : AH) : l_bunkOf n (I i) (putW g n w) = some (hk z i 4, putW g n w) := by
  have h2 := G.1.1.h.2
  unfold l_bunkOf x8_bunkOf
  rw [W_isO, gb_s, gb_s, demH G, if_pos (isH_lt G.1.1 hi), cb_s, Sum.elim_inl, W_80, gb_s, W_h18, gb_s, W_hik (by omega), gb_s, W_kI (by omega) (by decide), gb_s, G.2.1.2.2.1 i hi 4 (by decide), cb_s]
  rfl
theorem L_blanketOf (G : Gm z (w.1 0)) {i : Nat} (hi : i < nH z) (g : AH) : l_blanketOf n (I i) (putW g n w) = some (hk z i 5, putW g n w) := by
  have h2 := G.1.1.h.2
  unfold l_blanketOf x8_blanketOf
  rw [W_isO, gb_s, gb_s, demH G, if_pos (isH_lt G.1.1 hi), cb_s, Sum.elim_inl, W_80, gb_s, W_h18, gb_s, W_hik (by omega), gb_s, W_kI (by omega) (by decide), gb_s, G.2.1.2.2.1 i hi 5 (by decide), cb_s]
  rfl
theorem L_coinsOf (G : Gm z (w.1 0)) {i : Nat} (hi : i < nH z) (g : AH) : l_coinsOf n (I i) (putW g n w) = some (hk z i 2, putW g n w) := by
  have h2 := G.1.1.h.2
  unfold l_coinsOf x8_coinsOf
  rw [W_isO, gb_s, gb_s, demH G, if_pos (isH_lt G.1.1 hi), cb_s, Sum.elim_inl, W_80, gb_s, W_h18, gb_s, W_hik (by omega), gb_s, W_kI (by omega) (by decide), gb_s, G.2.1.2.2.1 i hi 2 (by decide), cb_s]
  rfl
theorem L_debtOf (G : Gm z (w.1 0)) {i : Nat} (hi : i < nH z) (g : AH) : l_debtOf n (I i) (putW g n w) = some (hk z i 3, putW g n w) := by
  have h2 := G.1.1.h.2
  unfold l_debtOf x8_debtOf
  rw [W_isO, gb_s, gb_s, demH G, if_pos (isH_lt G.1.1 hi), cb_s, Sum.elim_inl, W_80, gb_s, W_h18, gb_s, W_hik (by omega), gb_s, W_kI (by omega) (by decide), gb_s, G.2.1.2.2.1 i hi 3 (by decide), cb_s]
  rfl
theorem L_warmth (G : Gm z (w.1 0)) {i : Nat} (hi : i < nH z) (g : AH) : l_warmth n (I i) (putW g n w) = some (wN z i, putW g n w) := by
  have h2 := G.1.1.h.2
  unfold l_warmth x8_warmth
  rw [W_isO, gb_s, gb_s, demH G, if_pos (isH_lt G.1.1 hi), cb_s, Sum.elim_inl, W_80, gb_s, W_h18, gb_s, W_hik (by omega), gb_s, W_kI (by omega) (by decide), gb_s, (G.2.2.1 i hi).2, cb_s]
  rfl
theorem L_activity (G : Gm z (w.1 0)) {i : Nat} (hi : i < nH z) (g : AH) : l_activity n (I i) (putW g n w) = some (deed z i, putW g n w) := by
  have h2 := G.1.1.h.2
  have e := c_activityNow (g := putW g n w) (p := n + hp 0) G.1.1 G.2.1 G.2.2 hi
  rw [W_H (by decide)] at e
  unfold l_activity x8_activity
  rw [W_isO, gb_s, gb_s, demH G, if_pos (isH_lt G.1.1 hi), cb_s, Sum.elim_inl, W_80, gb_s, W_isO3, gb_s, e, cb_s, cb_s]
  rfl
theorem L_hikerIn (G : Gm z (w.1 0)) {b : Nat} (hb : b < nB z) (g : AH) : l_hikerIn n (I b) (putW g n w) = some (inB z (I b), putW g n w) := by
  have e := c_sleeperIn (g := putW g n w) (p := n + hp 0) G.1.1 G.2.1 (I b)
  rw [W_H (by decide)] at e
  unfold l_hikerIn x8_hikerIn
  rw [W_isO, gb_s, gb_s, demB G, if_pos (isB_lt G.1.1 hb), cb_s, Sum.elim_inl, W_80, gb_s, W_isO3, gb_s, e, cb_s, cb_s]
  rfl
theorem L_noiseIn (G : Gm z (w.1 0)) {b : Nat} (hb : b < nB z) (g : AH) : l_noiseIn n (I b) (putW g n w) = some (noi z (I b), putW g n w) := by
  have e := c_noiseAt (g := putW g n w) (p := n + hp 0) G.1.1 G.2.1 G.2.2 hb
  rw [W_H (by decide)] at e
  unfold l_noiseIn x8_noiseIn
  rw [W_isO, gb_s, gb_s, demB G, if_pos (isB_lt G.1.1 hb), cb_s, Sum.elim_inl, W_80, gb_s, W_isO3, gb_s, e, cb_s, cb_s]
  rfl
theorem L_userOf (G : Gm z (w.1 0)) {b : Nat} (hb : b < nL z) (g : AH) : l_userOf n (I b) (putW g n w) = some (hw z 5 (I b), putW g n w) := by
  have e := c_userOfBlanket (g := putW g n w) (p := n + hp 0) G.1.1 G.2.1 (I b)
  have eB := c_hasBlanket (g := putW g n w) (p := n + hp 0) G.2.1 (I b)
  rw [W_H (by decide)] at e eB
  rw [← isL_has G.1.1] at eB
  unfold l_userOf x8_userOf
  rw [W_isO, gb_s, W_80, gb_s, W_isO3, gb_s, eB, cb_s, if_neg (show ¬ bI (isL z (I b)) = 0 by rw [bI_z, isL_lt G.1.1 hb]; decide), W_80, gb_s, W_isO3, gb_s, e, cb_s, cb_s]
  rfl
theorem L_ranked (G : Gm z (w.1 0)) (x : Int32) {k : Nat} (h : ff (rhQ z x) (nH z) = some k) (g : AH) : l_ranked n x (putW g n w) = some (I k, putW g n w) := by
  have e := c_hikerOfRank (g := putW g n w) (p := n + hp 0) G.1.1 G.2.1 x
  rw [W_H (by decide), h] at e
  have h2 := G.1.1.h.2
  have h1 := (ff_some h).1
  unfold l_ranked x8_hikerAtRank
  rw [W_isO, gb_s, W_80, gb_s, W_isO3, gb_s, e, cb_s, show oI (some k) = I k from rfl, if_neg (I_ne_neg (by omega)), cb_s]
  rfl
theorem L_ranked_no (G : Gm z (w.1 0)) (x : Int32) (h : ff (rhQ z x) (nH z) = none) (g : AH) : l_ranked n x (putW g n w) = some (-104, hcut (putW g n w)) := by
  have e := c_hikerOfRank (g := putW g n w) (p := n + hp 0) G.1.1 G.2.1 x
  rw [W_H (by decide), h] at e
  unfold l_ranked x8_hikerAtRank
  rw [W_isO, gb_s, W_80, gb_s, W_isO3, gb_s, e, cb_s, show oI none = -1 from rfl, if_pos rfl, cb_s]
  rw [Sum.elim_inr, if_pos rfl]
theorem L_hour (G : Gm z (w.1 0)) (g : AH) : x8_hour n (putW g n w) = some (z 3, putW g n w) := by
  unfold x8_hour
  rw [W_80, gb_s, W_hI (by decide), gb_s, Rel_at G.2.1 0 (by decide)]
  rfl
theorem L_logs (G : Gm z (w.1 0)) (g : AH) : x8_logs n (putW g n w) = some (z 0, putW g n w) := by
  unfold x8_logs
  rw [W_80, gb_s, W_hI (by decide), gb_s, Rel_at G.2.1 1 (by decide)]
  rfl
theorem L_burnedLogs (G : Gm z (w.1 0)) (g : AH) : x8_burnedLogs n (putW g n w) = some (z 4, putW g n w) := by
  unfold x8_burnedLogs
  rw [W_80, gb_s, W_hI (by decide), gb_s, Rel_at G.2.1 5 (by decide)]
  rfl
theorem L_hutCoins (G : Gm z (w.1 0)) (g : AH) : x8_hutCoins n (putW g n w) = some (z 6, putW g n w) := by
  unfold x8_hutCoins
  rw [W_80, gb_s, W_hI (by decide), gb_s, Rel_at G.2.1 4 (by decide)]
  rfl
theorem L_temperature (G : Gm z (w.1 0)) (g : AH) : x8_temperature n (putW g n w) = some (ins z, putW g n w) := by
  have e := c_inside (g := putW g n w) (p := n + hp 0) G.1.1 G.2.1
  rw [W_H (by decide)] at e
  unfold x8_temperature
  rw [W_80, gb_s, W_isO3, gb_s, e, cb_s]
theorem L_coldHikers (G : Gm z (w.1 0)) (g : AH) : x8_coldHikers n (putW g n w) = some (cntD z 0, putW g n w) := by
  have e := c_coldCount (g := putW g n w) (p := n + hp 0) G.1.1 G.2.1 G.2.2
  rw [W_H (by decide)] at e
  unfold x8_coldHikers
  rw [W_80, gb_s, W_isO3, gb_s, e, cb_s]
theorem L_totalDebt (G : Gm z (w.1 0)) (g : AH) : x8_totalDebt n (putW g n w) = some (sumF z 3, putW g n w) := by
  have e := c_sumOfDebts (g := putW g n w) (p := n + hp 0) G.1.1 G.2.1
  rw [W_H (by decide)] at e
  unfold x8_totalDebt
  rw [W_80, gb_s, W_isO3, gb_s, e, cb_s]
theorem L_hikersWithout (G : Gm z (w.1 0)) (g : AH) : x8_hikersWithout n (putW g n w) = some (cntW z, putW g n w) := by
  have e := c_without (g := putW g n w) (p := n + hp 0) G.1.1 G.2.1
  rw [W_H (by decide)] at e
  unfold x8_hikersWithout
  rw [W_80, gb_s, W_isO3, gb_s, e, cb_s]
theorem L_meanWarmth (G : Gm z (w.1 0)) (g : AH) : n64 (FP.ddiv (FP.i2d (sumW z)) (FP.i2d (I (nH z)))) ∧ x8_meanWarmth n (putW g n w) = some (FP.ddiv (FP.i2d (sumW z)) (FP.i2d (I (nH z))), putW g n w) := by
  have h1 := G.1.2.2.1.1
  have h2 := G.1.1.h.2
  have e12 : z 12 = I (nH z) := G.1.1.h.1
  have hne : I (nH z) ≠ 0 := by
    rw [show (0 : Int32) = I 0 from rfl, Ne, I_eq (by omega) (by decide)]
    omega
  have hN : n64 (FP.ddiv (FP.i2d (sumW z)) (FP.i2d (I (nH z)))) := nan_d hne
  refine ⟨hN, ?_⟩
  have e := c_sumOfWarmths (g := putW g n w) (p := n + hp 0) G.1.1 G.2.1 G.2.2
  rw [W_H (by decide)] at e
  unfold x8_meanWarmth
  rw [W_80, gb_s, W_hI (by decide), gb_s, Rel_at G.2.1 12 (by decide), show fm 12 = 12 from rfl, e12, if_pos (by rw [show (1 : Int32) = I 1 from rfl, I_le (by decide) (by omega)]; exact h1), gb_s, W_isO3, gb_s, e, cb_s, if_pos hN]
theorem L_sleepShare (G : Gm z (w.1 0)) (g : AH) : (nT z * nH z = 0 → x8_sleepShare n (putW g n w) = some (FP.fconst0, putW g n w)) ∧ (¬ nT z * nH z = 0 → n32 (FP.fdiv (FP.i2f (sumF z 8)) (FP.i2f (I (nT z * nH z)))) ∧ x8_sleepShare n (putW g n w) = some (FP.fdiv (FP.i2f (sumF z 8)) (FP.i2f (I (nT z * nH z))), putW g n w)) := by
  have h1 := G.1.2.2.1.1
  have h2 := G.1.1.h.2
  have hT := G.1.2.2.2
  have e12 : z 12 = I (nH z) := G.1.1.h.1
  have e3 : z 3 = I (nT z) := G.1.1.t.1
  have hm : nT z * nH z ≤ 9999 * 10 := Nat.mul_le_mul hT h2
  have eM : z 3 * z 12 = I (nT z * nH z) := by
    rw [e12, e3]
    exact I_mul _ _
  have e := c_sumOfHours (g := putW g n w) (p := n + hp 0) G.1.1 G.2.1 (d := 2) (x := 2) (by decide) rfl
  rw [W_H (by decide)] at e
  refine ⟨fun hz => ?_, fun hz => ?_⟩
  · unfold x8_sleepShare
    rw [W_80, gb_s, W_hI (k := 0) (by decide), gb_s, gb_s, W_hI (k := 12) (by decide), gb_s, Rel_at G.2.1 12 (by decide), Rel_at G.2.1 0 (by decide), show fm 12 = 12 from rfl, show fm 0 = 3 from rfl, eM, hz, if_neg (by decide)]
  · have hne : I (nT z * nH z) ≠ 0 := by
      rw [show (0 : Int32) = I 0 from rfl, Ne, I_eq (by omega) (by decide)]
      exact hz
    have hN : n32 (FP.fdiv (FP.i2f (sumF z 8)) (FP.i2f (I (nT z * nH z)))) := nan_f hne
    refine ⟨hN, ?_⟩
    unfold x8_sleepShare
    rw [W_80, gb_s, W_hI (k := 0) (by decide), gb_s, gb_s, W_hI (k := 12) (by decide), gb_s, Rel_at G.2.1 12 (by decide), Rel_at G.2.1 0 (by decide), show fm 12 = 12 from rfl, show fm 0 = 3 from rfl, eM, if_pos (by rw [show (1 : Int32) = I 1 from rfl, I_le (by decide) (by omega)]; omega), gb_s, W_isO3, gb_s, e, cb_s, if_pos hN]
/-- all coins and logs are accounted for -/
def Au (z : St) : Prop := z 7 = z 6 + sumF z 2 ∧ z 8 = z 0 + z 4
theorem L_audit (G : Gm z (w.1 0)) (A : Au z) (g : AH) : x8_auditDifference n (putW g n w) = some (0, putW g n w) := by
  have e := c_sumOfCoins (g := putW g n w) (p := n + hp 0) G.1.1 G.2.1
  have e2 := c_usedTwice (g := putW g n w) (p := n + hp 0) G.1.1 G.1.2.1 G.2.1
  rw [W_H (by decide)] at e e2
  have a1 : z 7 - z 6 - sumF z 2 = 0 := by
    rw [A.1, Int32.add_comm, Int32.add_sub_cancel, Int32.sub_self]
  have a2 : z 8 - z 0 - z 4 = 0 := by
    rw [A.2, Int32.add_comm, Int32.add_sub_cancel, Int32.sub_self]
  unfold x8_auditDifference
  rw [W_80, gb_s, W_hI (k := 7) (by decide), gb_s, gb_s, W_hI (k := 4) (by decide), gb_s, gb_s, W_isO3, gb_s, e, cb_s, W_80, gb_s, W_hI (k := 8) (by decide), gb_s, gb_s, W_hI (k := 1) (by decide), gb_s, gb_s, W_hI (k := 5) (by decide), gb_s, gb_s, W_isO3, gb_s, e2, cb_s, Rel_at G.2.1 7 (by decide), Rel_at G.2.1 4 (by decide), Rel_at G.2.1 8 (by decide), Rel_at G.2.1 1 (by decide), Rel_at G.2.1 5 (by decide), show fm 7 = 7 from rfl, show fm 4 = 6 from rfl, show fm 8 = 8 from rfl, show fm 1 = 0 from rfl, show fm 5 = 4 from rfl, a1, a2]
  rfl
end ClsL
section ClsA
variable {n : Nat} {w : WS} {r : RS}
/-- an action that the hut allows -/
theorem act_ok (H : J w r) {c a b : Int32} (du : St) (hf : ftOf (r.2 1) c a b = 0) (g : AH) : ∃ w1, x8_act n c a b (putW g n w) = some (.inl (pfV (r.2 1, r.2 6) c a b), putW g n w1) ∧ J w1 (RD (recS (RS_setF r 6 0)) (pfS (r.2 1, r.2 6) c a b) du) ∧ Wd w w1 := by
  obtain ⟨w0, w1, k1, k2, k3, k4⟩ := J_step (g := g) (n := n) H du (v6 := 0) hf
  refine ⟨w1, ?_, k3, k4⟩
  unfold x8_act
  rw [W_80, gb_s, W_isO3, gb_s, W_fault H, cb_s, hf, refuse_ok, cb_s, Sum.elim_inl, W_3, gb_s, W_80, gb_s, W_h2O, gb_s, k1, cb_s, W_80, gb_s, W_isO3, gb_s, k2, cb_s]
theorem act_no (H : J w r) {c a b f : Int32} (hf : ftOf (r.2 1) c a b = f) (h3 : f = 1 ∨ f = 2 ∨ f = 3) (g : AH) : x8_act n c a b (putW g n w) = some (.inr (rfS f), hcut (putW g n w)) := by
  unfold x8_act
  rw [W_80, gb_s, W_isO3, gb_s, W_fault H, cb_s, hf, refuse_no h3, cb_s]
  rfl
/-- undo of the last action -/
theorem L_back (H : J w r) {a x : Nat} (e : w.2.1 = (I x, I (a + 1))) (h5 : r.1 5 = I (a + 1)) (ha : a < 6) (hx : x < 6) (hs : Hs (r.2 3) (a + 1) x (fun j => w.1 (3 + j))) (g : AH) : ∃ w1, l_back n (putW g n w) = some (I a, putW g n w1) ∧ J w1 (RS_setF (RS_setA r 1 (ent (r.2 3) a)) 5 (I a)) ∧ Wd w w1 := by
  obtain ⟨G, hs2⟩ := Hs_back hs
  obtain ⟨h1, e1, G1⟩ := W_back (g := g) (n := n) (w := w) ha hx e G
  refine ⟨wI (wH w 0 h1) (I ((x + 5) % 6), I a), ?_, ?_, rfl, fun k hk0 => wH_ne (by omega)⟩
  · unfold l_back x8_undo
    rw [W_isO, gb_s, W_3, gb_s, W_h22, gb_s, show w.2.1.2 = I (a + 1) by rw [e], if_pos (by rw [show (1 : Int32) = I 1 from rfl, I_le (by decide) (by omega)]; omega), gb_s, W_80, gb_s, W_h2O, gb_s, e1, cb_s, W_3, gb_s, W_h22, gb_s, cb_s]
    rfl
  · refine ⟨?_, ?_, a, (x + 5) % 6, RSF_at _ _ _, rfl, ?_⟩
    · show Gm (ent (r.2 3) a) (if 0 = 0 then h1 else _)
      rw [if_pos rfl]
      exact G1
    · exact ent_z _ _
    · have : (fun j => (wI (wH w 0 h1) (I ((x + 5) % 6), I a)).1 (3 + j)) = fun j => w.1 (3 + j) := funext fun j => wH_ne (by omega)
      rw [this]
      exact hs2
theorem L_back_no (H : J w r) (h : r.1 5 = 0) (g : AH) : l_back n (putW g n w) = some (-103, hcut (putW g n w)) := by
  obtain ⟨G, hz, a, x, h5, e, hs⟩ := H
  have ha := hs.1
  have a0 : a = 0 := (I_eq (by omega) (by decide)).mp (h5.symm.trans h)
  subst a0
  unfold l_back x8_undo
  rw [W_isO, gb_s, W_3, gb_s, W_h22, gb_s, show w.2.1.2 = I 0 by rw [e], if_neg (by decide), cb_s]
  rw [Sum.elim_inr, if_pos rfl]
end ClsA
