/-! the law compares: all is the same -/
theorem not_n32 {x : UInt32} (h : n32 x) : (Op.cmpValue (FP.fcmp x x) .l) = 0 := by
  rw [show FP.fcmp x x = some .eq from Jvm.FP.Core.fcmp_refl (no_n32 h)]
  rfl
theorem no_n64 {x : UInt64} (h : n64 x) : Jvm.FP.Core.dIsNaN x = false := by
  have h : x &&& 0x7fffffffffffffff ≤ 0x7ff0000000000000 := h
  have h1 : (0x7fffffffffffffff : UInt64).toNat = 2 ^ 63 - 1 := by decide
  have h2 : (0x7ff0000000000000 : UInt64).toNat = 9218868437227405312 := by decide
  rw [UInt64.le_iff_toNat_le, UInt64.toNat_and, h1, h2, Nat.and_two_pow_sub_one_eq_mod] at h
  cases hc : Jvm.FP.Core.dIsNaN x with
  | false => rfl
  | true =>
    have := (Jvm.FP.Core.isNaN_bits x).mp hc
    omega
theorem not_n64 {x : UInt64} (h : n64 x) : (Op.cmpValue (FP.dcmp x x) .l) = 0 := by
  rw [show FP.dcmp x x = some .eq from Jvm.FP.Core.dcmp_refl (no_n64 h)]
  rfl
section Same
variable {g : AH} {A : Nat → Nat} {n s9 : Nat} {nx : Int32} {z : St} {w : WS}
theorem s_same44 (H : LQ g A n s9 nx z w) (G : Gm z (w.1 0)) {i : Nat} (hi : i < nH z) (a1 a2 a3 a4 a5 : Int32) : loopX (l_same_l44 (A 0) a1 a2 a3 a4 a5 (I i) (A (2 * i + 6))) 5 0 g = some (.inl (), g) := by
  refine loop_up (n := 4) (fun f => I f) (fun _ => g) (fun f hf => ?_) ?_ (by decide)
  · unfold l_same_l44
    have e : (4 : Int32) = I 4 := rfl
    rw [if_neg (show ¬ (4 : Int32) ≤ I f from le_IN (m := 4) hf (by decide)), H.gx, gb_s, H.ask (F := l_hoursOf n (I i) (I f)) (fun g0 => L_hoursOf G hi hf g0), cb_s, H.k7 hi, gb_s, H.hr hi hf, gb_s, if_pos rfl, I_succ]
  · unfold l_same_l44
    rw [if_pos (show (4 : Int32) ≤ I 4 from Int32.le_refl _)]
def q15 (z : St) (i : Nat) : Int32 × Int32 × Int32 × Int32 × Int32 × Int32 := (sm (fun i => hk z i 3) i, sm (fun i => if deed z i = 0 then 1 else 0) i, sm (fun i => hk z i 8) i, sm (fun i => if hk z i 5 = -1 then 1 else 0) i, sm (fun i => wN z i) i, I i)
theorem s_same15 (H : LQ g A n s9 nx z w) (G : Gm z (w.1 0)) (h7 : nH z ≤ 7) : loopX (l_same_l15 (A 0)) 8 (0, 0, 0, 0, 0, 0) g = some (.inl (sumF z 3, cntD z 0, sumF z 8, cntW z, sumW z), g) := by
  have W := G.1.1
  refine loop_up (n := nH z) (fun i => q15 z i) (fun _ => g) (fun i hi => ?_) ?_ (by omega)
  · have ec : (sm (fun i => if deed z i = 0 then 1 else 0) (i + 1) : Int32) = sm (fun i => if deed z i = 0 then 1 else 0) i + (if deed z i = 0 then 1 else 0) := rfl
    have eb : (sm (fun i => if hk z i 5 = -1 then 1 else 0) (i + 1) : Int32) = sm (fun i => if hk z i 5 = -1 then 1 else 0) i + (if hk z i 5 = -1 then 1 else 0) := rfl
    unfold q15
    rw [ec, eb]
    unfold l_same_l15
    dsimp only
    rw [H.gl, gb_s, H.isL, gb_s, H.size, cb_s, if_neg (le_IN hi (by omega)), H.gl, gb_s, H.isL, gb_s, H.get hi, cb_s, H.isK hi, gb_s, s_same44 H G hi, cb_s, Sum.elim_inl, H.gx, gb_s, H.ask (F := l_bunkOf n (I i)) (fun g0 => L_bunkOf G hi g0), cb_s, H.k hi (by decide) (by decide), gb_s, if_pos (show hk z i 4 = hk z i (5 - 1) from rfl), H.gx, gb_s, H.ask (F := l_blanketOf n (I i)) (fun g0 => L_blanketOf G hi g0), cb_s, H.k hi (k := 6) (by decide) (by decide), gb_s, if_pos (show hk z i 5 = hk z i (6 - 1) from rfl), H.gx, gb_s, H.ask (F := l_warmth n (I i)) (fun g0 => L_warmth G hi g0), cb_s, H.iO, gb_s, s_warm H W hi, cb_s, if_pos rfl, H.gx, gb_s, H.ask (F := l_activity n (I i)) (fun g0 => L_activity G hi g0), cb_s, H.iO, gb_s, s_does H W hi, cb_s, if_pos rfl, H.gx, gb_s, H.ask (F := l_coinsOf n (I i)) (fun g0 => L_coinsOf G hi g0), cb_s, H.k hi (k := 3) (by decide) (by decide), gb_s, if_pos (show hk z i 2 = hk z i (3 - 1) from rfl), H.gx, gb_s, H.ask (F := l_debtOf n (I i)) (fun g0 => L_debtOf G hi g0), cb_s, H.k hi (k := 4) (by decide) (by decide), gb_s, if_pos (show hk z i 3 = hk z i (4 - 1) from rfl), gb_s, H.iO, gb_s, s_isCold H W hi, cb_s]
    have T : ∀ a2 s0 s1 : Int32, l_same_j209_15 (A 0) (sm (fun i => hk z i 3) i + hk z i (4 - 1)) (sm (fun i => hk z i 8) i) (sm (fun i => if hk z i 5 = -1 then 1 else 0) i) (sm (fun i => wN z i) i) (I i) (A (2 * i + 6)) s0 s1 g = some (.inl (sm (fun i => hk z i 3) i + hk z i (4 - 1), s1 + s0, sm (fun i => hk z i 8) i + hk z i 8, sm (fun i => if hk z i 5 = -1 then 1 else 0) i + (if hk z i 5 = -1 then 1 else 0), sm (fun i => wN z i) i + wN z i, I i + 1), g) := by
      intro a2 s0 s1
      unfold l_same_j209_15 l_same_j236_15
      rw [H.k7 hi, gb_s, show (2 : Int32) = I 2 from rfl, H.hr hi (j := 2) (by decide), gb_s, H.k hi (k := 6) (by decide) (by decide), gb_s, H.iO, gb_s, gb_s, s_warm H W hi, cb_s, cb_s]
      rcases W.bl hi with h | ⟨b, hb1, hb2⟩
      · rw [if_pos h, show hk z i (6 - 1) = -1 from h, if_neg (by decide)]
      · have hl := W.l.2
        rw [if_neg (fun hc => I_nm (by omega) (hb2.symm.trans hc)), show hk z i (6 - 1) = I b from hb2, if_pos (le_I0 (by omega))]
    by_cases hc : cold z i = true
    · rw [hc, if_neg (by decide), T 0, if_pos ((deed_cold z i).mpr hc), I_succ]
      rfl
    · have hc' : cold z i = false := by simpa using hc
      rw [hc', if_pos (by decide), T 0, if_neg (fun h => hc ((deed_cold z i).mp h)), I_succ]
      rfl
  · unfold l_same_l15 q15
    dsimp only
    rw [H.gl, gb_s, H.isL, gb_s, H.size, cb_s, if_pos (Int32.le_refl _)]
    rfl
theorem s_same259 (H : LQ g A n s9 nx z w) (G : Gm z (w.1 0)) (h8 : nB z ≤ 8) (a1 a2 a3 a4 a5 : Int32) : loopX (l_same_l259 (A 0) a1 a2 a3 a4 a5) 9 0 g = some (.inl (), g) := by
  have W := G.1.1
  have hh := W.h.2
  have hb := W.b
  have e9 : z (zi 7) = I (nB z) := hb.1
  refine loop_up (n := nB z) (fun i => I i) (fun _ => g) (fun i hi => ?_) ?_ (by omega)
  · have T : l_same_j299_259 (A 0) a1 a2 a3 a4 a5 (I i) (inB z (I i)) (inB z (I i)) g = some (.inl (I (i + 1)), g) := by
      unfold l_same_j299_259
      rw [if_pos rfl, H.gx, gb_s, H.ask (F := l_noiseIn n (I i)) (fun g0 => L_noiseIn G hi g0), cb_s, H.iO, gb_s, s_noise H W, cb_s, if_pos rfl, I_succ]
    unfold l_same_l259
    rw [H.gI (by decide) (by decide), gb_s, e9, if_neg (le_IN hi (by omega)), H.gx, gb_s, H.ask (F := l_hikerIn n (I i)) (fun g0 => L_hikerIn G hi g0), cb_s, H.iO, gb_s, s_in H, cb_s]
    rcases inO_inB W (I i) with ⟨h1, h2⟩ | ⟨k, hk1, h1, h2⟩
    · rw [h1, Option.map_none, nb_none]
      rw [h2] at T ⊢
      exact T
    · rw [h1, Option.map_some, nb_some, H.iO, gb_s, s_in H, cb_s, h1, Option.map_some, nb_some, H.k0 hk1, gb_s]
      rw [h2] at T ⊢
      exact T
  · unfold l_same_l259
    rw [H.gI (by decide) (by decide), gb_s, e9, if_pos (Int32.le_refl _)]
theorem s_same331 (H : LQ g A n s9 nx z w) (G : Gm z (w.1 0)) (h6 : nL z ≤ 6) (a1 a2 a3 a4 a5 : Int32) : loopX (l_same_l331 (A 0) a1 a2 a3 a4 a5) 7 0 g = some (.inl (), g) := by
  have W := G.1.1
  have hh := W.h.2
  have hb := W.l
  have e9 : z (zi 8) = I (nL z) := hb.1
  refine loop_up (n := nL z) (fun i => I i) (fun _ => g) (fun i hi => ?_) ?_ (by omega)
  · have T : ∀ v, l_same_j371_331 (A 0) a1 a2 a3 a4 a5 (I i) v v g = some (.inl (I (i + 1)), g) := by
      intro v
      unfold l_same_j371_331
      rw [if_pos rfl, I_succ]
    unfold l_same_l331
    rw [H.gI (by decide) (by decide), gb_s, e9, if_neg (le_IN hi (by omega)), H.gx, gb_s, H.ask (F := l_userOf n (I i)) (fun g0 => L_userOf G hi g0), cb_s, H.iO, gb_s, s_under H, cb_s, hw_un]
    cases hu : unO z (I i) with
    | none =>
      rw [Option.map_none, nb_none]
      exact T _
    | some k =>
      have hk1 : k < nH z := (ff_some hu).1
      rw [Option.map_some, nb_some, H.iO, gb_s, s_under H, cb_s, hu, Option.map_some, nb_some, H.k0 hk1, gb_s]
      exact T _
  · unfold l_same_l331
    rw [H.gI (by decide) (by decide), gb_s, e9, if_pos (Int32.le_refl _)]
theorem s_same385 (H : LQ g A n s9 nx z w) (G : Gm z (w.1 0)) (h7 : nH z ≤ 7) (a1 a2 a3 a4 a5 : Int32) : loopX (l_same_l385 (A 0) a1 a2 a3 a4 a5) 8 1 g = some (.inl (), g) := by
  have W := G.1.1
  have B := G.1.2.2.1
  have h1 := B.1
  refine loop_up (n := nH z - 1) (fun i => I (i + 1)) (fun _ => g) (fun i hi => ?_) ?_ (by omega)
  · obtain ⟨a, ha, ra, fa⟩ := rank_ex W B (x := i) (by omega)
    obtain ⟨b, hb, rb, fb⟩ := rank_ex W B (x := i + 1) (by omega)
    have ho := rank_ord W B ha hb ra rb
    obtain ⟨ua, ub, va, vb, p1, p2, p3, p4, p5, p6⟩ := ah_iff W B ha hb
    rw [p6] at ho
    have e1 : I (i + 1) - 1 = I i := by rw [show (1 : Int32) = I 1 from rfl, I_sub (by omega)]; rfl
    unfold l_same_l385
    rw [H.gl, gb_s, H.isL, gb_s, H.size, cb_s, if_neg (le_IN (by omega) (by omega)), H.gl, gb_s, H.gx, gb_s, e1, H.ask (F := l_ranked n (I i)) (fun g0 => L_ranked G _ fa g0), cb_s, H.isL, gb_s, H.get ha, cb_s, H.isK ha, gb_s, H.gl, gb_s, H.gx, gb_s, H.ask (F := l_ranked n (I (i + 1))) (fun g0 => L_ranked G _ fb g0), cb_s, H.isL, gb_s, H.get hb, cb_s, H.isK hb, gb_s, H.k7 ha, gb_s, show (2 : Int32) = I 2 from rfl, show (0 : Int32) = I 0 from rfl, H.hr ha (j := 2) (by decide), gb_s, H.k7 hb, gb_s, H.hr hb (j := 2) (by decide), gb_s]
    show (if hk z a 8 = hk z b 8 then _ else _) = _
    have T : ∀ m, (m = 0 → a ≤ b) → m < 2 ^ 31 → l_same_j491_385 (A 0) a1 a2 a3 a4 a5 (I (i + 1)) (A (2 * a + 6)) (A (2 * b + 6)) (I m) g = some (.inl (I (i + 1 + 1)), g) := by
      intro m hm hm2
      unfold l_same_j491_385 l_same_j518_385
      rw [if_neg (show ¬ I m < 0 from nI_pos hm2), I_succ]
      by_cases h0 : m = 0
      · rw [if_pos (show I m = 0 by rw [h0]; rfl), H.k0 ha, gb_s, H.k0 hb, gb_s, if_pos (by rw [I_le (by omega) (by omega)]; exact hm h0)]
      · rw [if_neg (show ¬ I m = 0 from fun hc => h0 ((I_eq hm2 (by decide)).mp (show I m = I 0 from hc)))]
    by_cases h8 : hk z a 8 = hk z b 8
    · have hu : ua = ub := (I_eq (by omega) (by omega)).mp (p1.symm.trans (h8.trans p2))
      rw [if_pos h8, gb_s, H.hr hb (j := 0) (by decide), gb_s, gb_s, H.hr ha (j := 0) (by decide), gb_s, show hk z b (6 + 0) = I vb from p4, show hk z a (6 + 0) = I va from p3, I_sub (by omega)]
      exact T _ (by omega) (by omega)
    · have hu : ua ≠ ub := fun hc => h8 (by rw [p1, p2, hc])
      rw [if_neg h8, gb_s, H.hr ha (j := 2) (by decide), gb_s, gb_s, H.hr hb (j := 2) (by decide), gb_s, show hk z a (6 + 2) = I ua from p1, show hk z b (6 + 2) = I ub from p2, I_sub (by omega)]
      exact T _ (by omega) (by omega)
  · unfold l_same_l385
    rw [H.gl, gb_s, H.isL, gb_s, H.size, cb_s, show nH z - 1 + 1 = nH z by omega, if_pos (Int32.le_refl _)]
theorem s_same (H : LQ g A n s9 nx z w) (G : Gm z (w.1 0)) (Ad : Au z) (S : Sz z) : ∃ g1, l_same (A 0) g = some (1, g1) ∧ LQ g1 A n s9 nx z w := by
  have W := G.1.1
  have hh := W.h
  have hT := W.t
  have hF := W.f
  have h1 := G.1.2.2.1.1
  have h99 := G.1.2.2.2
  obtain ⟨S1, S2, S3, S4⟩ := S
  obtain ⟨m1, m2⟩ : n64 (FP.ddiv (FP.i2d (sumW z)) (FP.i2d (I (nH z)))) ∧ ∀ g0, x8_meanWarmth n (putW g0 n w) = some (FP.ddiv (FP.i2d (sumW z)) (FP.i2d (I (nH z))), putW g0 n w) := ⟨(L_meanWarmth (n := n) G g).1, fun g0 => (L_meanWarmth G g0).2⟩
  have hm : nT z * nH z ≤ 9999 * 7 := Nat.mul_le_mul h99 S4
  obtain ⟨g0, eg, hw⟩ := H.world
  have hno : l_ranked n (I (nH z)) g = some (-104, hcut g) := by rw [eg]; exact L_ranked_no G _ (rank_no W) g0
  have Hc : LQ (hcut g) A n s9 nx z w := H.cut
  refine ⟨hcut g, ?_, Hc⟩
  have i8 : isO 8 g n = some () := by rw [eg]; exact W_isO
  have i8c : isO 8 (hcut g) n = some () := i8
  have T : ∀ v, n32 v → l_same_j702 (A 0) v v g = some (1, hcut g) := by
    intro v hv
    unfold l_same_j702
    rw [if_pos (not_n32 hv), H.gx, gb_s, H.gl, gb_s, H.isL, gb_s, H.size, cb_s, hno, cb_s, if_pos rfl, Hc.gx, gb_s, i8c, gb_s, Hc.ask (F := x8_auditDifference n) (fun g0 => L_audit G Ad g0), cb_s, if_pos rfl]
  unfold l_same
  rw [s_same15 H G S4, cb_s, Sum.elim_inl]
  dsimp only
  rw [s_same259 H G S2, cb_s, Sum.elim_inl, s_same331 H G S3, cb_s, Sum.elim_inl, s_same385 H G S4, cb_s, Sum.elim_inl, H.gI (by decide) (by decide), gb_s, show z (zi 13) = z 3 from rfl, H.gl, gb_s, H.isL, gb_s, H.size, cb_s, H.gx, gb_s, i8, gb_s, H.ask (F := x8_hour n) (fun g0 => L_hour G g0), cb_s, H.gI (k := 13) (by decide) (by decide), gb_s, if_pos (show z 3 = z (zi 13) from rfl), H.gx, gb_s, i8, gb_s, H.ask (F := x8_logs n) (fun g0 => L_logs G g0), cb_s, H.gI (k := 10) (by decide) (by decide), gb_s, if_pos (show z 0 = z (zi 10) from rfl), H.gx, gb_s, i8, gb_s, H.ask (F := x8_temperature n) (fun g0 => L_temperature G g0), cb_s, H.g6, gb_s, H.gI (k := 13) (by decide) (by decide), gb_s, H.gI (k := 9) (by decide) (by decide), gb_s, show zi 13 = 3 from rfl, show zi 9 = 11 from rfl, hF.1, if_neg (show ¬ I (nF z) = 0 from fun hc => by
    have := (I_eq (by omega) (by decide)).mp (show I (nF z) = I 0 from hc)
    omega), hT.1, mod_I (by omega) (by omega) (by omega), H.a4 (Nat.mod_lt _ (by omega)) hF.2.2, gb_s, H.gI (k := 12) (by decide) (by decide), gb_s, if_pos (show ins z = z (37 + nT z % nF z) + z (zi 12) from rfl)]
  rw [H.gx, gb_s, i8, gb_s, H.ask (F := x8_hutCoins n) (fun g0 => L_hutCoins G g0), cb_s, H.gI (k := 16) (by decide) (by decide), gb_s, if_pos (show z 6 = z (zi 16) from rfl), H.gx, gb_s, i8, gb_s, H.ask (F := x8_burnedLogs n) (fun g0 => L_burnedLogs G g0), cb_s, H.gI (k := 14) (by decide) (by decide), gb_s, if_pos (show z 4 = z (zi 14) from rfl), H.gx, gb_s, i8, gb_s, H.ask (F := x8_totalDebt n) (fun g0 => L_totalDebt G g0), cb_s, if_pos rfl, H.gx, gb_s, i8, gb_s, H.ask (F := x8_coldHikers n) (fun g0 => L_coldHikers G g0), cb_s, if_pos rfl, H.gx, gb_s, i8, gb_s, H.ask (F := x8_hikersWithout n) (fun g0 => L_hikersWithout G g0), cb_s, if_pos rfl, H.gx, gb_s, i8, gb_s, H.ask (F := x8_meanWarmth n) m2, cb_s, H.gl, gb_s, H.isL, gb_s, H.size, cb_s, if_pos m1, if_pos (not_n64 m1), H.gx, gb_s, i8, gb_s]
  by_cases hz : nT z * nH z = 0
  · rw [H.ask (F := x8_sleepShare n) (fun g0 => (L_sleepShare G g0).1 hz), cb_s, I_mul, hz, if_pos (show I 0 = 0 from rfl)]
    exact T _ (by decide +kernel)
  · have hf := ((L_sleepShare (n := n) G g).2 hz).1
    rw [H.ask (F := x8_sleepShare n) (fun g0 => ((L_sleepShare G g0).2 hz).2), cb_s, I_mul, if_neg (show ¬ I (nT z * nH z) = 0 from fun hc => hz ((I_eq (by omega) (by decide)).mp (show I (nT z * nH z) = I 0 from hc))), if_pos hf]
    exact T _ hf
end Same
