/-! the world: queries about a hiker, a bunk, a blanket -/
def exI (k : Nat) : String := if k = 1 then sIO else ""
section WD
variable {n : Nat} {w : WS}
theorem Qt_q (H : Iv w) {F : AH → Option ((Int32 ⊕ String) × AH)} {K : Nat → AH → Option (Int32 × AH)} {E : Nat → String} {B : Bool} {V : Int32} (h1 : B = true → (∀ g, ∃ h, F (putW g n w) = some (.inl V, putW g n (wH w 2 h))) ∧ ∀ g m, ∃ r1, K m (putR g m (wr w)) = some (V, putR g m r1) ∧ r1.1 6 = 0 ∧ Sq (wr w) r1) (h2 : ¬ B = true → ∃ k, Kx E k ∧ (∀ g, F (putW g n w) = some (.inr (E k), hcut (putW g n w))) ∧ ∀ g m, ∃ v r1, K m (putR g m (wr w)) = some (v, putR g m r1) ∧ r1.1 6 = I k ∧ Sq (wr w) r1) : Qt n w F K E := fun g => by
  by_cases hb : B = true
  · obtain ⟨a1, a2⟩ := h1 hb
    obtain ⟨h, e⟩ := a1 g
    refine Or.inl ⟨V, _, e, rfl, fun g' m => ?_⟩
    obtain ⟨r1, e1, e2, e3⟩ := a2 g' m
    exact ⟨r1, e1, e2, H.sq e3 h⟩
  · obtain ⟨k, k1, k2, k3⟩ := h2 hb
    refine Or.inr ⟨k, k2 g, k1, fun g' m => ?_⟩
    obtain ⟨v, r1, e1, e2, e3⟩ := k3 g' m
    have := H.sq e3 (w.1 2)
    rw [wH_self] at this
    exact ⟨v, r1, e1, e2, this⟩
theorem s_fail2 {g : AH} {m : Nat} {r : RS} (v : Int32) : x9_fail m v (putR g m r) = some (0, putR g m (RS_setF r 6 v)) := by
  unfold x9_fail
  rw [R_putI rfl, gb_s]
theorem demH {st : St} (G : Gm st (w.1 0)) (x : Int32) (g : AH) : x8_demandHiker n x (putW g n w) = if isH st x = true then some (.inl (), putW g n w) else some (.inr sIO, hcut (putW g n w)) := by
  unfold x8_demandHiker
  rw [W_80, gb_s, W_isO3, gb_s, W_hasH G, cb_s, ← isH_has G.1.1]
  by_cases h : isH st x = true
  · rw [if_neg (by rw [bI_z, h]; decide), if_pos h]
  · rw [if_pos ((bI_z _).mpr (by simpa using h)), if_neg h]
    rfl
theorem demB {st : St} (G : Gm st (w.1 0)) (x : Int32) (g : AH) : x8_demandBunk n x (putW g n w) = if isB st x = true then some (.inl (), putW g n w) else some (.inr sIO, hcut (putW g n w)) := by
  have e := c_hasBunk (g := putW g n w) (p := n + hp 0) G.2.1 x
  rw [W_H (by decide), ← isB_has G.1.1] at e
  unfold x8_demandBunk
  rw [W_80, gb_s, W_isO3, gb_s, e, cb_s]
  by_cases h : isB st x = true
  · rw [if_neg (by rw [bI_z, h]; decide), if_pos h]
  · rw [if_pos ((bI_z _).mpr (by simpa using h)), if_neg h]
    rfl
theorem s_tellOf {g : AH} {m f : Nat} {r : RS} {x y : Int32} (G : Gd (r.2 1)) (hy : y = I f) (hf : f < 10) : x9_tellOf m x y (putR g m r) = if isH (r.2 1) x = true then some (hk (r.2 1) (kN x) f, putR g m (RS_setF r 6 0)) else some (0, putR g m (RS_setF r 6 1)) := by
  unfold x9_tellOf
  rw [R_putI rfl, gb_s, R_isO, gb_s, s_isHiker, cb_s, show (RS_setF r 6 0).2 1 = r.2 1 from rfl]
  by_cases h : isH (r.2 1) x = true
  · obtain ⟨i, i1, i2, i3, i4⟩ := isH_ex G.1 h
    rw [if_neg (show ¬ bI (isH (r.2 1) x) = 0 by rw [bI_z, h]; decide), if_pos h, R_isO, gb_s, i4, i3, s_get hy i2 hf, cb_s]
    rfl
  · rw [if_pos ((bI_z _).mpr (by simpa using h)), if_neg h, R_isO, gb_s, s_fail2, cb_s, RSF_two]
theorem Qt_coinsOf (H : Iv w) (x : Int32) : Qt n w (x8_coinsOf n x) (fun m => x9_coinsOf m x) exI := by
  have G := H.1.1
  have S : ∀ g m, x9_coinsOf m x (putR g m (wr w)) = if isH ((wr w).2 1) x = true then some (hk ((wr w).2 1) (kN x) 2, putR g m (RS_setF (wr w) 6 0)) else some (0, putR g m (RS_setF (wr w) 6 1)) := fun g m => by
    unfold x9_coinsOf
    rw [R_isO, gb_s, s_tellOf G.1 (f := 2) (y := 2) rfl (by decide)]
    split <;> rfl
  refine Qt_q H (B := isH ((wr w).2 1) x) (V := hk ((wr w).2 1) (kN x) 2) (fun hb => ⟨fun g => ⟨w.1 2, ?_⟩, fun g m => ⟨_, (S g m).trans (if_pos hb), RSF_at _ _ _, Sq.f6⟩⟩) (fun hb => ⟨1, Or.inl rfl, fun g => ?_, fun g m => ⟨_, _, (S g m).trans (if_neg hb), RSF_at _ _ _, Sq.f6⟩⟩)
  · obtain ⟨i, i1, i2, i3, i4⟩ := isH_ex G.1.1 hb
    rw [wH_self]
    unfold x8_coinsOf
    rw [W_isO, gb_s, demH G, if_pos hb, cb_s]
    show gb (getR 8 (putW g n w) n 0) _ = _
    rw [W_80, gb_s, W_h18, gb_s, i4, i3, W_hik i2, gb_s, W_kI i2 (by decide), gb_s, G.2.1.2.2.1 i i1 2 (by decide)]
  · unfold x8_coinsOf
    rw [W_isO, gb_s, demH G, if_neg hb, cb_s]
    rfl
theorem Qt_debtOf (H : Iv w) (x : Int32) : Qt n w (x8_debtOf n x) (fun m => x9_debtOf m x) exI := by
  have G := H.1.1
  have S : ∀ g m, x9_debtOf m x (putR g m (wr w)) = if isH ((wr w).2 1) x = true then some (hk ((wr w).2 1) (kN x) 3, putR g m (RS_setF (wr w) 6 0)) else some (0, putR g m (RS_setF (wr w) 6 1)) := fun g m => by
    unfold x9_debtOf
    rw [R_isO, gb_s, s_tellOf G.1 (f := 3) (y := 3) rfl (by decide)]
    split <;> rfl
  refine Qt_q H (B := isH ((wr w).2 1) x) (V := hk ((wr w).2 1) (kN x) 3) (fun hb => ⟨fun g => ⟨w.1 2, ?_⟩, fun g m => ⟨_, (S g m).trans (if_pos hb), RSF_at _ _ _, Sq.f6⟩⟩) (fun hb => ⟨1, Or.inl rfl, fun g => ?_, fun g m => ⟨_, _, (S g m).trans (if_neg hb), RSF_at _ _ _, Sq.f6⟩⟩)
  · obtain ⟨i, i1, i2, i3, i4⟩ := isH_ex G.1.1 hb
    rw [wH_self]
    unfold x8_debtOf
    rw [W_isO, gb_s, demH G, if_pos hb, cb_s]
    show gb (getR 8 (putW g n w) n 0) _ = _
    rw [W_80, gb_s, W_h18, gb_s, i4, i3, W_hik i2, gb_s, W_kI i2 (by decide), gb_s, G.2.1.2.2.1 i i1 3 (by decide)]
  · unfold x8_debtOf
    rw [W_isO, gb_s, demH G, if_neg hb, cb_s]
    rfl
theorem Qt_bunkOf (H : Iv w) (x : Int32) : Qt n w (x8_bunkOf n x) (fun m => x9_bunkOf m x) exI := by
  have G := H.1.1
  have S : ∀ g m, x9_bunkOf m x (putR g m (wr w)) = if isH ((wr w).2 1) x = true then some (hk ((wr w).2 1) (kN x) 4, putR g m (RS_setF (wr w) 6 0)) else some (0, putR g m (RS_setF (wr w) 6 1)) := fun g m => by
    unfold x9_bunkOf
    rw [R_isO, gb_s, s_tellOf G.1 (f := 4) (y := 4) rfl (by decide)]
    split <;> rfl
  refine Qt_q H (B := isH ((wr w).2 1) x) (V := hk ((wr w).2 1) (kN x) 4) (fun hb => ⟨fun g => ⟨w.1 2, ?_⟩, fun g m => ⟨_, (S g m).trans (if_pos hb), RSF_at _ _ _, Sq.f6⟩⟩) (fun hb => ⟨1, Or.inl rfl, fun g => ?_, fun g m => ⟨_, _, (S g m).trans (if_neg hb), RSF_at _ _ _, Sq.f6⟩⟩)
  · obtain ⟨i, i1, i2, i3, i4⟩ := isH_ex G.1.1 hb
    rw [wH_self]
    unfold x8_bunkOf
    rw [W_isO, gb_s, demH G, if_pos hb, cb_s]
    show gb (getR 8 (putW g n w) n 0) _ = _
    rw [W_80, gb_s, W_h18, gb_s, i4, i3, W_hik i2, gb_s, W_kI i2 (by decide), gb_s, G.2.1.2.2.1 i i1 4 (by decide)]
  · unfold x8_bunkOf
    rw [W_isO, gb_s, demH G, if_neg hb, cb_s]
    rfl
theorem Qt_blanketOf (H : Iv w) (x : Int32) : Qt n w (x8_blanketOf n x) (fun m => x9_blanketOf m x) exI := by
  have G := H.1.1
  have S : ∀ g m, x9_blanketOf m x (putR g m (wr w)) = if isH ((wr w).2 1) x = true then some (hk ((wr w).2 1) (kN x) 5, putR g m (RS_setF (wr w) 6 0)) else some (0, putR g m (RS_setF (wr w) 6 1)) := fun g m => by
    unfold x9_blanketOf
    rw [R_isO, gb_s, s_tellOf G.1 (f := 5) (y := 5) rfl (by decide)]
    split <;> rfl
  refine Qt_q H (B := isH ((wr w).2 1) x) (V := hk ((wr w).2 1) (kN x) 5) (fun hb => ⟨fun g => ⟨w.1 2, ?_⟩, fun g m => ⟨_, (S g m).trans (if_pos hb), RSF_at _ _ _, Sq.f6⟩⟩) (fun hb => ⟨1, Or.inl rfl, fun g => ?_, fun g m => ⟨_, _, (S g m).trans (if_neg hb), RSF_at _ _ _, Sq.f6⟩⟩)
  · obtain ⟨i, i1, i2, i3, i4⟩ := isH_ex G.1.1 hb
    rw [wH_self]
    unfold x8_blanketOf
    rw [W_isO, gb_s, demH G, if_pos hb, cb_s]
    show gb (getR 8 (putW g n w) n 0) _ = _
    rw [W_80, gb_s, W_h18, gb_s, i4, i3, W_hik i2, gb_s, W_kI i2 (by decide), gb_s, G.2.1.2.2.1 i i1 5 (by decide)]
  · unfold x8_blanketOf
    rw [W_isO, gb_s, demH G, if_neg hb, cb_s]
    rfl
theorem Qt_warmth (H : Iv w) (x : Int32) : Qt n w (x8_warmth n x) (fun m => x9_warmth m x) exI := by
  have G := H.1.1
  have S : ∀ g m, x9_warmth m x (putR g m (wr w)) = if isH ((wr w).2 1) x = true then some (wN ((wr w).2 1) (kN x), putR g m (RS_setF (wr w) 6 0)) else some (0, putR g m (RS_setF (wr w) 6 1)) := fun g m => by
    unfold x9_warmth
    rw [R_putI rfl, gb_s, R_isO, gb_s, s_isHiker, cb_s, show (RS_setF (wr w) 6 0).2 1 = (wr w).2 1 from rfl]
    by_cases h : isH ((wr w).2 1) x = true
    · obtain ⟨i, i1, i2, i3, i4⟩ := isH_ex G.1.1 h
      rw [if_neg (show ¬ bI (isH ((wr w).2 1) x) = 0 by rw [bI_z, h]; decide), if_pos h, R_isO, gb_s, i4, i3, s_warmthNow (r := RS_setF (wr w) 6 0) G.1.1 i2, cb_s]
      rfl
    · rw [if_pos ((bI_z _).mpr (by simpa using h)), if_neg h, R_isO, gb_s, s_fail2, cb_s, RSF_two]
  refine Qt_q H (B := isH ((wr w).2 1) x) (V := wN ((wr w).2 1) (kN x)) (fun hb => ⟨fun g => ⟨w.1 2, ?_⟩, fun g m => ⟨_, (S g m).trans (if_pos hb), RSF_at _ _ _, Sq.f6⟩⟩) (fun hb => ⟨1, Or.inl rfl, fun g => ?_, fun g m => ⟨_, _, (S g m).trans (if_neg hb), RSF_at _ _ _, Sq.f6⟩⟩)
  · obtain ⟨i, i1, i2, i3, i4⟩ := isH_ex G.1.1 hb
    rw [wH_self]
    unfold x8_warmth
    rw [W_isO, gb_s, demH G, if_pos hb, cb_s]
    show gb (getR 8 (putW g n w) n 0) _ = _
    rw [W_80, gb_s, W_h18, gb_s, i4, i3, W_hik i2, gb_s, W_kI i2 (by decide), gb_s, (G.2.2.1 i i1).2]
  · unfold x8_warmth
    rw [W_isO, gb_s, demH G, if_neg hb, cb_s]
    rfl
theorem Qt_activity (H : Iv w) (x : Int32) : Qt n w (x8_activity n x) (fun m => x9_activity m x) exI := by
  have G := H.1.1
  have S : ∀ g m, x9_activity m x (putR g m (wr w)) = if isH ((wr w).2 1) x = true then some (deed ((wr w).2 1) (kN x), putR g m (RS_setF (wr w) 6 0)) else some (0, putR g m (RS_setF (wr w) 6 1)) := fun g m => by
    unfold x9_activity
    rw [R_putI rfl, gb_s, R_isO, gb_s, s_isHiker, cb_s, show (RS_setF (wr w) 6 0).2 1 = (wr w).2 1 from rfl]
    by_cases h : isH ((wr w).2 1) x = true
    · obtain ⟨i, i1, i2, i3, i4⟩ := isH_ex G.1.1 h
      rw [if_neg (show ¬ bI (isH ((wr w).2 1) x) = 0 by rw [bI_z, h]; decide), if_pos h, R_isO, gb_s, i4, i3, s_deed (r := RS_setF (wr w) 6 0) G.1.1 i2, cb_s]
      rfl
    · rw [if_pos ((bI_z _).mpr (by simpa using h)), if_neg h, R_isO, gb_s, s_fail2, cb_s, RSF_two]
  refine Qt_q H (B := isH ((wr w).2 1) x) (V := deed ((wr w).2 1) (kN x)) (fun hb => ⟨fun g => ⟨w.1 2, ?_⟩, fun g m => ⟨_, (S g m).trans (if_pos hb), RSF_at _ _ _, Sq.f6⟩⟩) (fun hb => ⟨1, Or.inl rfl, fun g => ?_, fun g m => ⟨_, _, (S g m).trans (if_neg hb), RSF_at _ _ _, Sq.f6⟩⟩)
  · obtain ⟨i, i1, i2, i3, i4⟩ := isH_ex G.1.1 hb
    rw [wH_self]
    unfold x8_activity
    rw [W_isO, gb_s, demH G, if_pos hb, cb_s]
    show gb (getR 8 (putW g n w) n 0) _ = _
    rw [W_80, gb_s, W_isO3, gb_s, i4, i3, W_deed G i1, cb_s]
  · unfold x8_activity
    rw [W_isO, gb_s, demH G, if_neg hb, cb_s]
    rfl
theorem Qt_hikerIn (H : Iv w) (x : Int32) : Qt n w (x8_hikerIn n x) (fun m => x9_hikerIn m x) exI := by
  have G := H.1.1
  have S : ∀ g m, x9_hikerIn m x (putR g m (wr w)) = if isB ((wr w).2 1) x = true then some (inB ((wr w).2 1) x, putR g m (RS_setF (wr w) 6 0)) else some (0, putR g m (RS_setF (wr w) 6 1)) := fun g m => by
    unfold x9_hikerIn
    rw [R_putI rfl, gb_s, R_isO, gb_s, s_isBunk, cb_s, show (RS_setF (wr w) 6 0).2 1 = (wr w).2 1 from rfl]
    by_cases h : isB ((wr w).2 1) x = true
    · rw [if_neg (show ¬ bI (isB ((wr w).2 1) x) = 0 by rw [bI_z, h]; decide), if_pos h, R_isO, gb_s, s_inBunk (r := RS_setF (wr w) 6 0) G.1.1 x, cb_s]
      rfl
    · rw [if_pos ((bI_z _).mpr (by simpa using h)), if_neg h, R_isO, gb_s, s_fail2, cb_s, RSF_two]
  refine Qt_q H (B := isB ((wr w).2 1) x) (V := inB ((wr w).2 1) x) (fun hb => ⟨fun g => ⟨w.1 2, ?_⟩, fun g m => ⟨_, (S g m).trans (if_pos hb), RSF_at _ _ _, Sq.f6⟩⟩) (fun hb => ⟨1, Or.inl rfl, fun g => ?_, fun g m => ⟨_, _, (S g m).trans (if_neg hb), RSF_at _ _ _, Sq.f6⟩⟩)
  · obtain ⟨i, i1, i2, i3, i4⟩ := isB_ex G.1.1 hb
    rw [wH_self]
    unfold x8_hikerIn
    rw [W_isO, gb_s, demB G, if_pos hb, cb_s]
    show gb (getR 8 (putW g n w) n 0) _ = _
    rw [W_80, gb_s, W_isO3, gb_s, W_sleeper G, cb_s]
  · unfold x8_hikerIn
    rw [W_isO, gb_s, demB G, if_neg hb, cb_s]
    rfl
theorem Qt_noiseIn (H : Iv w) (x : Int32) : Qt n w (x8_noiseIn n x) (fun m => x9_noiseIn m x) exI := by
  have G := H.1.1
  have S : ∀ g m, x9_noiseIn m x (putR g m (wr w)) = if isB ((wr w).2 1) x = true then some (noi ((wr w).2 1) x, putR g m (RS_setF (wr w) 6 0)) else some (0, putR g m (RS_setF (wr w) 6 1)) := fun g m => by
    unfold x9_noiseIn
    rw [R_putI rfl, gb_s, R_isO, gb_s, s_isBunk, cb_s, show (RS_setF (wr w) 6 0).2 1 = (wr w).2 1 from rfl]
    by_cases h : isB ((wr w).2 1) x = true
    · rw [if_neg (show ¬ bI (isB ((wr w).2 1) x) = 0 by rw [bI_z, h]; decide), if_pos h, R_isO, gb_s, s_noise (r := RS_setF (wr w) 6 0) G.1.1 x, cb_s]
      rfl
    · rw [if_pos ((bI_z _).mpr (by simpa using h)), if_neg h, R_isO, gb_s, s_fail2, cb_s, RSF_two]
  refine Qt_q H (B := isB ((wr w).2 1) x) (V := noi ((wr w).2 1) x) (fun hb => ⟨fun g => ⟨w.1 2, ?_⟩, fun g m => ⟨_, (S g m).trans (if_pos hb), RSF_at _ _ _, Sq.f6⟩⟩) (fun hb => ⟨1, Or.inl rfl, fun g => ?_, fun g m => ⟨_, _, (S g m).trans (if_neg hb), RSF_at _ _ _, Sq.f6⟩⟩)
  · obtain ⟨i, i1, i2, i3, i4⟩ := isB_ex G.1.1 hb
    rw [wH_self]
    unfold x8_noiseIn
    rw [W_isO, gb_s, demB G, if_pos hb, cb_s]
    have e := c_noiseAt (g := putW g n w) (p := n + hp 0) G.1.1 G.2.1 G.2.2 i1
    rw [W_H (by decide), ← i3] at e
    show gb (getR 8 (putW g n w) n 0) _ = _
    rw [W_80, gb_s, W_isO3, gb_s, e, cb_s]
  · unfold x8_noiseIn
    rw [W_isO, gb_s, demB G, if_neg hb, cb_s]
    rfl
end WD
