/-! the start: a hut is made -/
section Ini2
variable {f : Nat → Option hE} {n L : Nat} {e : Nat → hE}
theorem astR_p {g : AH} {t ci d k N x : Nat} {r : Nat → Option Nat} {y : Int32} (hd : d < L) (hb : e d = .inr (t, N, .inr (.inr r))) (hy : y = I k) (hk0 : k < N) (hN : N < 2 ^ 31) (ho : isO ci (put g n L e) x = some ()) : astR t ci (put g n L e) (n + d) y x = some (put g n L (sC e d (.inr (t, N, .inr (.inr (va_up r k (some x))))))) := by
  unfold astR
  rw [B_at hd, hb]
  show (if t = t then (if outI y N then none else gb (isO ci (put g n L e) x) fun _ => some (hset (put g n L e) (n + d) (.inr (t, N, .inr (.inr (va_up r y.toNatClampNeg (some x))))))) else none) = _
  rw [if_pos rfl, hy, if_neg (I_out hk0 hN), ho, gb_s, hset_put hd, I_nat (by omega)]
  rfl
def S3 (f : Nat → Option hE) (n L : Nat) (e : Nat → hE) (j M : Nat) : AH := put (f, some (n + (L + M))) n (L + M) (eH e L (d3 (n + L) j) (zS 0) (hikT (n + L) 0))
theorem zS_0 : zS 0 = fun _ => 0 := by
  funext i
  exact if_neg (Nat.not_lt_zero i)
theorem S3_a (he : ∀ d, d < 27 → e (L + d) = hutB (n + L) hut0 d) {j : Nat} (hj : j < 5) {x : Int32} (hx : x = I (hLen (j + 1))) : newA 0 (.inl (fun _ => 0)) (S3 f n L e j (j + 1)) x = some (n + (L + (j + 1)), S3 f n L e j (j + 2)) := by
  refine newA_i hx (by unfold hLen; split <;> decide) ?_
  by_cases h : j = 3
  · rw [h]
    show eH e L _ _ _ (L + 4) = _
    rw [eH_4, zS_0]
    rfl
  · rw [eH_ne (by omega) (by omega) (by omega), he (j + 1) (by omega), hutB_a (by omega) (by omega)]
    show (Sum.inr (0, hLen (j + 1), .inl (if j + 1 = 4 then zS 16 else fun _ => 0)) : hE) = _
    rw [if_neg (by omega)]
theorem S3_b {j M : Nat} (hM : 0 < M) {k q : Nat} (hq : q = n + (L + (j + 1))) (hk0 : k = 13 + j) : putV 3 (S3 f n L e j M) (n + L) k (.ref q) = some (S3 f n L e (j + 1) M) := by
  unfold S3
  rw [putV_p (by omega) eH_0, eH_o, hk0, d3_s (by omega)]
theorem S3_c : newA 4 (.inr (.inr (fun _ => none))) (S3 f n L e 5 6) 10 = some (n + (L + 6), S3 f n L e 5 7) := by
  refine newA_i (K := 10) rfl (by decide) ?_
  rw [eH_6]
  have : hikT (n + L) 0 = fun _ => none := by
    funext i
    exact if_neg (Nat.not_lt_zero i)
  rw [this]
theorem kVal_0 {p i q : Nat} (hq : q = p + (8 + 2 * i)) : kVal p hut0 i = d1 2 (.ref q) := by
  funext k
  unfold kVal d1
  by_cases h : k < 8
  · rw [if_pos h, if_pos h]
    show Value.int (if k = 4 ∨ k = 5 then -1 else 0) = _
    by_cases h4 : k = 4
    · rw [if_pos (Or.inl h4), if_pos (Or.inl ⟨h4, by decide⟩)]
    · by_cases h5 : k = 5
      · rw [if_pos (Or.inr h5), if_pos (Or.inr ⟨h5, by decide⟩)]
      · rw [if_neg (by omega), if_neg (by omega)]
  · rw [if_neg h, if_neg h, hq]
theorem S3_l1 (he : ∀ d, d < 27 → e (L + d) = hutB (n + L) hut0 d) : loopX (x3_init_l55 (n + L)) 11 0 (S3 f n L e 6 7) = some ((), put (f, some (n + (L + 27))) n (L + 27) (eH e L (d3 (n + L) 6) (zS 0) (hikT (n + L) 10))) := by
  refine loop_up (n := 10) (fun i => I i) (fun t => put (f, some (n + (L + (7 + 2 * t)))) n (L + (7 + 2 * t)) (eH e L (d3 (n + L) 6) (zS 0) (hikT (n + L) t))) (fun t ht => ?_) ?_ (by decide)
  · have r18 : ∀ (s : Option Nat) (r : Nat → Option Nat), getR 3 (put (f, s) n (L + (7 + 2 * t)) (eH e L (d3 (n + L) 6) (zS 0) r)) (n + L) 18 = some (n + (L + 6)) := fun s r => getR_p (by omega) eH_0 (by
      show Value.ref (n + L + 6) = _
      rw [Nat.add_assoc])
    obtain ⟨G, m1, m2⟩ := mk1 (f := f) (n := n) (L := L + (7 + 2 * t)) (e := eH e L (d3 (n + L) 6) (zS 0) (hikT (n + L) t)) (by
      rw [eH_ne (by omega) (by omega) (by omega), he (7 + 2 * t) (by omega), hutB_k, kVal_0 (q := n + (L + (7 + 2 * t) + 1)) (by omega)]) (by
      rw [eH_ne (by omega) (by omega) (by omega), show L + (7 + 2 * t) + 1 = L + (8 + 2 * t) by omega, he (8 + 2 * t) (by omega), hutB_o]
      rfl)
    unfold x3_init_l55
    rw [r18, gb_s, B_alen (by omega) eH_6, gb_s, if_neg (by rw [I_le (by decide) (by omega)]; omega), gb_s, m1, cb_s, m2, cb_s, astR_p (k := t) (by omega) eH_6 rfl ht (by decide) (B_isO (d := L + (7 + 2 * t)) (f := d1 2 (.ref (n + (L + (7 + 2 * t) + 1)))) (by omega) (by
      rw [eH_ne (by omega) (by omega) (by omega), he (7 + 2 * t) (by omega), hutB_k, kVal_0 (q := n + (L + (7 + 2 * t) + 1)) (by omega)])), gb_s, eH_r, show n + (L + (7 + 2 * t)) = n + L + (7 + 2 * t) by omega, hik_s, I_succ]
    rfl
  · have r18 : getR 3 (put (f, some (n + (L + (7 + 2 * 10)))) n (L + (7 + 2 * 10)) (eH e L (d3 (n + L) 6) (zS 0) (hikT (n + L) 10))) (n + L) 18 = some (n + (L + 6)) := getR_p (by omega) eH_0 (by
      show Value.ref (n + L + 6) = _
      rw [Nat.add_assoc])
    unfold x3_init_l55
    rw [r18, gb_s, B_alen (by omega) eH_6, gb_s, if_pos (Int32.le_refl _)]
theorem S3_l2 (he : ∀ d, d < 27 → e (L + d) = hutB (n + L) hut0 d) : loopX (x3_init_l85 (n + L)) 1000 0 (put (f, some (n + (L + 27))) n (L + 27) (eH e L (d3 (n + L) 6) (zS 0) (hikT (n + L) 10))) = some ((), put (f, some (n + (L + 27))) n (L + 27) e) := by
  have r16 : ∀ z, getR 3 (put (f, some (n + (L + 27))) n (L + 27) (eH e L (d3 (n + L) 6) z (hikT (n + L) 10))) (n + L) 16 = some (n + (L + 4)) := fun z => getR_p (by omega) eH_0 (by
      show Value.ref (n + L + 4) = _
      rw [Nat.add_assoc])
  refine loop_up (n := 16) (fun i => I i) (fun t => put (f, some (n + (L + 27))) n (L + 27) (eH e L (d3 (n + L) 6) (zS t) (hikT (n + L) 10))) (fun t ht => ?_) ?_ (by decide)
  · unfold x3_init_l85
    rw [r16, gb_s, B_alen (by omega) eH_4, gb_s, if_neg (by rw [I_le (by decide) (by omega)]; omega), gb_s, B_astI (k := t) (b1 := eH e L (d3 (n + L) 6) (zS (t + 1)) (hikT (n + L) 10)) (by omega) eH_4 rfl ht (by decide) (by rw [eH_4, zS_s]) (fun j _ hj => by
      unfold eH
      by_cases h0 : j = L
      · rw [if_pos h0, if_pos h0]
      · rw [if_neg h0, if_neg h0, if_neg hj, if_neg hj]), gb_s, I_succ]
  · unfold x3_init_l85
    rw [r16, gb_s, B_alen (by omega) eH_4, gb_s, if_pos (Int32.le_refl _)]
    refine congrArg (fun z => some (Sum.inr (), z)) (put_congr fun d hd => ?_)
    unfold eH
    by_cases h0 : d = L
    · rw [if_pos h0, h0]
      have := he 0 (by decide)
      rw [Nat.add_zero, hutB_0] at this
      rw [this, d3_6]
    · rw [if_neg h0]
      by_cases h4 : d = L + 4
      · rw [if_pos h4, h4, he 4 (by decide), hutB_a (by decide) (by decide)]
        rfl
      · rw [if_neg h4]
        by_cases h6 : d = L + 6
        · rw [if_pos h6, h6, he 6 (by decide), hutB_6]
          rfl
        · rw [if_neg h6]
theorem mk3 (he : ∀ d, d < 27 → e (L + d) = hutB (n + L) hut0 d) : ∃ G, newO 3 tyX3 (put (f, some (n + L)) n L e) = some (n + L, G) ∧ x3_init (n + L) G = some ((), put (f, some (n + (L + 27))) n (L + 27) e) := by
  refine ⟨_, newO_p, ?_⟩
  have c0 : put (f, some (n + (L + 1))) n (L + 1) (sC e L (.inl (3, fun k => defaultValue (tyX3 k)))) = S3 f n L e 0 1 := by
    rw [d3_0 (p := n + L)]
    refine put_congr fun d hd => ?_
    by_cases h : d = L
    · rw [h, sC_at, eH_0]
    · rw [sC_ne h, eH_ne h (by omega) (by omega)]
  have a0 : newA 0 (.inl (fun _ => 0)) (S3 f n L e 0 1) 12 = some (n + (L + 1), S3 f n L e 0 2) := S3_a he (j := 0) (by decide) rfl
  have a1 : newA 0 (.inl (fun _ => 0)) (S3 f n L e 1 2) 12 = some (n + (L + 2), S3 f n L e 1 3) := S3_a he (j := 1) (by decide) rfl
  have a2 : newA 0 (.inl (fun _ => 0)) (S3 f n L e 2 3) 12 = some (n + (L + 3), S3 f n L e 2 4) := S3_a he (j := 2) (by decide) rfl
  have a3 : newA 0 (.inl (fun _ => 0)) (S3 f n L e 3 4) 16 = some (n + (L + 4), S3 f n L e 3 5) := S3_a he (j := 3) (by decide) rfl
  have a4 : newA 0 (.inl (fun _ => 0)) (S3 f n L e 4 5) 16 = some (n + (L + 5), S3 f n L e 4 6) := S3_a he (j := 4) (by decide) rfl
  have b0 : putV 3 (S3 f n L e 0 2) (n + L) 13 (.ref (n + (L + 1))) = some (S3 f n L e 1 2) := S3_b (j := 0) (by decide) rfl rfl
  have b1 : putV 3 (S3 f n L e 1 3) (n + L) 14 (.ref (n + (L + 2))) = some (S3 f n L e 2 3) := S3_b (j := 1) (by decide) rfl rfl
  have b2 : putV 3 (S3 f n L e 2 4) (n + L) 15 (.ref (n + (L + 3))) = some (S3 f n L e 3 4) := S3_b (j := 2) (by decide) rfl rfl
  have b3 : putV 3 (S3 f n L e 3 5) (n + L) 16 (.ref (n + (L + 4))) = some (S3 f n L e 4 5) := S3_b (j := 3) (by decide) rfl rfl
  have b4 : putV 3 (S3 f n L e 4 6) (n + L) 17 (.ref (n + (L + 5))) = some (S3 f n L e 5 6) := S3_b (j := 4) (by decide) rfl rfl
  have b5 : putV 3 (S3 f n L e 5 7) (n + L) 18 (.ref (n + (L + 6))) = some (S3 f n L e 6 7) := S3_b (j := 5) (by decide) rfl rfl
  unfold x3_init
  rw [c0, a0, cb_s, b0, gb_s, a1, cb_s, b1, gb_s, a2, cb_s, b2, gb_s, a3, cb_s, b3, gb_s, a4, cb_s, b4, gb_s, S3_c, cb_s, b5, gb_s, S3_l1 he, cb_s, S3_l2 he, cb_s]
/-- some huts in a row -/
theorem mkHuts {c : Nat} {x : Int32} (hx : x = I c) (hc : c ≤ 6) (h5 : e L = .inr (5, c, .inr (.inr (rHut (n + (L + 1)) c)))) (he : ∀ i, i < c → ∀ d, d < 27 → e (L + 1 + 27 * i + d) = hutB (n + (L + 1 + 27 * i)) hut0 d) : x8_newHuts x (put (f, some (n + L)) n L e) = some (n + L, put (f, some (n + (L + 1 + 27 * c))) n (L + 1 + 27 * c) e) := by
  have hr0 : rHut (n + (L + 1)) 0 = fun _ => none := by
    funext i
    exact if_neg (Nat.not_lt_zero i)
  have hrs : ∀ t, va_up (rHut (n + (L + 1)) t) t (some (n + (L + 1 + 27 * t))) = rHut (n + (L + 1)) (t + 1) := by
    intro t
    funext i
    show (if i = t then some (n + (L + 1 + 27 * t)) else rHut (n + (L + 1)) t i) = rHut (n + (L + 1)) (t + 1) i
    unfold rHut
    by_cases h : i = t
    · rw [if_pos h, if_pos (by omega), h, show n + (L + 1 + 27 * t) = n + (L + 1) + 27 * t by omega]
    · rw [if_neg h]
      by_cases h1 : i < t
      · rw [if_pos h1, if_pos (by omega)]
      · rw [if_neg h1, if_neg (by omega)]
  have hl : loopX (x8_newHuts_l15 (n + L)) 7 0 (put (f, some (n + (L + 1 + 27 * 0))) n (L + 1 + 27 * 0) (sC e L (.inr (5, c, .inr (.inr (rHut (n + (L + 1)) 0)))))) = some ((), put (f, some (n + (L + 1 + 27 * c))) n (L + 1 + 27 * c) e) := by
    refine loop_up (n := c) (fun i => I i) (fun t => put (f, some (n + (L + 1 + 27 * t))) n (L + 1 + 27 * t) (sC e L (.inr (5, c, .inr (.inr (rHut (n + (L + 1)) t)))))) (fun t ht => ?_) ?_ (by omega)
    · obtain ⟨G, m1, m2⟩ := mk3 (f := f) (n := n) (L := L + 1 + 27 * t) (e := sC e L (.inr (5, c, .inr (.inr (rHut (n + (L + 1)) t))))) (fun d hd => by rw [sC_ne (by omega)]; exact he t ht d hd)
      unfold x8_newHuts_l15
      rw [B_alen (by omega) sC_at, gb_s, if_neg (by rw [I_le (by omega) (by omega)]; omega), m1, cb_s, m2, cb_s, astR_p (k := t) (by omega) sC_at rfl ht (by omega) (B_isO (d := L + 1 + 27 * t) (f := hVal (n + (L + 1 + 27 * t)) hut0) (by omega) (by
        rw [sC_ne (by omega)]
        exact he t ht 0 (by decide))), gb_s, sC_two, hrs, I_succ]
      rfl
    · unfold x8_newHuts_l15
      rw [B_alen (by omega) sC_at, gb_s, if_pos (Int32.le_refl _), sC_id h5]
  have hj : x8_newHuts_j9 x (put (f, some (n + L)) n L e) = some (n + L, put (f, some (n + (L + 1 + 27 * c))) n (L + 1 + 27 * c) e) := by
    unfold x8_newHuts_j9
    rw [hx, I_nat (by omega), if_neg (by omega), newA_p (K := c) rfl (by omega), cb_s, ← hr0]
    rw [show loopX (x8_newHuts_l15 (n + L)) 7 0 (put (f, some (n + (L + 1))) n (L + 1) (sC e L (.inr (5, c, .inr (.inr (rHut (n + (L + 1)) 0)))))) = _ from hl, cb_s]
  unfold x8_newHuts
  rw [if_pos (by rw [hx]; exact Int32.zero_le_ofNat_of_lt (by omega)), hj]
end Ini2


