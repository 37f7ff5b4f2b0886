/-! the law's rounds on the machine -/
abbrev rmH : Room := ⟨14, 16000, 183000, 400⟩
theorem Rn.iO {k9 : KK} {A : Nat → Nat} {n K T : Nat} {g : AH} (R : Rn k9 A n K T g) : isO 10 g (A 0) = some () := by
  obtain ⟨w, r, H, -⟩ := R
  exact H.iO
set_option maxHeartbeats 4000000 in
set_option maxRecDepth 100000 in
theorem h_steps {l : Launch} {G : GG} {M : MC} (X : CX M G cL_holds 4 RL rmH) (hl0 : M.2.1 = l) (hst : l.stackTraces = false) (hL : (GK G).2.2.1 < 2 ^ 30) {Q : State → Prop} {A : Nat → Nat} {n K0 : Nat} (hK0 : K0 < 2 ^ 27) {x : Int32} {kc0 ks0 : Nat} (hkc : kc0 + 34 * 219 ≤ 16000) (hks : ks0 + 34 * 1314 ≤ 183000) (fin : ∀ g1 K1 T1, Rn (GK G) A n K1 T1 g1 → K1 ≤ K0 + 204 → WW M G 4 Q (kc0 + 34 * 219) (ks0 + 34 * 1314) g1 65 [(0, .ref (A 0)), (2, .int x)] []) : ∀ (m i K T : Nat) (g : AH), i + m = 34 → Rn (GK G) A n K T g → K ≤ K0 + 6 * i → T ≤ 6 * i → WW M G 4 Q (kc0 + i * 219) (ks0 + i * 1314) g 30 [(0, .ref (A 0)), (2, .int x), (3, .int (I i))] [] := by
  intro m
  induction m with
  | zero =>
    intro i K T g hi R hK hT
    have hi34 : i = 34 := by omega
    subst hi34
    refine r_iload_n X 3 dL_holds_30 rfl rfl ?_
    refine r_bipush X (v := 34) dL_holds_31 (by decide) ?_
    refine r_icmp_ge X 65 dL_holds_33 (by decide) (fun c => ?_) (fun c => absurd (show (34 : Int32) ≤ I 34 by decide) c)
    exact r_pick (by rfl : lpick [(0, .ref (A 0)), (2, .int x), (3, .int (I 34))] [0, 1] = _) (fin g K T R (by omega))
  | succ m ih =>
    intro i K T g hi R hK hT
    have back : ∀ g1 K1 T1, Rn (GK G) A n K1 T1 g1 → K1 ≤ K0 + 6 * (i + 1) → T1 ≤ 6 * (i + 1) → WW M G 4 Q (kc0 + (i + 1) * 219) (ks0 + (i + 1) * 1314) g1 59 [(0, .ref (A 0)), (2, .int x), (3, .int (I i))] [] := fun g1 K1 T1 R1 h1 h2 => by
      refine r_iinc X (v := I (i + 1)) (L1 := [(3, .int (I (i + 1))), (0, .ref (A 0)), (2, .int x)]) dL_holds_59 rfl (I_succ i) (by decide) rfl ?_
      refine r_goto X 30 dL_holds_62 (by decide) ?_
      exact r_pick (by rfl : lpick [(3, .int (I (i + 1))), (0, .ref (A 0)), (2, .int x)] [1, 2, 0] = _) (ih (i + 1) K1 T1 g1 (by omega) R1 h1 h2)
    obtain ⟨g1, K1, E1, hK1, R1⟩ := s_act R (by omega) hL (by omega)
    have e1 : (i + 1) * 219 = i * 219 + 219 := by omega
    have e2 : (i + 1) * 1314 = i * 1314 + 1314 := by omega
    have hk1 : i * 219 + 219 ≤ 34 * 219 := by omega
    have hk2 : i * 1314 + 1314 ≤ 34 * 1314 := by omega
    refine r_iload_n X 3 dL_holds_30 rfl rfl ?_
    refine r_bipush X (v := 34) dL_holds_31 (by decide) ?_
    refine r_icmp_ge X 65 dL_holds_33 (by decide) (fun c => absurd c (show ¬ (34 : Int32) ≤ I i from le_IN (m := 34) (by omega) (by decide))) (fun c => ?_)
    refine r_aload_n X 0 dL_holds_36 rfl rfl ?_
    refine r_callV (rmc := ⟨11, 49, 294, 323⟩) X hl0 (ci := 10) dL_holds_37 y_L_act m_L_381 rfl rfl R.iO (t_l_act (l := l) hst (G := G) E1) rfl rfl (Nat.le_of_ble_eq_true rfl) ⟨by decide, by show kc0 + i * 219 + 49 ≤ 16000; omega, by show ks0 + i * 1314 + 294 ≤ 183000; omega⟩ ?_
    refine r_if_eq X 57 dL_holds_40 (by decide) (fun c => absurd c (by decide)) (fun c => ?_)
    refine r_iload_n X 3 dL_holds_43 rfl rfl ?_
    refine r_iconst X (v := 4) dL_holds_44 (by decide) ?_
    refine r_irem X dL_holds_45 (by decide) ?_
    refine r_iconst X (v := 3) dL_holds_46 (by decide) ?_
    refine r_icmp_ne X 59 dL_holds_47 (by decide) (fun c => ?_) (fun c => ?_)
    · exact r_widen X (kc' := kc0 + (i + 1) * 219) (ks' := ks0 + (i + 1) * 1314) ⟨by dsimp only; omega, by dsimp only; omega⟩ ⟨by dsimp only; omega, by dsimp only; omega⟩ (back g1 K1 (T + 6) R1 (by omega) (by omega))
    · obtain ⟨g2, E2, R2⟩ := Rn_same R1
      refine r_aload_n X 0 dL_holds_50 rfl rfl ?_
      refine r_callV (rmc := ⟨10, 170, 1020, 301⟩) X hl0 (ci := 10) dL_holds_51 y_L_same m_L_378 rfl rfl R1.iO (t_l_same (l := l) hst (G := G) E2) rfl rfl (Nat.le_of_ble_eq_true rfl) ⟨by decide, by show kc0 + i * 219 + 49 + 170 ≤ 16000; omega, by show ks0 + i * 1314 + 294 + 1020 ≤ 183000; omega⟩ ?_
      refine r_if_ne X 59 dL_holds_54 (by decide) (fun c => ?_) (fun c => absurd c (by decide))
      exact r_widen X (kc' := kc0 + (i + 1) * 219) (ks' := ks0 + (i + 1) * 1314) ⟨by dsimp only; omega, by dsimp only; omega⟩ ⟨by dsimp only; omega, by dsimp only; omega⟩ (back g2 K1 (T + 6) R2 (by omega) (by omega))
set_option maxHeartbeats 4000000 in
set_option maxRecDepth 100000 in
theorem h_rounds {l : Launch} {G : GG} {M : MC} (X : CX M G cL_holds 4 RL rmH) (hl0 : M.2.1 = l) (hst : l.stackTraces = false) (hr : (mM M).sig.returnType = some .boolean) (hL : (GK G).2.2.1 < 2 ^ 30) {p : Nat} : ∀ (m i K : Nat) (g : AH), i + m = 2 → Ns (GK G) p K g → K ≤ 300 * i → WW M G 4 (RQ M G (some (.int 1)) ((fun _ => none), none) 16000 183000) (i * 7882) (i * 91054) g 7 [(0, .ref p), (2, .int (I i))] [] := by
  intro m
  induction m with
  | zero =>
    intro i K g hi S hK
    have hi2 : i = 2 := by omega
    subst hi2
    refine r_iload_n X 2 dL_holds_7 rfl rfl ?_
    refine r_iconst X (v := 2) dL_holds_8 (by decide) ?_
    refine r_icmp_ge X 71 dL_holds_9 (by decide) (fun c => ?_) (fun c => absurd (show (2 : Int32) ≤ I 2 by decide) c)
    refine r_iconst X (v := 1) dL_holds_71 (by decide) ?_
    refine r_weak X (g2 := ((fun _ => none), none)) (fun a e h => by cases h) rfl ?_
    exact r_zret X hr (Or.inr rfl) dL_holds_72 (by decide) (by decide)
  | succ m ih =>
    intro i K g hi S hK
    have hi2 : i ≤ 1 := by omega
    obtain ⟨f, o⟩ := g
    refine r_iload_n X 2 dL_holds_7 rfl rfl ?_
    refine r_iconst X (v := 2) dL_holds_8 (by decide) ?_
    refine r_icmp_ge X 71 dL_holds_9 (by decide) (fun c => absurd c (show ¬ (2 : Int32) ≤ I i from le_IN (m := 2) (by omega) (by decide))) (fun c => ?_)
    refine r_size X (fun N hN => ?_)
    obtain ⟨g1, A, n, K1, E1, hA, h5, hK1, R1, hn⟩ := r_loads S (by omega) hL hN
    have iO : isO 10 (f, some N) p = some () := by
      obtain ⟨A', n', F', f', len', b', w', r', rfl, -, -, -, h⟩ := S
      obtain ⟨e, q, V, q2, -⟩ := (h N hN).2.2.2.2.2.1 0 (DD0 (by decide)) (by decide)
      exact isO_of (by rw [← q2]; exact q)
    subst hA
    obtain ⟨g2, E2, R2⟩ := Rn_same R1
    refine r_aload_n X 0 dL_holds_12 rfl rfl ?_
    refine r_callV (rmc := ⟨13, 266, 45358, 354⟩) X hl0 (ci := 10) dL_holds_13 y_L_loads m_L_374 rfl rfl iO (t_l_loads (l := l) hst (G := G) E1) rfl rfl (Nat.le_of_ble_eq_true rfl) ⟨by decide, by show i * 7882 + 266 ≤ 16000; omega, by show i * 91054 + 45358 ≤ 183000; omega⟩ ?_
    refine r_if_eq X 26 dL_holds_16 (by decide) (fun c => absurd c (by decide)) (fun c => ?_)
    refine r_aload_n X 0 dL_holds_19 rfl rfl ?_
    refine r_callV (rmc := ⟨10, 170, 1020, 301⟩) X hl0 (ci := 10) dL_holds_20 y_L_same m_L_378 rfl rfl R1.iO (t_l_same (l := l) hst (G := G) E2) rfl rfl (Nat.le_of_ble_eq_true rfl) ⟨by decide, by show i * 7882 + 266 + 170 ≤ 16000; omega, by show i * 91054 + 45358 + 1020 ≤ 183000; omega⟩ ?_
    refine r_if_ne X 28 dL_holds_23 (by decide) (fun c => ?_) (fun c => absurd c (by decide))
    refine r_iconst X (v := 0) dL_holds_28 (by decide) ?_
    refine r_istore_n X 3 (L1 := [(3, .int 0), (0, .ref (A 0)), (2, .int (I i))]) dL_holds_29 rfl (by decide) rfl ?_
    refine r_pick (L1 := [(0, .ref (A 0)), (2, .int (I i)), (3, .int 0)]) (is := [1, 2, 0]) rfl ?_
    have W := h_steps X hl0 hst hL (Q := RQ M G (some (.int 1)) ((fun _ => none), none) 16000 183000) (A := A) (n := n) (K0 := K1) (by omega) (x := I i) (kc0 := i * 7882 + 266 + 170) (ks0 := i * 91054 + 45358 + 1020) (by omega) (by omega) (fun g3 K3 T3 R3 hK3 => by
      refine r_iinc X (v := I (i + 1)) (L1 := [(2, .int (I (i + 1))), (0, .ref (A 0))]) dL_holds_65 rfl (I_succ i) (by decide) rfl ?_
      refine r_goto X 7 dL_holds_68 (by decide) ?_
      refine r_widen X (kc' := (i + 1) * 7882) (ks' := (i + 1) * 91054) ⟨by omega, by show (i + 1) * 7882 ≤ 16000; omega⟩ ⟨by omega, by show (i + 1) * 91054 ≤ 183000; omega⟩ ?_
      exact r_pick (by rfl : lpick [(2, .int (I (i + 1))), (0, .ref (A 0))] [1, 0] = _) (ih (i + 1) K3 g3 (by omega) (Ns_of R3 h5 hn) (by omega))) 34 0 K1 0 g2 (by omega) R2 (by omega) (by omega)
    rw [Nat.zero_mul, Nat.add_zero, Nat.add_zero, show I 0 = (0 : Int32) from rfl] at W
    have W2 : WW M G 4 (RQ M G (some (.int 1)) ((fun _ => none), none) 16000 183000) (i * 7882 + 266 + 170) (i * 91054 + 45358 + 1020) g2 30 [(0, .ref (A 0)), (2, .int (I i)), (3, .int 0)] [] := W
    refine r_widen X (kc' := i * 7882 + 266 + 170) (ks' := i * 91054 + 45358 + 1020) ⟨by show i * 7882 + 266 + 170 ≤ i * 7882 + 266 + 170; exact Nat.le_refl _, by show i * 7882 + 266 + 170 ≤ 16000; omega⟩ ⟨by show i * 91054 + 45358 + 1020 ≤ i * 91054 + 45358 + 1020; exact Nat.le_refl _, by show i * 91054 + 45358 + 1020 ≤ 183000; omega⟩ ?_
    exact W2
theorem t_l_holds {l : Launch} (hst : l.stackTraces = false) {G : GG} {p b : Nat} {g g2 : AH} (e : putV 10 g p 1 (.ref b) = some g2) (hL : (GK G).2.2.1 < 2 ^ 30) (S : Ns (GK G) p 0 g2) : Ct l G yL_holds cL_holds 4 (some .boolean) rmH [.ref p, .ref b] g (some (.int 1)) ((fun _ => none), none) :=
  ct_of (L0 := [(0, .ref p), (1, .ref b)]) y_L_holds rfl (Nat.le_of_ble_eq_true rfl) fun M hl0 X hr hnm => by
    refine r_aload_n X 0 dL_holds_0 rfl rfl ?_
    refine r_aload_n X 1 dL_holds_1 rfl rfl ?_
    refine r_put X dL_holds_2 f_L_35 rfl rfl e ?_
    refine r_iconst X (v := 0) dL_holds_5 (by decide) ?_
    refine r_istore_n X 2 (L1 := [(2, .int 0), (0, .ref p), (1, .ref b)]) dL_holds_6 rfl (by decide) rfl ?_
    exact r_pick (by rfl : lpick [(2, .int 0), (0, .ref p), (1, .ref b)] [1, 0] = _) (h_rounds X hl0 hst hr hL 2 0 0 g2 (by omega) S (by omega))
