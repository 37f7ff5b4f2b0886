/-! the law's rows are drawn and written -/
theorem RW_app (vs : List Nat) (v : Nat) : RW (vs ++ [v]) = RW vs ++ 32 :: DG v := by
  induction vs with
  | nil =>
    show 32 :: (DG v ++ []) = 32 :: DG v
    rw [List.append_nil]
  | cons x vs ih =>
    show 32 :: (DG x ++ RW (vs ++ [v])) = 32 :: (DG x ++ RW vs) ++ 32 :: DG v
    rw [ih, List.cons_append, List.append_assoc]
theorem DG_one {v : Nat} (h : v < 10) : (DG v).length = 1 := by
  unfold DG
  rw [if_pos h]
  rfl
section Rows
variable {g : AH} {A : Nat → Nat} {k9 : KK} {n K p m : Nat} {F : Nat → Int32} {f : Rw3} {b : Bool} {w : WS} {N sb val : Nat} {l : List Int32}
theorem s_row105 (hp : A 0 = p) (M : Nat) (H : LL g A k9 n K F f [] b w N sb val) (B : Bu g m sb val N l l.length) (hK : K < 2 ^ 29) (hL : k9.2.2.1 < 2 ^ 30) (hF : F 7 = I M) (hM : M ≤ 8) (hl : l.length + 2 * M ≤ 173) : ∃ g1 K1 f1 bs val1 N1, loopX (l_loads_l105 k9 p sb) 9 0 g = some ((), g1) ∧ bs.length = M ∧ (∀ v, v ∈ bs → 0 ≤ v ∧ v ≤ 5) ∧ (∀ j, j < M → f1.1 j = I (bs.getD j 0)) ∧ (f1.2.1 = f.2.1 ∧ f1.2.2 = f.2.2) ∧ LL g1 A k9 n K1 F f1 [] b w N1 sb val1 ∧ Bu g1 m sb val1 N1 (l ++ RW bs) (l ++ RW bs).length ∧ K1 = K + M ∧ (RW bs).length ≤ 2 * M := by
  subst hp
  obtain ⟨t, g1, e1, K1, f1, bs, val1, N1, h⟩ := loop_inv (n := M) (fuel := 9) (body := l_loads_l105 k9 (A 0) sb) (P := fun i s g1 => s = I i ∧ ∃ K1 f1 bs val1 N1, bs.length = i ∧ (∀ v, v ∈ bs → 0 ≤ v ∧ v ≤ 5) ∧ (∀ j, j < i → f1.1 j = I (bs.getD j 0)) ∧ (f1.2.1 = f.2.1 ∧ f1.2.2 = f.2.2) ∧ LL g1 A k9 n K1 F f1 [] b w N1 sb val1 ∧ Bu g1 m sb val1 N1 (l ++ RW bs) (l ++ RW bs).length ∧ K1 = K + i ∧ (RW bs).length ≤ 2 * i) (Q := fun _ g1 => ∃ K1 f1 bs val1 N1, bs.length = M ∧ (∀ v, v ∈ bs → 0 ≤ v ∧ v ≤ 5) ∧ (∀ j, j < M → f1.1 j = I (bs.getD j 0)) ∧ (f1.2.1 = f.2.1 ∧ f1.2.2 = f.2.2) ∧ LL g1 A k9 n K1 F f1 [] b w N1 sb val1 ∧ Bu g1 m sb val1 N1 (l ++ RW bs) (l ++ RW bs).length ∧ K1 = K + M ∧ (RW bs).length ≤ 2 * M) (fun i s g1 hi hP => by
    obtain ⟨rfl, K1, f1, bs, val1, N1, h1, h2, h3, h4, H1, B1, h5, h6⟩ := hP
    have hlen : (l ++ RW bs).length + 3 ≤ 175 := by
      rw [List.length_append]
      omega
    obtain ⟨g2, val2, N2, e2, B2, A2⟩ := B1.chr (x := 32) (Or.inl rfl) (by omega)
    have H2 := H1.fr (fun a a1 a2 a3 => A2.2.2 a a1 a2 a3) A2.1 (Or.inl rfl) A2.2.1
    obtain ⟨v, g3, hv, e3, H3, q3, q3'⟩ := H2.draw (by omega) hL (m := 6) (by decide) (by decide)
    have n0 := H2.2.2.1 0 (DD0 (by decide))
    have B3 := B2.fr q3 (q3' _ (fun hc => n0.2.2.1 hc.symm)) (q3' _ (fun hc => n0.2.2.2 hc.symm))
    have e3 : l_draw k9 (A 0) 6 g2 = some (I v, g3) := e3
    obtain ⟨g4, e4, H4, q4, q4'⟩ := H3.r2 (j := i) (by omega) (I ( v))
    have n2 := H3.2.2.1 2 (DD0 (by decide))
    have B4 := B3.fr q4 (q4' _ (fun hc => n2.2.2.1 hc.symm)) (q4' _ (fun hc => n2.2.2.2 hc.symm))
    obtain ⟨g5, val5, N5, e5, B5, A5⟩ := B4.num (v :=  v) (by omega) (by
      rw [List.length_append, List.length_singleton]
      omega)
    have H5 := H4.fr (fun a a1 a2 a3 => A5.2.2 a a1 a2 a3) A5.1 (Or.inl rfl) A5.2.1
    have er : l ++ RW bs ++ [32] ++ DG ( v) = l ++ RW (bs ++ [ v]) := by
      rw [RW_app, List.append_assoc, List.append_assoc]
      rfl
    rw [er] at B5
    refine ⟨I (i + 1), g5, ?_, rfl, K1 + 1, _, bs ++ [ v], val5, N5, by rw [List.length_append, List.length_singleton, h1], fun x hx => ?_, fun j hj => ?_, ?_, H5, B5, by omega, ?_⟩
    · unfold l_loads_l105
      rw [H1.gI (by decide) (by decide), gb_s, hF, if_neg (le_IN hi (by omega)), B1.o, gb_s, e2, cb_s, H2.g4, gb_s, H2.iO, gb_s, e3, cb_s,  e4, gb_s, B4.o, gb_s, e5, cb_s, I_succ]
    · rcases List.mem_append.mp hx with hx | hx
      · exact h2 x hx
      · rw [List.mem_singleton.mp hx]
        omega
    · show upd f1.1 i (I ( v)) j = _
      by_cases hj2 : j = i
      · subst hj2
        rw [upd_at]
        congr 1
        rw [← h1]
        simp
      · rw [upd_ne hj2, h3 j (by omega)]
        congr 1
        simp [List.getD_eq_getElem?_getD, List.getElem?_append_left (show j < bs.length by omega)]
    · exact h4
    · rw [RW_app, List.length_append, List.length_cons]
      have hd : (DG ( v)).length ≤ 2 - 1 := by rw [DG_one (by omega)]; decide
      rw [Nat.mul_succ]
      omega) (fun s g1 hP => by
    obtain ⟨rfl, K1, f1, bs, val1, N1, h1, h2, h3, h4, H1, B1, h5⟩ := hP
    refine ⟨(), g1, ?_, K1, f1, bs, val1, N1, h1, h2, h3, h4, H1, B1, h5⟩
    unfold l_loads_l105
    rw [H1.gI (by decide) (by decide), gb_s, hF, if_pos (Int32.le_refl _)]) (by omega) (s := 0) (g := g) ⟨rfl, K, f, [], val, N, rfl, fun v hv => absurd hv (by simp), fun j hj => absurd hj (Nat.not_lt_zero j), ⟨rfl, rfl⟩, H, by rw [show l ++ RW [] = l from List.append_nil l]; exact B, rfl, Nat.zero_le _⟩
  exact ⟨g1, K1, f1, bs, val1, N1, e1, h⟩
theorem s_row151 (hp : A 0 = p) (M : Nat) (H : LL g A k9 n K F f [] b w N sb val) (B : Bu g m sb val N l l.length) (hK : K < 2 ^ 29) (hL : k9.2.2.1 < 2 ^ 30) (hF : F 8 = I M) (hM : M ≤ 6) (hl : l.length + 2 * M ≤ 173) : ∃ g1 K1 f1 bs val1 N1, loopX (l_loads_l151 k9 p sb) 7 0 g = some ((), g1) ∧ bs.length = M ∧ (∀ v, v ∈ bs → 1 ≤ v ∧ v ≤ 9) ∧ (∀ j, j < M → f1.2.1 j = I (bs.getD j 0)) ∧ (f1.1 = f.1 ∧ f1.2.2 = f.2.2) ∧ LL g1 A k9 n K1 F f1 [] b w N1 sb val1 ∧ Bu g1 m sb val1 N1 (l ++ RW bs) (l ++ RW bs).length ∧ K1 = K + M ∧ (RW bs).length ≤ 2 * M := by
  subst hp
  obtain ⟨t, g1, e1, K1, f1, bs, val1, N1, h⟩ := loop_inv (n := M) (fuel := 7) (body := l_loads_l151 k9 (A 0) sb) (P := fun i s g1 => s = I i ∧ ∃ K1 f1 bs val1 N1, bs.length = i ∧ (∀ v, v ∈ bs → 1 ≤ v ∧ v ≤ 9) ∧ (∀ j, j < i → f1.2.1 j = I (bs.getD j 0)) ∧ (f1.1 = f.1 ∧ f1.2.2 = f.2.2) ∧ LL g1 A k9 n K1 F f1 [] b w N1 sb val1 ∧ Bu g1 m sb val1 N1 (l ++ RW bs) (l ++ RW bs).length ∧ K1 = K + i ∧ (RW bs).length ≤ 2 * i) (Q := fun _ g1 => ∃ K1 f1 bs val1 N1, bs.length = M ∧ (∀ v, v ∈ bs → 1 ≤ v ∧ v ≤ 9) ∧ (∀ j, j < M → f1.2.1 j = I (bs.getD j 0)) ∧ (f1.1 = f.1 ∧ f1.2.2 = f.2.2) ∧ LL g1 A k9 n K1 F f1 [] b w N1 sb val1 ∧ Bu g1 m sb val1 N1 (l ++ RW bs) (l ++ RW bs).length ∧ K1 = K + M ∧ (RW bs).length ≤ 2 * M) (fun i s g1 hi hP => by
    obtain ⟨rfl, K1, f1, bs, val1, N1, h1, h2, h3, h4, H1, B1, h5, h6⟩ := hP
    have hlen : (l ++ RW bs).length + 3 ≤ 175 := by
      rw [List.length_append]
      omega
    obtain ⟨g2, val2, N2, e2, B2, A2⟩ := B1.chr (x := 32) (Or.inl rfl) (by omega)
    have H2 := H1.fr (fun a a1 a2 a3 => A2.2.2 a a1 a2 a3) A2.1 (Or.inl rfl) A2.2.1
    obtain ⟨v, g3, hv, e3, H3, q3, q3'⟩ := H2.draw (by omega) hL (m := 9) (by decide) (by decide)
    have n0 := H2.2.2.1 0 (DD0 (by decide))
    have B3 := B2.fr q3 (q3' _ (fun hc => n0.2.2.1 hc.symm)) (q3' _ (fun hc => n0.2.2.2 hc.symm))
    have e3 : l_draw k9 (A 0) 9 g2 = some (I v, g3) := e3
    obtain ⟨g4, e4, H4, q4, q4'⟩ := H3.r3 (j := i) (by omega) (I (1 +  v))
    have n2 := H3.2.2.1 3 (DD0 (by decide))
    have B4 := B3.fr q4 (q4' _ (fun hc => n2.2.2.1 hc.symm)) (q4' _ (fun hc => n2.2.2.2 hc.symm))
    obtain ⟨g5, val5, N5, e5, B5, A5⟩ := B4.num (v := 1 +  v) (by omega) (by
      rw [List.length_append, List.length_singleton]
      omega)
    have H5 := H4.fr (fun a a1 a2 a3 => A5.2.2 a a1 a2 a3) A5.1 (Or.inl rfl) A5.2.1
    have er : l ++ RW bs ++ [32] ++ DG (1 +  v) = l ++ RW (bs ++ [1 +  v]) := by
      rw [RW_app, List.append_assoc, List.append_assoc]
      rfl
    rw [er] at B5
    refine ⟨I (i + 1), g5, ?_, rfl, K1 + 1, _, bs ++ [1 +  v], val5, N5, by rw [List.length_append, List.length_singleton, h1], fun x hx => ?_, fun j hj => ?_, ?_, H5, B5, by omega, ?_⟩
    · unfold l_loads_l151
      rw [H1.gI (by decide) (by decide), gb_s, hF, if_neg (le_IN hi (by omega)), B1.o, gb_s, e2, cb_s, H2.g5, gb_s, H2.iO, gb_s, e3, cb_s, show (1 : Int32) + I v = I (1 + v) from I_add 1 v, e4, gb_s, B4.o, gb_s, e5, cb_s, I_succ]
    · rcases List.mem_append.mp hx with hx | hx
      · exact h2 x hx
      · rw [List.mem_singleton.mp hx]
        omega
    · show upd f1.2.1 i (I (1 +  v)) j = _
      by_cases hj2 : j = i
      · subst hj2
        rw [upd_at]
        congr 1
        rw [← h1]
        simp
      · rw [upd_ne hj2, h3 j (by omega)]
        congr 1
        simp [List.getD_eq_getElem?_getD, List.getElem?_append_left (show j < bs.length by omega)]
    · exact h4
    · rw [RW_app, List.length_append, List.length_cons]
      have hd : (DG (1 +  v)).length ≤ 2 - 1 := by rw [DG_one (by omega)]; decide
      rw [Nat.mul_succ]
      omega) (fun s g1 hP => by
    obtain ⟨rfl, K1, f1, bs, val1, N1, h1, h2, h3, h4, H1, B1, h5⟩ := hP
    refine ⟨(), g1, ?_, K1, f1, bs, val1, N1, h1, h2, h3, h4, H1, B1, h5⟩
    unfold l_loads_l151
    rw [H1.gI (by decide) (by decide), gb_s, hF, if_pos (Int32.le_refl _)]) (by omega) (s := 0) (g := g) ⟨rfl, K, f, [], val, N, rfl, fun v hv => absurd hv (by simp), fun j hj => absurd hj (Nat.not_lt_zero j), ⟨rfl, rfl⟩, H, by rw [show l ++ RW [] = l from List.append_nil l]; exact B, rfl, Nat.zero_le _⟩
  exact ⟨g1, K1, f1, bs, val1, N1, e1, h⟩
theorem s_row199 (hp : A 0 = p) (M : Nat) (H : LL g A k9 n K F f [] b w N sb val) (B : Bu g m sb val N l l.length) (hK : K < 2 ^ 29) (hL : k9.2.2.1 < 2 ^ 30) (hF : F 9 = I M) (hM : M ≤ 6) (hl : l.length + 3 * M ≤ 173) : ∃ g1 K1 f1 bs val1 N1, loopX (l_loads_l199 k9 p sb) 7 0 g = some ((), g1) ∧ bs.length = M ∧ (∀ v, v ∈ bs → 0 ≤ v ∧ v ≤ 20) ∧ (∀ j, j < M → f1.2.2 j = I (bs.getD j 0)) ∧ (f1.1 = f.1 ∧ f1.2.1 = f.2.1) ∧ LL g1 A k9 n K1 F f1 [] b w N1 sb val1 ∧ Bu g1 m sb val1 N1 (l ++ RW bs) (l ++ RW bs).length ∧ K1 = K + M ∧ (RW bs).length ≤ 3 * M := by
  subst hp
  obtain ⟨t, g1, e1, K1, f1, bs, val1, N1, h⟩ := loop_inv (n := M) (fuel := 7) (body := l_loads_l199 k9 (A 0) sb) (P := fun i s g1 => s = I i ∧ ∃ K1 f1 bs val1 N1, bs.length = i ∧ (∀ v, v ∈ bs → 0 ≤ v ∧ v ≤ 20) ∧ (∀ j, j < i → f1.2.2 j = I (bs.getD j 0)) ∧ (f1.1 = f.1 ∧ f1.2.1 = f.2.1) ∧ LL g1 A k9 n K1 F f1 [] b w N1 sb val1 ∧ Bu g1 m sb val1 N1 (l ++ RW bs) (l ++ RW bs).length ∧ K1 = K + i ∧ (RW bs).length ≤ 3 * i) (Q := fun _ g1 => ∃ K1 f1 bs val1 N1, bs.length = M ∧ (∀ v, v ∈ bs → 0 ≤ v ∧ v ≤ 20) ∧ (∀ j, j < M → f1.2.2 j = I (bs.getD j 0)) ∧ (f1.1 = f.1 ∧ f1.2.1 = f.2.1) ∧ LL g1 A k9 n K1 F f1 [] b w N1 sb val1 ∧ Bu g1 m sb val1 N1 (l ++ RW bs) (l ++ RW bs).length ∧ K1 = K + M ∧ (RW bs).length ≤ 3 * M) (fun i s g1 hi hP => by
    obtain ⟨rfl, K1, f1, bs, val1, N1, h1, h2, h3, h4, H1, B1, h5, h6⟩ := hP
    have hlen : (l ++ RW bs).length + 3 ≤ 175 := by
      rw [List.length_append]
      omega
    obtain ⟨g2, val2, N2, e2, B2, A2⟩ := B1.chr (x := 32) (Or.inl rfl) (by omega)
    have H2 := H1.fr (fun a a1 a2 a3 => A2.2.2 a a1 a2 a3) A2.1 (Or.inl rfl) A2.2.1
    obtain ⟨v, g3, hv, e3, H3, q3, q3'⟩ := H2.draw (by omega) hL (m := 14) (by decide) (by decide)
    have n0 := H2.2.2.1 0 (DD0 (by decide))
    have B3 := B2.fr q3 (q3' _ (fun hc => n0.2.2.1 hc.symm)) (q3' _ (fun hc => n0.2.2.2 hc.symm))
    have e3 : l_draw k9 (A 0) 14 g2 = some (I v, g3) := e3
    obtain ⟨g4, e4, H4, q4, q4'⟩ := H3.r4 (j := i) (by omega) (I ( v))
    have n2 := H3.2.2.1 4 (DD0 (by decide))
    have B4 := B3.fr q4 (q4' _ (fun hc => n2.2.2.1 hc.symm)) (q4' _ (fun hc => n2.2.2.2 hc.symm))
    obtain ⟨g5, val5, N5, e5, B5, A5⟩ := B4.num (v :=  v) (by omega) (by
      rw [List.length_append, List.length_singleton]
      omega)
    have H5 := H4.fr (fun a a1 a2 a3 => A5.2.2 a a1 a2 a3) A5.1 (Or.inl rfl) A5.2.1
    have er : l ++ RW bs ++ [32] ++ DG ( v) = l ++ RW (bs ++ [ v]) := by
      rw [RW_app, List.append_assoc, List.append_assoc]
      rfl
    rw [er] at B5
    refine ⟨I (i + 1), g5, ?_, rfl, K1 + 1, _, bs ++ [ v], val5, N5, by rw [List.length_append, List.length_singleton, h1], fun x hx => ?_, fun j hj => ?_, ?_, H5, B5, by omega, ?_⟩
    · unfold l_loads_l199
      rw [H1.gI (by decide) (by decide), gb_s, hF, if_neg (le_IN hi (by omega)), B1.o, gb_s, e2, cb_s, H2.g6, gb_s, H2.iO, gb_s, e3, cb_s,  e4, gb_s, B4.o, gb_s, e5, cb_s, I_succ]
    · rcases List.mem_append.mp hx with hx | hx
      · exact h2 x hx
      · rw [List.mem_singleton.mp hx]
        omega
    · show upd f1.2.2 i (I ( v)) j = _
      by_cases hj2 : j = i
      · subst hj2
        rw [upd_at]
        congr 1
        rw [← h1]
        simp
      · rw [upd_ne hj2, h3 j (by omega)]
        congr 1
        simp [List.getD_eq_getElem?_getD, List.getElem?_append_left (show j < bs.length by omega)]
    · exact h4
    · rw [RW_app, List.length_append, List.length_cons]
      have hd : (DG ( v)).length ≤ 3 - 1 := (DG_len _).2
      rw [Nat.mul_succ]
      omega) (fun s g1 hP => by
    obtain ⟨rfl, K1, f1, bs, val1, N1, h1, h2, h3, h4, H1, B1, h5⟩ := hP
    refine ⟨(), g1, ?_, K1, f1, bs, val1, N1, h1, h2, h3, h4, H1, B1, h5⟩
    unfold l_loads_l199
    rw [H1.gI (by decide) (by decide), gb_s, hF, if_pos (Int32.le_refl _)]) (by omega) (s := 0) (g := g) ⟨rfl, K, f, [], val, N, rfl, fun v hv => absurd hv (by simp), fun j hj => absurd hj (Nat.not_lt_zero j), ⟨rfl, rfl⟩, H, by rw [show l ++ RW [] = l from List.append_nil l]; exact B, rfl, Nat.zero_le _⟩
  exact ⟨g1, K1, f1, bs, val1, N1, e1, h⟩
end Rows
