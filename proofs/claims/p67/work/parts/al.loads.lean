/-! the law loads a hut -/
theorem HW_app (hs : List H3) (t : H3) : HW (hs ++ [t]) = HW hs ++ (bytST 5 ++ (32 :: (DG t.1 ++ (32 :: (DG t.2.1 ++ (32 :: (DG t.2.2 ++ [59]))))))) := by
  induction hs with
  | nil => rfl
  | cons x hs ih =>
    show bytST 5 ++ (32 :: (DG x.1 ++ (32 :: (DG x.2.1 ++ (32 :: (DG x.2.2 ++ (59 :: HW (hs ++ [t])))))))) = bytST 5 ++ (32 :: (DG x.1 ++ (32 :: (DG x.2.1 ++ (32 :: (DG x.2.2 ++ (59 :: HW hs))))))) ++ _
    rw [ih]
    simp [List.append_assoc]
theorem b10 : bytST 10 = bytST 5 ++ [32] := by decide
section Hks
variable {g : AH} {A : Nat → Nat} {k9 : KK} {n K p m : Nat} {F : Nat → Int32} {f : Rw3} {b : Bool} {w : WS} {N sb val : Nat} {l : List Int32}
theorem s_hks (M : Nat) (H : LL g A k9 n K F f [] b w N sb val) (B : Bu g m sb val N l l.length) (hK : K < 2 ^ 29) (hL : k9.2.2.1 < 2 ^ 30) (hM : M ≤ 7) (hl : l.length + 14 * M ≤ 175) : ∃ g1 K1 A1 b1 hs val1 N1, loopX (l_loads_l252 k9 (A 0) sb) 8 (I M) g = some ((), g1) ∧ hs.length = M ∧ (∀ t, t ∈ hs → (1 ≤ t.1 ∧ t.1 ≤ 30) ∧ t.2.1 ≤ 9 ∧ t.2.2 ≤ 99) ∧ (∀ j, j < 5 → A1 j = A j) ∧ LL g1 A1 k9 n K1 F f hs b1 w N1 sb val1 ∧ Bu g1 m sb val1 N1 (l ++ HW hs) (l ++ HW hs).length ∧ K1 = K + 3 * M ∧ (HW hs).length ≤ 14 * M ∧ (1 ≤ M → b1 = true) := by
  obtain ⟨t, g1, e1, h⟩ := loop_inv (n := M) (fuel := 8) (body := l_loads_l252 k9 (A 0) sb) (P := fun i s g1 => s = I (M - i) ∧ ∃ K1 A1 b1 hs val1 N1, hs.length = i ∧ (∀ t, t ∈ hs → (1 ≤ t.1 ∧ t.1 ≤ 30) ∧ t.2.1 ≤ 9 ∧ t.2.2 ≤ 99) ∧ (∀ j, j < 5 → A1 j = A j) ∧ LL g1 A1 k9 n K1 F f hs b1 w N1 sb val1 ∧ Bu g1 m sb val1 N1 (l ++ HW hs) (l ++ HW hs).length ∧ K1 = K + 3 * i ∧ (HW hs).length ≤ 14 * i ∧ (1 ≤ i → b1 = true)) (Q := fun _ g1 => ∃ K1 A1 b1 hs val1 N1, hs.length = M ∧ (∀ t, t ∈ hs → (1 ≤ t.1 ∧ t.1 ≤ 30) ∧ t.2.1 ≤ 9 ∧ t.2.2 ≤ 99) ∧ (∀ j, j < 5 → A1 j = A j) ∧ LL g1 A1 k9 n K1 F f hs b1 w N1 sb val1 ∧ Bu g1 m sb val1 N1 (l ++ HW hs) (l ++ HW hs).length ∧ K1 = K + 3 * M ∧ (HW hs).length ≤ 14 * M ∧ (1 ≤ M → b1 = true)) (fun i s g hi hP => by
    obtain ⟨rfl, K1, A1, b1, hs, val1, N1, h1, h2, h3, H1, B1, h5, h6, h7⟩ := hP
    have hA0 := h3 0 (by decide)
    obtain ⟨Bz, ⟨Bm1, Bm2, Bs, Bv, Bn⟩, -⟩ := id B1
    -- the new object and its hours
    have eO : newO 9 tyX9 g = some (N1, hnew g N1 (.inl (9, fun k => defaultValue (tyX9 k)))) := by
      unfold newO
      rw [Bz]
    generalize hg1 : hnew g N1 (.inl (9, fun k => defaultValue (tyX9 k))) = g1 at eO
    have g1N : g1.1 N1 = some (.inl (9, fun k => defaultValue (tyX9 k))) := by rw [← hg1]; exact if_pos rfl
    have p1 : putV 9 g1 N1 5 (.int (-1)) = some (hset g1 N1 (.inl (9, updV (fun k => defaultValue (tyX9 k)) 5 (.int (-1))))) := putV_of g1N
    generalize hg2 : hset g1 N1 (.inl (9, updV (fun k => defaultValue (tyX9 k)) 5 (.int (-1)))) = g2 at p1
    have g2N : g2.1 N1 = some (.inl (9, updV (fun k => defaultValue (tyX9 k)) 5 (.int (-1)))) := by rw [← hg2]; exact hset_at
    have p2 : putV 9 g2 N1 6 (.int (-1)) = some (hset g2 N1 (.inl (9, updV (updV (fun k => defaultValue (tyX9 k)) 5 (.int (-1))) 6 (.int (-1))))) := putV_of g2N
    generalize hg3 : hset g2 N1 (.inl (9, updV (updV (fun k => defaultValue (tyX9 k)) 5 (.int (-1))) 6 (.int (-1)))) = g3 at p2
    have g3N : g3.1 N1 = some (.inl (9, updV (updV (fun k => defaultValue (tyX9 k)) 5 (.int (-1))) 6 (.int (-1)))) := by rw [← hg3]; exact hset_at
    have g3z : g3.2 = some (N1 + 1) := by rw [← hg3, ← hg2, ← hg1]; rfl
    have p3 : newA 0 (.inl (fun _ => 0)) g3 4 = some (N1 + 1, hnew g3 (N1 + 1) (.inr (0, 4, .inl (fun _ => 0)))) := by
      unfold newA
      rw [g3z]
      dsimp only
      rw [if_neg (by decide)]
      rfl
    generalize hg4 : hnew g3 (N1 + 1) (.inr (0, 4, .inl (fun _ => 0))) = g4 at p3
    have g4N : g4.1 N1 = some (.inl (9, updV (updV (fun k => defaultValue (tyX9 k)) 5 (.int (-1))) 6 (.int (-1)))) := by rw [← hg4]; exact (if_neg (by omega)).trans g3N
    have g4M : g4.1 (N1 + 1) = some (.inr (0, 4, .inl (fun _ => 0))) := by rw [← hg4]; exact if_pos rfl
    have g4z : g4.2 = some (N1 + 2) := by rw [← hg4]; rfl
    have g4E : ∀ a, a < N1 → g4.1 a = g.1 a := fun a ha => by
      rw [← hg4, ← hg3, ← hg2, ← hg1]
      exact (if_neg (by omega)).trans ((hset_ne (by omega)).trans ((hset_ne (by omega)).trans (if_neg (by omega))))
    have X0 : Hm g g4 A1 k9 n K1 F f hs b1 w N1 sb val1 (updV (updV (fun k => defaultValue (tyX9 k)) 5 (.int (-1))) 6 (.int (-1))) := ⟨H1.fr (fun a a1 a2 a3 => g4E a a1) (Nat.le_refl _) (Or.inl rfl) (Or.inl rfl), ⟨g4E _ Bs, g4E _ Bv, Bs, Bv⟩, g4z, g4N, g4M⟩
    obtain ⟨g5, p5, X5⟩ := X0.put 7 (.ref (N1 + 1))
    have eI : x9_init N1 g1 = some ((), g5) := by
      unfold x9_init
      rw [p1, gb_s, p2, gb_s, p3, cb_s, p5, gb_s]
    obtain ⟨g6, p6, X6⟩ := X5.put 0 (.int (I hs.length))
    obtain ⟨v1, g7, hv1, d7, X7⟩ := X6.draw (by omega) hL (m := 18) (by decide) (by decide)
    obtain ⟨g8, p8, X8⟩ := X7.put 1 (.int (I (1 + v1)))
    obtain ⟨v2, g9, hv2, d9, X9⟩ := X8.draw (by omega) hL (m := 10) (by decide) (by decide)
    obtain ⟨ga, pa, Xa⟩ := X9.put 2 (.int (I v2))
    obtain ⟨v3, gc, hv3, dc, Xc⟩ := Xa.draw (by omega) hL (m := 40) (by decide) (by decide)
    obtain ⟨gd, pd, Xd⟩ := Xc.put 3 (.int (I v3))
    have d7 : l_draw k9 (A 0) 18 g6 = some (I v1, g7) := by rw [← hA0]; exact d7
    have d9 : l_draw k9 (A 0) 10 g8 = some (I v2, g9) := by rw [← hA0]; exact d9
    have dc : l_draw k9 (A 0) 40 ga = some (I v3, gc) := by rw [← hA0]; exact dc
    obtain ⟨ge, Ne, pe, He, se, ve, ze, le, oe, le2⟩ := Xd.add (t := (1 + v1, v2, v3)) (by omega) rfl (fun k k1 k2 => by
      match k, k1, k2 with
      | 1, _, _ => rfl
      | 2, _, _ => rfl
      | 3, _, _ => rfl
      | 4, _, _ => rfl
      | 5, _, _ => rfl
      | 6, _, _ => rfl) rfl
    -- the text
    have Be : Bu ge m sb val1 Ne (l ++ HW hs) (l ++ HW hs).length := by
      obtain ⟨-, -, V, cap, f1, e1, v0, v1', v3', e2, r⟩ := B1
      exact ⟨ze, ⟨Bm1, Bm2, by omega, by omega, Bn⟩, V, cap, f1, se.trans e1, v0, v1', v3', ve.trans e2, r⟩
    have hlen : (l ++ HW hs).length + 14 ≤ 175 := by
      rw [List.length_append]
      omega
    have w10 : wl 10 = 6 := by decide
    obtain ⟨x1, y1, z1, q1, C1, a1⟩ := Be.str (k := 10) (by decide) (by rw [w10]; omega)
    obtain ⟨x2, y2, z2, q2, C2, a2⟩ := C1.num (v := 1 + v1) (by omega) (by rw [List.length_append, show (bytST 10).length = 6 from w10]; omega)
    have g1' := (DG_len (1 + v1)).2
    have g2' : (DG v2).length = 1 := DG_one (by omega)
    have g3' := (DG_len v3).2
    have l2 : (l ++ HW hs ++ bytST 10 ++ DG (1 + v1)).length ≤ (l ++ HW hs).length + 8 := by
      rw [List.length_append, List.length_append (bs := bytST 10), show (bytST 10).length = 6 from w10]
      omega
    obtain ⟨x3, y3, z3, q3, C3, a3⟩ := C2.chr (x := 32) (Or.inl rfl) (by omega)
    have l3 : (l ++ HW hs ++ bytST 10 ++ DG (1 + v1) ++ [32]).length ≤ (l ++ HW hs).length + 9 := by
      rw [List.length_append, List.length_singleton]
      omega
    obtain ⟨x4, y4, z4, q4, C4, a4⟩ := C3.num (v := v2) (by omega) (by omega)
    have l4 : (l ++ HW hs ++ bytST 10 ++ DG (1 + v1) ++ [32] ++ DG v2).length ≤ (l ++ HW hs).length + 10 := by
      rw [List.length_append, g2']
      omega
    obtain ⟨x5, y5, z5, q5, C5, a5⟩ := C4.chr (x := 32) (Or.inl rfl) (by omega)
    have l5 : (l ++ HW hs ++ bytST 10 ++ DG (1 + v1) ++ [32] ++ DG v2 ++ [32]).length ≤ (l ++ HW hs).length + 11 := by
      rw [List.length_append, List.length_singleton]
      omega
    obtain ⟨x6, y6, z6, q6, C6, a6⟩ := C5.num (v := v3) (by omega) (by omega)
    have l6 : (l ++ HW hs ++ bytST 10 ++ DG (1 + v1) ++ [32] ++ DG v2 ++ [32] ++ DG v3).length ≤ (l ++ HW hs).length + 13 := by
      rw [List.length_append]
      omega
    obtain ⟨x7, y7, z7, q7, C7, a7⟩ := C6.chr (x := 59) (Or.inr rfl) (by omega)
    have AP := (((((a1.trans a2).trans a3).trans a4).trans a5).trans a6).trans a7
    have H7 := He.fr (fun a b1 b2 b3 => AP.2.2 a b1 b2 b3) AP.1 (Or.inl rfl) AP.2.1
    have er : l ++ HW hs ++ bytST 10 ++ DG (1 + v1) ++ [32] ++ DG v2 ++ [32] ++ DG v3 ++ [59] = l ++ HW (hs ++ [(1 + v1, v2, v3)]) := by
      rw [HW_app, b10]
      simp [List.append_assoc]
    rw [er] at C7
    -- the object's numbers, later on
    have oN : ∀ gg : AH, gg.1 N1 = ge.1 N1 → getI 9 gg N1 1 = some (I (1 + v1)) ∧ getI 9 gg N1 2 = some (I v2) ∧ getI 9 gg N1 3 = some (I v3) := fun gg hgg => by
      have := hgg.trans oe
      exact ⟨getI_of this rfl, getI_of this rfl, getI_of this rfl⟩
    have nsb : N1 ≠ sb := by omega
    have nv1 : N1 ≠ val1 := by omega
    have o1 := (oN x1 (a1.2.2 N1 le2 nsb nv1)).1
    have a13 := (a1.trans a2).trans a3
    have o2 := (oN x3 (a13.2.2 N1 le2 nsb nv1)).2.1
    have a15 := (a13.trans a4).trans a5
    have o3 := (oN x5 (a15.2.2 N1 le2 nsb nv1)).2.2
    have hne : I (M - i) = I ((M - (i + 1)) + 1) := by congr 1; omega
    refine ⟨I (M - (i + 1)), x7, ?_, rfl, K1 + 1 + 1 + 1, ext A1 hs.length N1 b1, true, hs ++ [(1 + v1, v2, v3)], y7, z7, by rw [List.length_append, List.length_singleton, h1], fun t ht => ?_, fun j hj => ?_, H7, C7, by omega, ?_, fun _ => rfl⟩
    · unfold l_loads_l252
      rw [if_neg (show ¬ I (M - i) ≤ 0 by rw [show (0 : Int32) = I 0 from rfl, I_le (by omega) (by decide)]; omega), eO, cb_s, eI, cb_s, ← hA0, X5.1.gl, gb_s, X5.1.isL, gb_s, X5.1.size, cb_s, p6, gb_s, X6.1.iO, gb_s, hA0, d7, cb_s, show (1 : Int32) + I v1 = I (1 + v1) from I_add 1 v1, p8, gb_s, ← hA0, X8.1.iO, gb_s, hA0, d9, cb_s, pa, gb_s, ← hA0, Xa.1.iO, gb_s, hA0, dc, cb_s, pd, gb_s, ← hA0, Xd.1.gl, gb_s, Xd.1.isL, gb_s, pe, cb_s, Be.o, gb_s, q1, cb_s, o1, gb_s, C1.o, gb_s, q2, cb_s, C2.o, gb_s, q3, cb_s, o2, gb_s, C3.o, gb_s, q4, cb_s, C4.o, gb_s, q5, cb_s, o3, gb_s, C5.o, gb_s, q6, cb_s, C6.o, gb_s, q7, cb_s, hne, I_m1']
    · rcases List.mem_append.mp ht with ht | ht
      · exact h2 t ht
      · rw [List.mem_singleton.mp ht]
        show (1 ≤ 1 + v1 ∧ 1 + v1 ≤ 30) ∧ v2 ≤ 9 ∧ v3 ≤ 99
        omega
    · rw [← h3 j hj]
      unfold ext
      rw [if_neg (by omega), if_neg (by omega), if_neg (by omega)]
    · rw [HW_app, List.length_append, List.length_append, show (bytST 5).length = 5 from rfl]
      simp only [List.length_cons, List.length_append, List.length_nil]
      rw [g2']
      omega) (fun s g1 hP => by
    obtain ⟨rfl, h⟩ := hP
    refine ⟨(), g1, ?_, h⟩
    unfold l_loads_l252
    rw [if_pos (show I (M - M) ≤ 0 by rw [Nat.sub_self]; exact Int32.le_refl _)]) (by omega) (s := I M) (g := g) ⟨by rw [Nat.sub_zero], K, A, b, [], val, N, rfl, fun t ht => absurd ht (by simp), fun _ _ => rfl, H, by rw [show l ++ HW [] = l from List.append_nil l]; exact B, rfl, Nat.zero_le _, fun h => by omega⟩
  obtain ⟨K1, A1, b1, hs, val1, N1, r⟩ := h
  exact ⟨g1, K1, A1, b1, hs, val1, N1, e1, r⟩
end Hks
