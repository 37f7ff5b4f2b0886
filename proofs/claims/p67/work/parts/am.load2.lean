/-! loads(), whole -/
def PL (g : AH) (A : Nat → Nat) (k9 : KK) (n K : Nat) (F : Nat → Int32) (f : Rw3) (len : Nat) (b : Bool) (w : WS) (N : Nat) : Prop :=
  putW g n w = g ∧ (∀ i j, DD 0 b i → DD 0 b j → A i = A j → i = j) ∧ (∀ i, DD 0 b i → (A i < n ∨ n + 312 ≤ A i) ∧ A i < N) ∧ n + 312 ≤ N ∧ (len ≤ 10 ∧ (b = false → len = 0) ∧ (b = true → A 5 ≠ k9.1) ∧ k9.1 < n) ∧ (∀ i, DD 0 b i → i ≠ 1 → ∃ e, g.1 (A i) = some e ∧ okL A k9 n K F f [] b i e) ∧ ∃ V mc, g.1 (A 1) = some (.inl (12, V)) ∧ V 0 = .int mc ∧ V 1 = .ref (if b = true then A 5 else k9.1) ∧ V 2 = .int (I len)
section Ld2
variable {g : AH} {A : Nat → Nat} {k9 : KK} {n K len : Nat} {F : Nat → Int32} {f : Rw3} {b : Bool} {w : WS} {N : Nat}
theorem PL.clear (H : PL g A k9 n K F f len b w N) : ∃ g1, jx4a65c_clear_da8c8 (A 1) g = some ((), g1) ∧ LL g1 A k9 n K F f [] b w N N N ∧ g1.2 = g.2 := by
  obtain ⟨c1, c2, c3, c4, ⟨k1, k2, k3, k4⟩, c6, V, mc, e1, v0, v1, v2⟩ := H
  have d1 := c3 1 (DD0 (by decide))
  generalize hga : hset g (A 1) (.inl (12, updV V 0 (.int (mc + 1)))) = ga
  have ga1 : ga.1 (A 1) = some (.inl (12, updV V 0 (.int (mc + 1)))) := by rw [← hga]; exact hset_at
  generalize hgb : hset ga (A 1) (.inl (12, updV (updV V 0 (.int (mc + 1))) 2 (.int 0))) = gB
  have gb1 : gB.1 (A 1) = some (.inl (12, updV (updV V 0 (.int (mc + 1))) 2 (.int 0))) := by rw [← hgb]; exact hset_at
  have gbE : ∀ a, a ≠ A 1 → gB.1 a = g.1 a := fun a ha => by rw [← hgb, hset_ne ha, ← hga, hset_ne ha]
  have gb2 : gB.2 = g.2 := by rw [← hgb, ← hga]; rfl
  have va1 : updV V 0 (.int (mc + 1)) 1 = .ref (if b = true then A 5 else k9.1) := (if_neg (by decide)).trans v1
  have va2 : updV V 0 (.int (mc + 1)) 2 = .int (I len) := (if_neg (by decide)).trans v2
  have L : ∃ g1, loopX (jx4a65c_clear_da8c8_l27 (if b = true then A 5 else k9.1) (I len)) 1000 0 gB = some ((), g1) ∧ g1.2 = gB.2 ∧ (∀ a, (b = true → a ≠ A 5) → g1.1 a = gB.1 a) ∧ (b = true → ∃ E, g1.1 (A 5) = some (.inr (6, 10, .inr (.inr E)))) := by
    obtain ⟨t, g1, q1, q2⟩ := loop_inv (n := len) (fuel := 1000) (body := jx4a65c_clear_da8c8_l27 (if b = true then A 5 else k9.1) (I len)) (P := fun i s gg => s = I i ∧ gg.2 = gB.2 ∧ (∀ a, (b = true → a ≠ A 5) → gg.1 a = gB.1 a) ∧ (b = true → ∃ E, gg.1 (A 5) = some (.inr (6, 10, .inr (.inr E))))) (Q := fun _ gg => gg.2 = gB.2 ∧ (∀ a, (b = true → a ≠ A 5) → gg.1 a = gB.1 a) ∧ (b = true → ∃ E, gg.1 (A 5) = some (.inr (6, 10, .inr (.inr E))))) (fun i s gg hi hP => by
      obtain ⟨rfl, p1, p2, p3⟩ := hP
      have hb : b = true := by
        cases hb : b with
        | true => rfl
        | false => have := k2 hb; omega
      obtain ⟨E, p4⟩ := p3 hb
      refine ⟨I (i + 1), hset gg (A 5) (.inr (6, 10, .inr (.inr (va_up E i none)))), ?_, rfl, p1, fun a ha => (hset_ne (ha hb)).trans (p2 a ha), fun _ => ⟨_, hset_at⟩⟩
      unfold jx4a65c_clear_da8c8_l27 astN
      rw [if_neg (le_IN hi (by omega)), if_pos hb, p4]
      dsimp only
      rw [if_pos rfl, if_neg (out_I (by omega) (by decide)), I_nat (by omega), gb_s, I_succ]) (fun s gg hP => by
      obtain ⟨rfl, p⟩ := hP
      refine ⟨(), gg, ?_, p⟩
      unfold jx4a65c_clear_da8c8_l27
      rw [if_pos (Int32.le_refl _)]) (by omega) (s := 0) (g := gB) ⟨rfl, rfl, fun a _ => rfl, fun hb => by
      obtain ⟨e, q1, E, q2, -⟩ := c6 5 ⟨by omega, fun _ => hb⟩ (by decide)
      refine ⟨E, ?_⟩
      rw [gbE _ (fun hc => by
        have := c2 5 1 ⟨by omega, fun _ => hb⟩ (DD0 (by decide)) hc
        omega), q1, q2]⟩
    exact ⟨g1, q1, q2⟩
  obtain ⟨g1, l1, l2, l3, l4⟩ := L
  refine ⟨g1, ?_, ⟨putW_iff.mpr (fun d hd => ?_), c2, fun i hi => ?_, ⟨c4, c4, c4⟩, ⟨by decide, fun _ => rfl, k3, k4⟩, fun i hi => ?_⟩, l2.trans gb2⟩
  · unfold jx4a65c_clear_da8c8
    rw [getI_of e1 v0, gb_s, putV_of e1, hga, gb_s, getR_of ga1 va1, gb_s, getI_of ga1 va2, gb_s, putV_of ga1, hgb, gb_s, l1, cb_s]
  · rw [l3 _ (fun hb => by have := (c3 5 ⟨by omega, fun _ => hb⟩).1; omega), gbE _ (by omega)]
    exact putW_iff.mp c1 d hd
  · obtain ⟨x1, x2⟩ := c3 i hi
    exact ⟨x1, x2, by omega, by omega⟩
  · have hlt : i < 6 := hi.1
    have keep : DD 0 b i → i ≠ 1 → i ≠ 5 → ∃ e, g1.1 (A i) = some e ∧ okL A k9 n K F f [] b i e := fun hd h1 h5 => by
      obtain ⟨e, q1, q2⟩ := c6 i hd h1
      refine ⟨e, ?_, q2⟩
      rw [l3 _ (fun hb hc => h5 (c2 _ _ hd ⟨by omega, fun _ => hb⟩ hc)), gbE _ (fun hc => h1 (c2 _ _ hd (DD0 (by decide)) hc))]
      exact q1
    match i, hlt with
    | 0, _ => exact keep (DD0 (by decide)) (by decide) (by decide)
    | 1, _ =>
      refine ⟨_, ?_, updV (updV V 0 (.int (mc + 1))) 2 (.int 0), mc + 1, rfl, (if_neg (by decide)).trans (if_pos rfl), (if_neg (by decide)).trans va1, if_pos rfl⟩
      rw [l3 _ (fun hb hc => by
        have := c2 1 5 (DD0 (by decide)) ⟨by omega, fun _ => hb⟩ hc
        omega)]
      exact gb1
    | 2, _ => exact keep (DD0 (by decide)) (by decide) (by decide)
    | 3, _ => exact keep (DD0 (by decide)) (by decide) (by decide)
    | 4, _ => exact keep (DD0 (by decide)) (by decide) (by decide)
    | 5, _ =>
      obtain ⟨E, q⟩ := l4 (hi.2 rfl)
      exact ⟨_, q, E, rfl, fun k hk0 => absurd hk0 (Nat.not_lt_zero k)⟩
/-- the builder begins -/
theorem LL.begin (H : LL g A k9 n K F f [] b w N N N) (hz : g.2 = some N) : ∃ g1 g2 val1 N1, newO 11 tyJ4 g = some (N, g1) ∧ j4_init_a7421 N 6 g1 = some ((), g2) ∧ LL g2 A k9 n K F f [] b w N1 N val1 ∧ Bu g2 N N val1 N1 (bytST 6) (bytST 6).length := by
  have eO : newO 11 tyJ4 g = some (N, hnew g N (.inl (11, fun k => defaultValue (tyJ4 k)))) := by
    unfold newO
    rw [hz]
  generalize hg1 : hnew g N (.inl (11, fun k => defaultValue (tyJ4 k))) = g1 at eO
  have g1N : g1.1 N = some (.inl (11, fun k => defaultValue (tyJ4 k))) := by rw [← hg1]; exact if_pos rfl
  have p1 : putV 11 g1 N 1 (.int 0) = some (hset g1 N (.inl (11, updV (fun k => defaultValue (tyJ4 k)) 1 (.int 0)))) := putV_of g1N
  generalize hg2 : hset g1 N (.inl (11, updV (fun k => defaultValue (tyJ4 k)) 1 (.int 0))) = g2 at p1
  have g2N : g2.1 N = some (.inl (11, updV (fun k => defaultValue (tyJ4 k)) 1 (.int 0))) := by rw [← hg2]; exact hset_at
  have g2z : g2.2 = some (N + 1) := by rw [← hg2, ← hg1]; rfl
  have e20 : I (wl 6) + 16 = I 20 := by decide
  have p2 : newA 1 (.inl (fun _ => 0)) g2 (I 20) = some (N + 1, hnew g2 (N + 1) (.inr (1, 20, .inl (fun _ => 0)))) := by
    unfold newA
    rw [g2z]
    dsimp only
    rw [if_neg (by decide)]
    rfl
  generalize hg3 : hnew g2 (N + 1) (.inr (1, 20, .inl (fun _ => 0))) = g3 at p2
  have g3N : g3.1 N = some (.inl (11, updV (fun k => defaultValue (tyJ4 k)) 1 (.int 0))) := by rw [← hg3]; exact (if_neg (by omega)).trans g2N
  have g3M : g3.1 (N + 1) = some (.inr (1, 20, .inl (fun _ => 0))) := by rw [← hg3]; exact if_pos rfl
  have g3z : g3.2 = some (N + 2) := by rw [← hg3]; rfl
  have p3 : putV 11 g3 N 0 (.ref (N + 1)) = some (hset g3 N (.inl (11, updV (updV (fun k => defaultValue (tyJ4 k)) 1 (.int 0)) 0 (.ref (N + 1))))) := putV_of g3N
  generalize hg4 : hset g3 N (.inl (11, updV (updV (fun k => defaultValue (tyJ4 k)) 1 (.int 0)) 0 (.ref (N + 1)))) = g4 at p3
  have g4N : g4.1 N = some (.inl (11, updV (updV (fun k => defaultValue (tyJ4 k)) 1 (.int 0)) 0 (.ref (N + 1)))) := by rw [← hg4]; exact hset_at
  have g4E : ∀ a, a < N → g4.1 a = g.1 a := fun a ha => by
    rw [← hg4, ← hg3, ← hg2, ← hg1]
    exact (hset_ne (by omega)).trans ((if_neg (by omega)).trans ((hset_ne (by omega)).trans (if_neg (by omega))))
  have B0 : Bu g4 N N (N + 1) (N + 2) [] 20 := ⟨by rw [← hg4]; exact g3z, ⟨Nat.le_refl _, by omega, by omega, by omega, by omega⟩, _, 20, fun _ => 0, g4N, if_pos rfl, (if_neg (by decide)).trans (if_pos rfl), rfl, by rw [← hg4]; exact (hset_ne (by omega)).trans g3M, ⟨by decide, by decide, by decide⟩, fun j hj => absurd hj (Nat.not_lt_zero j), fun q hq => (show fits .byte (.int 0) = true by decide)⟩
  obtain ⟨g5, val1, N1, q5, B5, A5⟩ := B0.str (k := 6) (by decide) (by decide)
  refine ⟨g1, g5, val1, N1, eO, ?_, ?_, B5⟩
  · unfold j4_init_a7421 j5_init_a7421 j4_append_cf1ce
    rw [str_len (by decide), gb_s, if_neg (by decide), if_pos (show 6 < nST by decide), p1, gb_s, if_pos rfl, e20, if_neg (by decide), p2, cb_s, p3, gb_s, B0.o, gb_s, gb_s, q5, cb_s, cb_s, cb_s]
  · have H4 := H.fr (N1 := N + 2) (sb1 := N) (val1 := N + 1) (fun a a1 a2 a3 => g4E a a1) (by omega) (Or.inl rfl) (Or.inr (by omega))
    exact H4.fr (fun a a1 a2 a3 => A5.2.2 a a1 a2 a3) A5.1 (Or.inl rfl) A5.2.1
/-- what is loaded is the array of u -/
theorem LL.lq {hs : List H3} {sb val : Nat} (H : LL g A k9 n K F f hs true w N sb val) {u : Su} (bu : suB u) (hu : u.2.2.2.2 = hs) (hF : ∀ k, 7 ≤ k → k < 17 → F k = zA u (zi k)) (h1 : ∀ j, j < u.2.1.length → f.1 j = I (u.2.1.getD j 0)) (h2 : ∀ j, j < u.2.2.1.length → f.2.1 j = I (u.2.2.1.getD j 0)) (h3 : ∀ j, j < u.2.2.2.1.length → f.2.2 j = I (u.2.2.2.1.getD j 0)) : LQ g A n k9.2.1 (I K) (fun j => if j < 149 then zA u j else 0) w := by
  obtain ⟨c1, c2, c3, c4, ⟨k1, k2, k3, k4⟩, c6⟩ := H
  obtain ⟨b0, ⟨b1, b2, b2'⟩, ⟨b3, b3'⟩, ⟨b4, b5, b5'⟩, b6, b7, b8⟩ := bu
  generalize hz : (fun j => if j < 149 then zA u j else 0 : St) = z
  have zz : ∀ j, j < 149 → z j = zA u j := fun j hj => by rw [← hz]; exact if_pos hj
  have z12 : z 12 = I hs.length := by rw [zz 12 (by decide), ← hu]; rfl
  have n12 : nH z = hs.length := by unfold nH; rw [z12]; exact I_nat (by omega)
  have n9 : nB z = u.2.1.length := by unfold nB; rw [zz 9 (by decide)]; exact I_nat (by omega)
  have n10 : nL z = u.2.2.1.length := by unfold nL; rw [zz 10 (by decide)]; exact I_nat (by omega)
  have n11 : nF z = u.2.2.2.1.length := by unfold nF; rw [zz 11 (by decide)]; exact I_nat (by omega)
  have dd : ∀ i, i < 2 * nH z + 6 → DD hs.length true i := fun i hi => ⟨by omega, fun _ => rfl⟩
  have hkz : ∀ i f, i < hs.length → f < 10 → hk z i f = hkf (hs.getD i (0, 0, 0)) f 0 := fun i f hi hf => by
    show z (49 + 10 * i + f) = _
    rw [zz _ (by omega), zA_k (by rw [hu]; exact hi) hf, hu]
  refine ⟨⟨g, c1.symm⟩, fun i j hi hj => c2 i j (dd i hi) (dd j hj), fun i hi => (c3 i (dd i hi)).1, ⟨by rw [z12, n12], by omega⟩, fun i hi => ?_⟩
  obtain ⟨e, q1, q2⟩ := c6 i (dd i hi)
  refine ⟨e, q1, ?_⟩
  match i, hi, q2 with
  | 0, _, ⟨V, r1, r2, r3, r4, r5, r6⟩ => exact ⟨V, r1, r2, r3, r4, r5, fun k x1 x2 => by rw [r6 k x1 x2, hF k x1 x2, zz _ (by unfold zi; split <;> omega)]⟩
  | 1, _, ⟨V, mc, r1, r2, r3, r4⟩ => exact ⟨V, mc, r1, r2, by rw [r3, if_pos rfl], by rw [z12]; exact r4⟩
  | 2, _, r => exact ⟨f.1, r, fun j hj => by
      rw [n9] at hj
      rw [h1 j hj, zz _ (by omega)]
      unfold zA
      rw [if_neg (by omega), if_neg (by omega), if_neg (by omega), if_neg (by omega), if_neg (by omega), if_neg (by omega), if_neg (by omega), if_pos (by omega), show 13 + j - 13 = j by omega, if_pos hj]⟩
  | 3, _, r => exact ⟨f.2.1, r, fun j hj => by
      rw [n10] at hj
      rw [h2 j hj, zz _ (by omega)]
      unfold zA
      rw [if_neg (by omega), if_neg (by omega), if_neg (by omega), if_neg (by omega), if_neg (by omega), if_neg (by omega), if_neg (by omega), if_neg (by omega), if_pos (by omega), show 25 + j - 25 = j by omega, if_pos hj]⟩
  | 4, _, r => exact ⟨f.2.2, r, fun j hj => by
      rw [n11] at hj
      rw [h3 j hj, zz _ (by omega)]
      unfold zA
      rw [if_neg (by omega), if_neg (by omega), if_neg (by omega), if_neg (by omega), if_neg (by omega), if_neg (by omega), if_neg (by omega), if_neg (by omega), if_neg (by omega), if_pos (by omega), show 37 + j - 37 = j by omega, if_pos hj]⟩
  | 5, _, ⟨E, r1, r2⟩ => exact ⟨E, r1, fun k hk0 => r2 k (by omega)⟩
  | i + 6, hi, r =>
    have r : (if i % 2 = 0 then ∃ V, e = .inl (9, V) ∧ V 0 = .int (I (i / 2)) ∧ (∀ k, 1 ≤ k → k < 7 → V k = .int (hkI (hs.getD (i / 2) (0, 0, 0)) (k - 1))) ∧ V 7 = .ref (A (i + 7)) else ∃ h, e = .inr (0, 4, .inl h) ∧ ∀ j, j < 4 → h j = (0 : Int32)) := r
    rw [okC_h]
    by_cases hm : i % 2 = 0
    · rw [if_pos hm] at r ⊢
      obtain ⟨V, r1, r2, r3, r4⟩ := r
      refine ⟨V, r1, r2, fun k x1 x2 => ?_, r4⟩
      rw [r3 k x1 x2, hkz _ _ (by omega) (by omega)]
      match k, x1, x2 with
      | 1, _, _ => rfl
      | 2, _, _ => rfl
      | 3, _, _ => rfl
      | 4, _, _ => rfl
      | 5, _, _ => rfl
      | 6, _, _ => rfl
    · rw [if_neg hm] at r ⊢
      obtain ⟨h, r1, r2⟩ := r
      refine ⟨h, r1, fun j hj => ?_⟩
      rw [r2 j hj, hkz _ _ (by omega) (by omega)]
      match j, hj with
      | 0, _ => rfl
      | 1, _ => rfl
      | 2, _ => rfl
      | 3, _ => rfl
theorem LQ.wld {s9 : Nat} {nx : Int32} {z : St} (H : LQ g A n s9 nx z w) (w1 : WS) : LQ (putW g n w1) A n s9 nx z w1 := by
  obtain ⟨g0, rfl, hw⟩ := H.world
  have := hw w1
  rw [show putW (putW g0 n w) n w1 = putW g0 n w1 from put_put]
  exact this
theorem Cb_RW : ∀ (vs : List Nat), (∀ v, v ∈ vs → v < 100) → ∀ x, x ∈ RW vs → Cb x := by
  intro vs
  induction vs with
  | nil => intro _ x hx; exact absurd hx (by simp [RW])
  | cons v vs ih =>
    intro h x hx
    rcases List.mem_cons.mp hx with e | hx
    · rw [e]; exact Cb_sp.1
    · rcases List.mem_append.mp hx with hx | hx
      · exact Cb_DG (h v (List.mem_cons_self ..)) x hx
      · exact ih (fun y hy => h y (List.mem_cons_of_mem _ hy)) x hx
theorem Cb_HW : ∀ (hs : List H3), (∀ t, t ∈ hs → t.1 < 100 ∧ t.2.1 < 100 ∧ t.2.2 < 100) → ∀ x, x ∈ HW hs → Cb x := by
  intro hs
  induction hs with
  | nil => intro _ x hx; exact absurd hx (by simp [HW])
  | cons t hs ih =>
    intro h x hx
    obtain ⟨t1, t2, t3⟩ := h t (List.mem_cons_self ..)
    have hx : x ∈ bytST 5 ++ (32 :: (DG t.1 ++ (32 :: (DG t.2.1 ++ (32 :: (DG t.2.2 ++ (59 :: HW hs))))))) := hx
    rcases List.mem_append.mp hx with hx | hx
    · exact Cb_st (by decide) x hx
    rcases List.mem_cons.mp hx with e | hx
    · rw [e]; exact Cb_sp.1
    rcases List.mem_append.mp hx with hx | hx
    · exact Cb_DG t1 x hx
    rcases List.mem_cons.mp hx with e | hx
    · rw [e]; exact Cb_sp.1
    rcases List.mem_append.mp hx with hx | hx
    · exact Cb_DG t2 x hx
    rcases List.mem_cons.mp hx with e | hx
    · rw [e]; exact Cb_sp.1
    rcases List.mem_append.mp hx with hx | hx
    · exact Cb_DG t3 x hx
    rcases List.mem_cons.mp hx with e | hx
    · rw [e]; exact Cb_sp.2
    exact ih (fun y hy => h y (List.mem_cons_of_mem _ hy)) x hx
theorem b67 : bytST 6 = bytST 1 ++ [32] ∧ bytST 7 = 59 :: bytST 2 ∧ bytST 8 = 59 :: bytST 3 ∧ bytST 9 = 59 :: bytST 4 := by decide
end Ld2
