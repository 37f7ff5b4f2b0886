/-! a hiker is made and added -/
section Hik
variable {g g0 : AH} {A : Nat → Nat} {k9 : KK} {n K : Nat} {F : Nat → Int32} {f : Rw3} {hs : List H3} {b : Bool} {w : WS} {N sb val : Nat} {V : Nat → Value}
/-- while a hiker is made at N -/
def Hm (g0 g : AH) (A : Nat → Nat) (k9 : KK) (n K : Nat) (F : Nat → Int32) (f : Rw3) (hs : List H3) (b : Bool) (w : WS) (N sb val : Nat) (V : Nat → Value) : Prop :=
  LL g A k9 n K F f hs b w N sb val ∧ (g.1 sb = g0.1 sb ∧ g.1 val = g0.1 val ∧ sb < N ∧ val < N) ∧ g.2 = some (N + 2) ∧ g.1 N = some (.inl (9, V)) ∧ g.1 (N + 1) = some (.inr (0, 4, .inl (fun _ => 0)))
theorem Hm.put (H : Hm g0 g A k9 n K F f hs b w N sb val V) (k : Nat) (v : Value) : ∃ g1, putV 9 g N k v = some g1 ∧ Hm g0 g1 A k9 n K F f hs b w N sb val (updV V k v) := by
  obtain ⟨h1, ⟨h2, h3, h4, h5⟩, h6, h7, h8⟩ := H
  refine ⟨_, putV_of h7, h1.fr (fun a a1 a2 a3 => hset_ne (by omega)) (Nat.le_refl _) (Or.inl rfl) (Or.inl rfl), ⟨(hset_ne (by omega)).trans h2, (hset_ne (by omega)).trans h3, h4, h5⟩, h6, hset_at, (hset_ne (by omega)).trans h8⟩
theorem Hm.draw (H : Hm g0 g A k9 n K F f hs b w N sb val V) (hK : K < 2 ^ 30) (hL : k9.2.2.1 < 2 ^ 30) {m : Nat} (m0 : 0 < m) (m2 : m < 2 ^ 31) : ∃ v g1, v < m ∧ l_draw k9 (A 0) (I m) g = some (I v, g1) ∧ Hm g0 g1 A k9 n (K + 1) F f hs b w N sb val V := by
  obtain ⟨h1, ⟨h2, h3, h4, h5⟩, h6, h7, h8⟩ := H
  obtain ⟨v, g1, v1, e1, H1, e2, e3⟩ := h1.draw hK hL m0 m2
  obtain ⟨-, a1, a2, a3⟩ := h1.2.2.1 0 (DD0 (by decide))
  exact ⟨v, g1, v1, e1, H1, ⟨(e3 _ (fun hc => a2 hc.symm)).trans h2, (e3 _ (fun hc => a3 hc.symm)).trans h3, h4, h5⟩, e2.trans h6, (e3 _ (by omega)).trans h7, (e3 _ (by omega)).trans h8⟩
def ext (A : Nat → Nat) (len N : Nat) (b : Bool) : Nat → Nat := fun i => if i = 2 * len + 6 then N else if i = 2 * len + 7 then N + 1 else if i = 5 ∧ b = false then N + 2 else A i
theorem LL.grow (H : LL g A k9 n K F f hs b w N sb val) (hsv : sb < N ∧ val < N) {t : H3} (h6 : hs.length < 7) {g1 : AH} {N1 : Nat} (hN : N + 2 ≤ N1 ∧ (b = false → N + 3 ≤ N1)) (hfr : ∀ a, a < N → a ≠ A 1 → (b = true → a ≠ A 5) → g1.1 a = g.1 a)
    {V1 : Nat → Value} {mc : Int32} (e1 : g1.1 (A 1) = some (.inl (12, V1))) (v0 : V1 0 = .int mc) (v1 : V1 1 = .ref (ext A hs.length N b 5)) (v2 : V1 2 = .int (I (hs.length + 1)))
    {E : Nat → Option Nat} (e5 : g1.1 (ext A hs.length N b 5) = some (.inr (6, 10, .inr (.inr E)))) (hE : ∀ k, k < hs.length + 1 → E k = some (ext A hs.length N b (2 * k + 6)))
    {V : Nat → Value} (eN : g1.1 N = some (.inl (9, V))) (w0 : V 0 = .int (I hs.length)) (wk : ∀ k, 1 ≤ k → k < 7 → V k = .int (hkI t (k - 1))) (w7 : V 7 = .ref (N + 1)) (eM : g1.1 (N + 1) = some (.inr (0, 4, .inl (fun _ => 0)))) : LL g1 (ext A hs.length N b) k9 n K F f (hs ++ [t]) true w N1 sb val := by
  obtain ⟨c1, c2, c3, c4, ⟨c5, c5b, c5c, c5d⟩, c6⟩ := H
  have hlen : (hs ++ [t]).length = hs.length + 1 := by rw [List.length_append, List.length_singleton]
  -- what an index stands for
  have cs : ∀ i, DD (hs ++ [t]).length true i → (i = 2 * hs.length + 6 ∧ ext A hs.length N b i = N) ∨ (i = 2 * hs.length + 7 ∧ ext A hs.length N b i = N + 1) ∨ ((i = 5 ∧ b = false) ∧ ext A hs.length N b i = N + 2) ∨ (DD hs.length b i ∧ ext A hs.length N b i = A i) := by
    intro i hi
    have hi1 := hi.1
    rw [hlen] at hi1
    unfold ext
    by_cases h1 : i = 2 * hs.length + 6
    · exact Or.inl ⟨h1, if_pos h1⟩
    · rw [if_neg h1]
      by_cases h2 : i = 2 * hs.length + 7
      · exact Or.inr (Or.inl ⟨h2, if_pos h2⟩)
      · rw [if_neg h2]
        by_cases h3 : i = 5 ∧ b = false
        · exact Or.inr (Or.inr (Or.inl ⟨h3, if_pos h3⟩))
        · rw [if_neg h3]
          refine Or.inr (Or.inr (Or.inr ⟨⟨by omega, fun h5 => ?_⟩, rfl⟩))
          cases hb : b with
          | true => rfl
          | false => exact absurd ⟨h5, hb⟩ h3
  refine ⟨putW_iff.mpr (fun d hd => ?_), fun i j hi hj hij => ?_, fun i hi => ?_, ⟨by omega, c4.2.1, c4.2.2⟩, ⟨by omega, fun (h : true = false) => (by cases h), fun _ => ?_, c5d⟩, fun i hi => ?_⟩
  · rw [hfr (n + d) (by omega) (by have := (c3 1 (DD0 (by decide))).1; omega) (fun hb => by have := (c3 5 ⟨by omega, fun _ => hb⟩).1; omega)]
    exact putW_iff.mp c1 d hd
  · rcases cs i hi with ⟨i1, i2⟩ | ⟨i1, i2⟩ | ⟨i1, i2⟩ | ⟨i1, i2⟩ <;> rcases cs j hj with ⟨j1, j2⟩ | ⟨j1, j2⟩ | ⟨j1, j2⟩ | ⟨j1, j2⟩ <;> rw [i2, j2] at hij
    all_goals first
      | omega
      | exact c2 i j i1 j1 hij
      | (have := (c3 _ i1).2.1; omega)
      | (have := (c3 _ j1).2.1; omega)
  · rcases cs i hi with ⟨i1, i2⟩ | ⟨i1, i2⟩ | ⟨i1, i2⟩ | ⟨i1, i2⟩
    · rw [i2]; omega
    · rw [i2]; omega
    · rw [i2]; have := hN.2 i1.2; omega
    · rw [i2]
      obtain ⟨d1, d2, d3, d4⟩ := c3 i i1
      exact ⟨d1, by omega, d3, d4⟩
  · rcases cs 5 ⟨by omega, fun _ => rfl⟩ with ⟨i1, i2⟩ | ⟨i1, i2⟩ | ⟨i1, i2⟩ | ⟨i1, i2⟩
    · omega
    · omega
    · rw [i2]; omega
    · rw [i2]
      exact c5c (i1.2 rfl)
  · have keep : DD hs.length b i → i ≠ 1 → i ≠ 5 → ext A hs.length N b i = A i → ∃ e, g1.1 (ext A hs.length N b i) = some e ∧ okL A k9 n K F f hs b i e := fun hd h1 h5 ee => by
      obtain ⟨e, q1, q2⟩ := c6 i hd
      refine ⟨e, ?_, q2⟩
      rw [ee, hfr _ (c3 i hd).2.1 (fun hc => h1 (c2 _ _ hd (DD0 (by decide)) hc)) (fun hb hc => h5 (c2 _ _ hd ⟨by omega, fun _ => hb⟩ hc))]
      exact q1
    have x4 : ∀ i, i < 5 → ext A hs.length N b i = A i := fun i hi4 => by
      unfold ext
      rw [if_neg (by omega), if_neg (by omega), if_neg (by omega)]
    have xo : ∀ i, 6 ≤ i → i < 2 * hs.length + 6 → ext A hs.length N b i = A i := fun i h1 h2 => by
      unfold ext
      rw [if_neg (by omega), if_neg (by omega), if_neg (by omega)]
    match i, hi with
    | 0, hi =>
      obtain ⟨e, q1, V0, r1, r2, r3, r4, r5, r6⟩ := keep (DD0 (by decide)) (by decide) (by decide) (x4 0 (by decide))
      exact ⟨e, q1, V0, r1, r2, r3, r4, by rw [x4 1 (by decide), x4 2 (by decide), x4 3 (by decide), x4 4 (by decide)]; exact r5, r6⟩
    | 1, hi =>
      refine ⟨_, by rw [x4 1 (by decide)]; exact e1, V1, mc, rfl, v0, ?_, by rw [hlen]; exact v2⟩
      rw [if_pos rfl]
      exact v1
    | 2, hi => exact keep (DD0 (by decide)) (by decide) (by decide) (x4 2 (by decide))
    | 3, hi => exact keep (DD0 (by decide)) (by decide) (by decide) (x4 3 (by decide))
    | 4, hi => exact keep (DD0 (by decide)) (by decide) (by decide) (x4 4 (by decide))
    | 5, hi => exact ⟨_, e5, E, rfl, fun k hk0 => hE k (by rw [hlen] at hk0; exact hk0)⟩
    | i + 6, hi =>
      have hi1 := hi.1
      rw [hlen] at hi1
      show ∃ e, g1.1 (ext A hs.length N b (i + 6)) = some e ∧ (if i % 2 = 0 then ∃ V, e = .inl (9, V) ∧ V 0 = .int (I (i / 2)) ∧ (∀ k, 1 ≤ k → k < 7 → V k = .int (hkI ((hs ++ [t]).getD (i / 2) (0, 0, 0)) (k - 1))) ∧ V 7 = .ref (ext A hs.length N b (i + 7)) else ∃ h, e = .inr (0, 4, .inl h) ∧ ∀ j, j < 4 → h j = (0 : Int32))
      by_cases ha : i = 2 * hs.length
      · subst ha
        have hg : (hs ++ [t]).getD (2 * hs.length / 2) (0, 0, 0) = t := by
          rw [show 2 * hs.length / 2 = hs.length by omega]
          simp
        refine ⟨.inl (9, V), by rw [show ext A hs.length N b (2 * hs.length + 6) = N from if_pos rfl]; exact eN, ?_⟩
        rw [if_pos (show 2 * hs.length % 2 = 0 by omega), hg]
        refine ⟨V, rfl, by rw [show 2 * hs.length / 2 = hs.length by omega]; exact w0, wk, ?_⟩
        rw [show ext A hs.length N b (2 * hs.length + 7) = N + 1 by unfold ext; rw [if_neg (by omega), if_pos rfl]]
        exact w7
      · by_cases hb2 : i = 2 * hs.length + 1
        · subst hb2
          refine ⟨.inr (0, 4, .inl (fun _ => 0)), by rw [show ext A hs.length N b (2 * hs.length + 1 + 6) = N + 1 by unfold ext; rw [if_neg (by omega), if_pos (by omega)]]; exact eM, ?_⟩
          rw [if_neg (show ¬ (2 * hs.length + 1) % 2 = 0 by omega)]
          exact ⟨_, rfl, fun j hj => rfl⟩
        · have hlt : i < 2 * hs.length := by omega
          obtain ⟨e, q1, q2⟩ := keep ⟨by omega, fun hc => by omega⟩ (by omega) (by omega) (xo (i + 6) (by omega) (by omega))
          refine ⟨e, q1, ?_⟩
          have hg : (hs ++ [t]).getD (i / 2) (0, 0, 0) = hs.getD (i / 2) (0, 0, 0) := by
            simp [List.getD_eq_getElem?_getD, List.getElem?_append_left (show i / 2 < hs.length by omega)]
          have q2 : (if i % 2 = 0 then ∃ V, e = .inl (9, V) ∧ V 0 = .int (I (i / 2)) ∧ (∀ k, 1 ≤ k → k < 7 → V k = .int (hkI (hs.getD (i / 2) (0, 0, 0)) (k - 1))) ∧ V 7 = .ref (A (i + 7)) else ∃ h, e = .inr (0, 4, .inl h) ∧ ∀ j, j < 4 → h j = (0 : Int32)) := q2
          by_cases hm : i % 2 = 0
          · rw [if_pos hm] at q2 ⊢
            rw [hg, xo (i + 7) (by omega) (by omega)]
            exact q2
          · rw [if_neg hm] at q2 ⊢
            exact q2
/-- the hiker is added to the list -/
theorem Hm.add (H : Hm g0 g A k9 n K F f hs b w N sb val V) {t : H3} (h6 : hs.length < 7) (w0 : V 0 = .int (I hs.length)) (wk : ∀ k, 1 ≤ k → k < 7 → V k = .int (hkI t (k - 1))) (w7 : V 7 = .ref (N + 1)) : ∃ g1 N1, jx4a65c_add_9ea2d k9 (A 1) N g = some (1, g1) ∧ LL g1 (ext A hs.length N b) k9 n K F f (hs ++ [t]) true w N1 sb val ∧ g1.1 sb = g0.1 sb ∧ g1.1 val = g0.1 val ∧ g1.2 = some N1 ∧ N ≤ N1 ∧ g1.1 N = some (.inl (9, V)) ∧ N < N1 := by
  obtain ⟨h1, ⟨h2, h3, h4, h5⟩, hz, h7, h8⟩ := H
  obtain ⟨V1, mc, e1, v0, v1, v2⟩ := h1.l
  obtain ⟨-, a1, a2, a3⟩ := h1.2.2.1 1 (DD0 (by decide))
  obtain ⟨k1, k2, k3, k4⟩ := h1.2.2.2.2.1
  have n312 := h1.2.2.2.1.1
  generalize hga : hset g (A 1) (.inl (12, updV V1 0 (.int (mc + 1)))) = ga
  have ga1 : ga.1 (A 1) = some (.inl (12, updV V1 0 (.int (mc + 1)))) := by rw [← hga]; exact hset_at
  have gaE : ∀ a, a ≠ A 1 → ga.1 a = g.1 a := fun a ha => by rw [← hga]; exact hset_ne ha
  have ga2 : ga.2 = some (N + 2) := by rw [← hga]; exact hz
  have va1 : updV V1 0 (.int (mc + 1)) 1 = .ref (if b = true then A 5 else k9.1) := (if_neg (by decide)).trans v1
  have va2 : updV V1 0 (.int (mc + 1)) 2 = .int (I hs.length) := (if_neg (by decide)).trans v2
  have iN : isO 9 ga N = some () := isO_of ((gaE N (by omega)).trans h7)
  have l1 : I hs.length + 1 = I (hs.length + 1) := I_succ _
  unfold jx4a65c_add_9ea2d jx4a65c_add_72be8
  rw [getI_of e1 v0, gb_s, putV_of e1, hga, gb_s, getR_of ga1 va1, gb_s, getI_of ga1 va2, gb_s, isO_of ga1, gb_s]
  cases hb : b with
  | true =>
    rw [hb] at h1 v1 va1
    obtain ⟨e5, q1, E, q2, q3⟩ := h1.2.2.2.2.2 5 ⟨by omega, fun _ => rfl⟩
    rw [q2] at q1
    obtain ⟨-, b1, b2, b3⟩ := h1.2.2.1 5 ⟨by omega, fun _ => rfl⟩
    have ne15 : A 1 ≠ A 5 := fun hc => by
      have := h1.2.1 1 5 (DD0 (by decide)) ⟨by omega, fun _ => rfl⟩ hc
      omega
    have c5 : ga.1 (A 5) = some (.inr (6, 10, .inr (.inr E))) := (gaE _ (fun hc => ne15 hc.symm)).trans q1
    have eA : astR 6 9 ga (A 5) (I hs.length) N = some (hset ga (A 5) (.inr (6, 10, .inr (.inr (va_up E hs.length (some N)))))) := by
      unfold astR
      rw [c5]
      dsimp only
      rw [if_pos rfl, if_neg (out_I (by omega) (by decide)), I_nat (by omega), iN, gb_s]
    have d1 : (hset ga (A 5) (.inr (6, 10, .inr (.inr (va_up E hs.length (some N)))))).1 (A 1) = some (.inl (12, updV V1 0 (.int (mc + 1)))) := (hset_ne ne15).trans ga1
    rw [if_pos rfl]
    unfold alenQ jx4a65c_add_72be8_j11
    rw [if_neg (k3 hb), alen_of c5, gb_s, if_neg (fun hc => by
      have := (I_eq (by omega) (by decide)).mp (show I hs.length = I 10 from hc)
      omega), eA, gb_s, putV_of d1, gb_s, cb_s]
    have x5 : ext A hs.length N true 5 = A 5 := by
      unfold ext
      rw [if_neg (by omega), if_neg (by omega), if_neg (fun hc => by cases hc.2)]
    refine ⟨_, N + 2, rfl, h1.grow ⟨h4, h5⟩ h6 ⟨Nat.le_refl _, fun hc => by cases hc⟩ (fun a a1 a2 a3 => ?_) (V1 := updV (updV V1 0 (.int (mc + 1))) 2 (.int (I hs.length + 1))) (mc := mc + 1) hset_at ?_ ?_ ?_ (E := va_up E hs.length (some N)) ?_ (fun k hk0 => ?_) (V := V) ?_ w0 wk w7 ?_, ?_, ?_, ga2, by omega, ?_, by omega⟩
    · rw [hset_ne a2, hset_ne (a3 rfl)]
      exact gaE a a2
    · exact (if_neg (by decide)).trans (if_pos rfl)
    · rw [x5]
      exact (if_neg (by decide)).trans (va1.trans (by rw [if_pos rfl]))
    · rw [← l1]
      exact if_pos rfl
    · rw [x5]
      exact (hset_ne (fun hc => ne15 hc.symm)).trans hset_at
    · show (if k = hs.length then some N else E k) = _
      by_cases hk1 : k = hs.length
      · rw [if_pos hk1, hk1]
        exact congrArg some (show ext A hs.length N true (2 * hs.length + 6) = N from if_pos rfl).symm
      · rw [if_neg hk1, q3 k (by omega)]
        unfold ext
        rw [if_neg (by omega), if_neg (by omega), if_neg (by omega)]
    · rw [hset_ne (by omega), hset_ne (by omega)]
      exact (gaE N (by omega)).trans h7
    · rw [hset_ne (by omega), hset_ne (by omega)]
      exact (gaE (N + 1) (by omega)).trans h8
    · rw [hset_ne (fun hc => a2 hc.symm), hset_ne (fun hc => b2 hc.symm)]
      exact (gaE sb (fun hc => a2 hc.symm)).trans h2
    · rw [hset_ne (fun hc => a3 hc.symm), hset_ne (fun hc => b3 hc.symm)]
      exact (gaE val (fun hc => a3 hc.symm)).trans h3
    · rw [hset_ne (by omega), hset_ne (by omega)]
      exact (gaE N (by omega)).trans h7
  | false =>
    rw [hb] at h1 v1 va1
    have hnil : hs = [] := k2 hb
    subst hnil
    have va1' : updV V1 0 (.int (mc + 1)) 1 = .ref k9.1 := va1.trans (by rw [if_neg (by decide)])
    have eA : newA 6 (.inr (.inr (fun _ => none))) ga 10 = some (N + 2, hnew ga (N + 2) (.inr (6, 10, .inr (.inr (fun _ => none))))) := by
      unfold newA
      rw [ga2]
      dsimp only
      rw [if_neg (by decide)]
      rfl
    generalize hgb : hnew ga (N + 2) (.inr (6, 10, .inr (.inr (fun _ => none)))) = gB at eA
    have gbE : ∀ a, a < N + 2 → gB.1 a = ga.1 a := fun a ha => by rw [← hgb]; exact if_neg (by omega)
    have gb5 : gB.1 (N + 2) = some (.inr (6, 10, .inr (.inr (fun _ => none)))) := by rw [← hgb]; exact if_pos rfl
    have gb1 : gB.1 (A 1) = some (.inl (12, updV V1 0 (.int (mc + 1)))) := (gbE _ (by omega)).trans ga1
    have gb2 : gB.2 = some (N + 3) := by rw [← hgb]; rfl
    have eG : jx4a65c_grow_d5877 k9 (A 1) ga = some (N + 2, hset gB (A 1) (.inl (12, updV (updV V1 0 (.int (mc + 1))) 1 (.ref (N + 2))))) := by
      unfold jx4a65c_grow_d5877 jx4a65c_grow_92f84 alenQ
      rw [getI_of ga1 va2, gb_s, isO_of ga1, gb_s, getR_of ga1 va1', gb_s, if_pos rfl, gb_s, if_neg (by decide), gb_s, if_pos rfl, show (I ([] : List H3).length + 1 : Int32) = 1 from by decide, show (if (10 : Int32) < 1 then (1 : Int32) else 10) = 10 from by decide, if_neg (by decide), eA, cb_s, putV_of gb1, gb_s, cb_s]
    have gc5 : (hset gB (A 1) (.inl (12, updV (updV V1 0 (.int (mc + 1))) 1 (.ref (N + 2))))).1 (N + 2) = some (.inr (6, 10, .inr (.inr (fun _ => none)))) := (hset_ne (by omega)).trans gb5
    have iN2 : isO 9 (hset gB (A 1) (.inl (12, updV (updV V1 0 (.int (mc + 1))) 1 (.ref (N + 2))))) N = some () := isO_of ((hset_ne (by omega)).trans ((gbE N (by omega)).trans ((gaE N (by omega)).trans h7)))
    have eS : astR 6 9 (hset gB (A 1) (.inl (12, updV (updV V1 0 (.int (mc + 1))) 1 (.ref (N + 2))))) (N + 2) (I ([] : List H3).length) N = some (hset (hset gB (A 1) (.inl (12, updV (updV V1 0 (.int (mc + 1))) 1 (.ref (N + 2))))) (N + 2) (.inr (6, 10, .inr (.inr (va_up (fun _ => none) 0 (some N)))))) := by
      unfold astR
      rw [gc5]
      dsimp only
      rw [if_pos rfl, if_neg (out_I (by decide) (by decide)), iN2, gb_s]
      rfl
    have d1 : (hset (hset gB (A 1) (.inl (12, updV (updV V1 0 (.int (mc + 1))) 1 (.ref (N + 2))))) (N + 2) (.inr (6, 10, .inr (.inr (va_up (fun _ => none) 0 (some N)))))).1 (A 1) = some (.inl (12, updV (updV V1 0 (.int (mc + 1))) 1 (.ref (N + 2)))) := (hset_ne (by omega)).trans hset_at
    rw [if_neg (by decide)]
    unfold alenQ jx4a65c_add_72be8_j11
    rw [if_pos rfl, gb_s, if_pos (show I ([] : List H3).length = 0 from rfl), eG, cb_s, eS, gb_s, gb_s, putV_of d1, gb_s, cb_s]
    have x5 : ext A ([] : List H3).length N false 5 = N + 2 := rfl
    refine ⟨_, N + 3, rfl, h1.grow ⟨h4, h5⟩ h6 ⟨by omega, fun _ => Nat.le_refl _⟩ (fun a a1 a2 a3 => ?_) (V1 := updV (updV (updV V1 0 (.int (mc + 1))) 1 (.ref (N + 2))) 2 (.int (I ([] : List H3).length + 1))) (mc := mc + 1) hset_at ?_ ?_ ?_ (E := va_up (fun _ => none) 0 (some N)) ?_ (fun k hk0 => ?_) (V := V) ?_ w0 wk w7 ?_, ?_, ?_, gb2, by omega, ?_, by omega⟩
    · rw [hset_ne a2, hset_ne (by omega), hset_ne a2, gbE a (by omega)]
      exact gaE a a2
    · exact (if_neg (by decide)).trans ((if_neg (by decide)).trans (if_pos rfl))
    · rw [x5]
      exact (if_neg (by decide)).trans (if_pos rfl)
    · exact if_pos rfl
    · rw [x5]
      exact (hset_ne (by omega)).trans hset_at
    · have : k = 0 := by
        have : k < 0 + 1 := hk0
        omega
      subst this
      rfl
    · rw [hset_ne (by omega), hset_ne (by omega), hset_ne (by omega), gbE _ (by omega)]
      exact (gaE N (by omega)).trans h7
    · rw [hset_ne (by omega), hset_ne (by omega), hset_ne (by omega), gbE _ (by omega)]
      exact (gaE (N + 1) (by omega)).trans h8
    · rw [hset_ne (fun hc => a2 hc.symm), hset_ne (by omega), hset_ne (fun hc => a2 hc.symm), gbE _ (by omega)]
      exact (gaE sb (fun hc => a2 hc.symm)).trans h2
    · rw [hset_ne (fun hc => a3 hc.symm), hset_ne (by omega), hset_ne (fun hc => a3 hc.symm), gbE _ (by omega)]
      exact (gaE val (fun hc => a3 hc.symm)).trans h3
    · rw [hset_ne (by omega), hset_ne (by omega), hset_ne (by omega), gbE _ (by omega)]
      exact (gaE N (by omega)).trans h7
end Hik
