/-! the law's dawn, second half; an hour of the law -/
theorem payS_zero {z : St} {i : Nat} (h : ¬ hk z i 2 < 0) : payS z i 0 = z ∧ payP z i 0 = 0 := by
  have e : payP z i 0 = 0 := if_neg h
  refine ⟨?_, e⟩
  unfold payS
  rw [e, z_neg, Int32.sub_self, Int32.add_zero, show upd z (49 + 10 * i + 2) (hk z i 2) = z from upd_self rfl, show upd z (49 + 10 * i + 3) (hk z i 3) = z from upd_self rfl]
theorem sN_pos {p : Nat → Bool} : ∀ m i, i < m → p i = true → 1 ≤ sN (fun i => b1 (p i)) m := by
  intro m
  induction m with
  | zero => intro i hi; omega
  | succ m ih =>
    intro i hi hp
    show 1 ≤ sN _ m + b1 (p m)
    by_cases h : i = m
    · subst h
      rw [hp]
      exact Nat.le_add_left _ _
    · exact Nat.le_trans (ih i (by omega) hp) (Nat.le_add_right _ _)
def dp4 (s : St × Int32 × Int32) (i : Nat) : St × Int32 × Int32 := if hk s.1 i 5 = -1 then (s.1, s.2.1, s.2.2 + 1) else (payS s.1 i (fee s.1 i), s.2.1 + payP s.1 i (fee s.1 i), s.2.2)
theorem dp4_kp (s : St × Int32 × Int32) (i : Nat) (hi : i < 10) : Kp s.1 (dp4 s i).1 := by
  unfold dp4
  split
  · exact Kp.refl
  · exact pay_kp hi
theorem dp4_lo (s : St × Int32 × Int32) (i : Nat) {k : Nat} (hk0 : k < 49) : (dp4 s i).1 k = s.1 k := by
  unfold dp4
  split
  · rfl
  · exact (upd_ne (by omega)).trans (upd_ne (by omega))
theorem it4_kp : ∀ m, m ≤ 10 → ∀ s : St × Int32 × Int32, Kp s.1 (it dp4 m s).1 := by
  intro m
  induction m with
  | zero => intro _ s; exact Kp.refl
  | succ m ih => intro hm s; exact (ih (by omega) s).trans (dp4_kp _ _ (by omega))
theorem it4_lo : ∀ m (s : St × Int32 × Int32) {k : Nat}, k < 49 → (it dp4 m s).1 k = s.1 k := by
  intro m
  induction m with
  | zero => intro s k _; rfl
  | succ m ih => intro s k hk0; exact (dp4_lo _ _ hk0).trans (ih s hk0)
def E5 (z y : St) : Prop := ∀ k, k ≠ 5 → z k = y k
theorem E5.k {z y : St} (h : E5 z y) {i f : Nat} : hk z i f = hk y i f := h _ (by omega)
theorem E5.up {z y : St} (h : E5 z y) {k : Nat} {v v1 : Int32} (e : v = v1) : E5 (upd z k v) (upd y k v1) := fun j hj => by
  show (if j = k then v else z j) = if j = k then v1 else y j
  rw [e, h j hj]
theorem E5.tk {z y : St} (h : E5 z y) {i : Nat} : thk z i = thk y i := by
  unfold thk
  rw [h.k, h (25 + kN (hk y i 5)) (by omega)]
theorem E5.fe {z y : St} (h : E5 z y) {i : Nat} : fee z i = fee y i := by
  unfold fee
  rw [h.tk]
theorem E5.pp {z y : St} (h : E5 z y) {i : Nat} {a : Int32} : payP z i a = payP y i a := by
  unfold payP
  rw [h.k]
theorem E5.pay {z y : St} (h : E5 z y) {i : Nat} {a : Int32} : E5 (payS z i a) (payS y i a) := by
  unfold payS
  refine (h.up ?_).up ?_
  · rw [h.k, h.pp]
  · rw [h.k, h.pp]
theorem dp4_d3 {z y du : St} {N : Nat} (h : E5 z y) (hc : ∀ m, m ≤ N → ∀ i, i < 10 → ¬ hk (it d3Step m (y, du, 0)).1 i 2 < 0) (hN : N ≤ 10) : ∀ m, m ≤ N → E5 (it dp4 m (z, 0, 0)).1 (it d3Step m (y, du, 0)).1 ∧ (it dp4 m (z, 0, 0)).2.1 = (it d3Step m (y, du, 0)).2.2 ∧ (it dp4 m (z, 0, 0)).2.2 = sm (fun i => if hk y i 5 = -1 then 1 else 0) m := by
  intro m
  induction m with
  | zero => intro _; exact ⟨h, rfl, rfl⟩
  | succ m ih =>
    intro hm
    obtain ⟨e1, e2, e3⟩ := ih (by omega)
    have hK : hk (it d3Step m (y, du, 0)).1 m 5 = hk y m 5 := ((d3_kp m (by omega) (y, du, 0)).2 m (by omega)).2
    show E5 (dp4 (it dp4 m (z, 0, 0)) m).1 (d3Step (it d3Step m (y, du, 0)) m).1 ∧ (dp4 (it dp4 m (z, 0, 0)) m).2.1 = (d3Step (it d3Step m (y, du, 0)) m).2.2 ∧ (dp4 (it dp4 m (z, 0, 0)) m).2.2 = sm _ m + (if hk y m 5 = -1 then 1 else 0)
    have hcm := hc m (by omega) m (by omega)
    generalize it dp4 m (z, 0, 0) = s at e1 e2 e3 ⊢
    generalize it d3Step m (y, du, 0) = t at e1 e2 hK hcm ⊢
    unfold dp4 d3Step
    rw [e1.k, hK, e3]
    by_cases hb : hk y m 5 = -1
    · rw [if_pos hb, if_pos hb]
      have hf : fee t.1 m = 0 := by
        unfold fee thk
        rw [if_pos (by rw [hK]; exact hb)]
        decide
      obtain ⟨p1, p2⟩ := payS_zero hcm
      refine ⟨?_, ?_, rfl⟩
      · dsimp only
        rw [hf, p1]
        exact e1
      · dsimp only
        rw [hf, p2, Int32.add_zero]
        exact e2
    · rw [if_neg hb, if_neg hb]
      refine ⟨?_, ?_, by rw [Int32.add_zero]⟩
      · dsimp only
        rw [e1.fe]
        exact e1.pay
      · dsimp only
        rw [e1.fe, e1.pp, e2]
def sh1 (part : Int32) (z : St) (i : Nat) : St := upd z (49 + 10 * i + 2) (hk z i 2 + if hk z i 5 = -1 then part else 0)
theorem sh1_kp (part : Int32) (z : St) (i : Nat) (hi : i < 10) : Kp z (sh1 part z i) := Kp.refl.up (by omega) (fun j hj => by omega)
theorem sh1_E {z y du : St} {part : Int32} (h : E5 z y) : ∀ m, E5 (it (sh1 part) m z) (it (shStep part) m (y, du)).1 := by
  intro m
  induction m with
  | zero => exact h
  | succ m ih =>
    show E5 (sh1 part (it (sh1 part) m z) m) (shStep part (it (shStep part) m (y, du)) m).1
    generalize it (sh1 part) m z = a at ih ⊢
    generalize it (shStep part) m (y, du) = b at ih ⊢
    unfold sh1 shStep
    exact ih.up (by rw [ih.k, ih.k])
theorem fee_eq {t : Int32} (h : B0 t 9) : t / 3 + (if t - t / 3 * 3 ≤ 0 then 0 else 1) = (t + 2) / 3 := by
  obtain ⟨x, hx, rfl⟩ := h
  have : ∀ x, x < 10 → I x / 3 + (if I x - I x / 3 * 3 ≤ 0 then 0 else 1) = (I x + 2) / 3 := by decide
  exact this x (by omega)
section Dawn2
variable {g : AH} {A : Nat → Nat} {n s9 : Nat} {nx : Int32} {z : St} {w : WS} {S C D O : Nat}
theorem le_IN {i m : Nat} (h : i < m) (hm : m < 2 ^ 31) : ¬ I m ≤ I i := by
  rw [I_le hm (by omega)]
  omega
theorem s_d1 (H : LQ g A n s9 nx z w) (W : Ws z) (c : Int32) : ∃ g1, loopX (l_dawns_l23 (A 0) (I (nH z)) c 0 0) 1000 0 g = some ((), g1) ∧ LQ g1 A n s9 nx (it (lpF (fun _ => 3)) (nH z) z) w := by
  have hh := W.h.2
  refine s_round (fun _ => 3) (nH z) H W (Nat.le_refl _) (fun i z1 g hi H1 W1 hn1 h12 => ?_) (fun g => ?_)
  · unfold l_dawns_l23
    rw [if_neg (le_IN hi (by omega)), H1.gI (by decide) (by decide), gb_s, gb_s, H1.gl, gb_s, H1.isL, gb_s, H1.get (by omega), cb_s, H1.isK (by omega), gb_s, H1.iO, gb_s]
  · unfold l_dawns_l23
    rw [if_pos (Int32.le_refl _)]
theorem s_d2 (H : LQ g A n s9 nx z w) (W : Ws z) (h1 : 1 ≤ nH z) {c v : Int32} (hv : c / I (nH z) = v) : ∃ g1, loopX (l_dawns_l64 (A 0) (I (nH z)) c 0 0) 1000 0 g = some ((), g1) ∧ LQ g1 A n s9 nx (it (lpF (fun _ => v)) (nH z) z) w := by
  have hh := W.h.2
  refine s_round (fun _ => v) (nH z) H W (Nat.le_refl _) (fun i z1 g hi H1 W1 hn1 h12 => ?_) (fun g => ?_)
  · unfold l_dawns_l64
    rw [if_neg (le_IN hi (by omega)), H1.gI (by decide) (by decide), gb_s, gb_s, H1.gl, gb_s, H1.isL, gb_s, H1.get (by omega), cb_s, H1.isK (by omega), gb_s, if_neg (fun hc => by
      have := (I_eq (by omega) (by decide)).mp (show I (nH z) = I 0 from hc)
      omega), H1.iO, gb_s, hv]
  · unfold l_dawns_l64
    rw [if_pos (Int32.le_refl _)]
theorem s_d3 (H : LQ g A n s9 nx z w) (W : Ws z) (h1 : 1 ≤ nH z) {c : Int32} {r : Nat} (hr : r ≤ nH z) (hv : c - c / I (nH z) * I (nH z) = I r) : ∃ g1, loopX (l_dawns_l107 (A 0) (I (nH z)) c 0 0) 1000 0 g = some ((), g1) ∧ LQ g1 A n s9 nx (it (lpF (fun _ => 1)) r z) w := by
  have hh := W.h.2
  have h0 : ¬ I (nH z) = 0 := fun hc => by
    have := (I_eq (by omega) (by decide)).mp (show I (nH z) = I 0 from hc)
    omega
  refine s_round (fun _ => 1) r H W hr (fun i z1 g hi H1 W1 hn1 h12 => ?_) (fun g => ?_)
  · unfold l_dawns_l107
    rw [if_neg h0, hv, if_neg (le_IN hi (by omega)), H1.gI (by decide) (by decide), gb_s, gb_s, H1.gl, gb_s, H1.isL, gb_s, H1.get (by omega), cb_s, H1.isK (by omega), gb_s, H1.iO, gb_s]
  · unfold l_dawns_l107
    rw [if_neg h0, hv, if_pos (Int32.le_refl _)]
theorem s_d4 (H : LQ g A n s9 nx z w) (W : Ws z) (hT : ∀ b, b < nL z → B0 (z (25 + b)) 9) : ∃ g1, loopX (l_dawns_l154 (A 0) (I (nH z))) 1000 (0, 0, 0) g = some (((it dp4 (nH z) (z, 0, 0)).2.1, (it dp4 (nH z) (z, 0, 0)).2.2), g1) ∧ LQ g1 A n s9 nx (it dp4 (nH z) (z, 0, 0)).1 w := by
  have hh := W.h.2
  obtain ⟨t, g1, e1, e2, e3⟩ := loop_inv (n := nH z) (fuel := 1000) (body := l_dawns_l154 (A 0) (I (nH z))) (P := fun i s g => s = ((it dp4 i (z, 0, 0)).2.1, (it dp4 i (z, 0, 0)).2.2, I i) ∧ LQ g A n s9 nx (it dp4 i (z, 0, 0)).1 w) (Q := fun t g => t = ((it dp4 (nH z) (z, 0, 0)).2.1, (it dp4 (nH z) (z, 0, 0)).2.2) ∧ LQ g A n s9 nx (it dp4 (nH z) (z, 0, 0)).1 w) (fun i s g hi hP => by
    obtain ⟨rfl, H1⟩ := hP
    have K := it4_kp i (by omega) (z, 0, 0)
    have W1 := K.ws W
    have hn1 := Kp_nH K
    have lo : ∀ k, k < 49 → (it dp4 i (z, 0, 0)).1 k = z k := fun k hk0 => it4_lo i (z, 0, 0) hk0
    show ∃ s1 g1, l_dawns_l154 (A 0) (I (nH z)) ((it dp4 i (z, 0, 0)).2.1, (it dp4 i (z, 0, 0)).2.2, I i) g = some (.inl s1, g1) ∧ s1 = ((dp4 (it dp4 i (z, 0, 0)) i).2.1, (dp4 (it dp4 i (z, 0, 0)) i).2.2, I (i + 1)) ∧ LQ g1 A n s9 nx (dp4 (it dp4 i (z, 0, 0)) i).1 w
    generalize it dp4 i (z, 0, 0) = s at H1 K W1 hn1 lo ⊢
    have hi1 : i < nH s.1 := by rw [hn1]; exact hi
    unfold l_dawns_l154
    dsimp only
    rw [if_neg (le_IN hi (by omega)), H1.gl, gb_s, H1.isL, gb_s, H1.get hi1, cb_s, H1.isK hi1, gb_s, H1.k hi1 (by decide) (by decide), gb_s]
    unfold dp4
    by_cases hm : hk s.1 i 5 = -1
    · rw [if_pos hm, show hk s.1 i (6 - 1) = -1 from hm, if_neg (by decide)]
      refine ⟨_, _, rfl, ?_, H1⟩
      rw [I_succ]
    · rcases W1.bl hi1 with q | ⟨b, q1, q2⟩
      · exact absurd q hm
      · have hl := W1.l.2
        have hb : b < nL z := by
          have : nL s.1 = nL z := congrArg Int32.toNatClampNeg (lo 10 (by decide))
          omega
        have ht := hT b hb
        rw [← lo (25 + b) (by omega)] at ht
        have ef := fee_eq ht
        have et : thk s.1 i = s.1 (25 + b) := by
          unfold thk
          rw [if_neg hm, show kN (hk s.1 i 5) = b by rw [q2]; exact I_nat (by omega)]
        obtain ⟨g1, p1, H2⟩ := s_pays H1 W1 hi1 (fee s.1 i)
        rw [if_neg hm, show hk s.1 i (6 - 1) = I b from q2, if_pos (le_I0 (by omega)), H1.g5, gb_s, gb_s, H1.a3 q1 hl, gb_s, gb_s, gb_s, H1.a3 q1 hl, gb_s]
        unfold l_dawns_j224_154 l_dawns_j230_154
        refine ⟨(s.2.1 + payP s.1 i (fee s.1 i), s.2.2, I (i + 1)), g1, ?_, rfl, H2⟩
        · rw [H1.iO, gb_s]
          unfold fee at p1 ⊢
          rw [et, ← ef] at p1 ⊢
          by_cases hq : s.1 (25 + b) - s.1 (25 + b) / 3 * 3 ≤ 0
          · rw [if_pos hq] at p1 ⊢
            rw [if_pos hq, p1, cb_s, I_succ]
          · rw [if_neg hq] at p1 ⊢
            rw [if_neg hq, p1, cb_s, I_succ, gb_s]) (fun s g hP => by
    obtain ⟨rfl, H1⟩ := hP
    refine ⟨_, g, ?_, rfl, H1⟩
    unfold l_dawns_l154
    rw [if_pos (Int32.le_refl _)]) (by omega) (s := (0, 0, 0)) (g := g) ⟨rfl, H⟩
  exact ⟨g1, by rw [e1, e2], e3⟩
theorem s_d5 (H : LQ g A n s9 nx z w) (W : Ws z) (pot bare : Int32) (hb : ∀ i, i < nH z → hk z i 5 = -1 → ¬ bare = 0) {part : Int32} (hp : ¬ bare = 0 → pot / bare = part) : ∃ g1, loopX (l_dawns_l239 (A 0) (I (nH z)) pot bare) 1000 0 g = some ((), g1) ∧ LQ g1 A n s9 nx (it (sh1 part) (nH z) z) w := by
  have hh := W.h.2
  obtain ⟨t, g1, e1, e2⟩ := loop_inv (n := nH z) (fuel := 1000) (body := l_dawns_l239 (A 0) (I (nH z)) pot bare) (P := fun i s g => s = I i ∧ LQ g A n s9 nx (it (sh1 part) i z) w) (Q := fun _ g => LQ g A n s9 nx (it (sh1 part) (nH z) z) w) (fun i s g hi hP => by
    obtain ⟨rfl, H1⟩ := hP
    have K := itK (sh1_kp part) i (by omega) z
    have W1 := K.ws W
    have hn1 := Kp_nH K
    have h5 : hk (it (sh1 part) i z) i 5 = hk z i 5 := (K.2 i (by omega)).2
    show ∃ s1 g1, l_dawns_l239 (A 0) (I (nH z)) pot bare (I i) g = some (.inl s1, g1) ∧ s1 = I (i + 1) ∧ LQ g1 A n s9 nx (sh1 part (it (sh1 part) i z) i) w
    generalize it (sh1 part) i z = y at H1 K W1 hn1 h5 ⊢
    have hi1 : i < nH y := by rw [hn1]; exact hi
    obtain ⟨g1, p1, H2⟩ := H1.putK W1 hi1 (k := 3) (by decide) (by decide) (hk y i 2 + if hk y i 5 = -1 then part else 0)
    refine ⟨_, g1, ?_, rfl, H2⟩
    unfold l_dawns_l239 l_dawns_j287_239
    rw [if_neg (le_IN hi (by omega)), H1.gl, gb_s, H1.isL, gb_s, H1.get hi1, cb_s, H1.isK hi1, gb_s, H1.k hi1 (by decide) (by decide), gb_s, H1.gl, gb_s, H1.isL, gb_s, H1.get hi1, cb_s, H1.isK hi1, gb_s, H1.k hi1 (by decide) (by decide), gb_s]
    by_cases hm : hk y i 5 = -1
    · rw [if_pos hm] at p1
      have hb0 := hb i hi (by rw [← h5]; exact hm)
      rw [show hk y i (6 - 1) = -1 from hm, if_neg (by decide), if_neg hb0, hp hb0, show hk y i (3 - 1) = hk y i 2 from rfl, p1, gb_s, I_succ]
    · rcases W1.bl hi1 with q | ⟨b, q1, q2⟩
      · exact absurd q hm
      · have hl := W1.l.2
        rw [if_neg hm] at p1
        rw [show hk y i (6 - 1) = I b from q2, if_pos (le_I0 (by omega)), show hk y i (3 - 1) = hk y i 2 from rfl, p1, gb_s, I_succ]) (fun s g hP => by
    obtain ⟨rfl, H1⟩ := hP
    refine ⟨(), g, ?_, H1⟩
    unfold l_dawns_l239
    rw [if_pos (Int32.le_refl _)]) (by omega) (s := 0) (g := g) ⟨rfl, H⟩
  exact ⟨g1, e1, e2⟩
end Dawn2
