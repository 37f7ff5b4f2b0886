/-! the law's dawn -/
theorem min_c (a c : Int32) : (if a < c then a else c) = if c < a then c else a := by
  by_cases h1 : a < c
  · rw [if_pos h1, if_neg (Int32.not_lt.mpr (Int32.le_of_lt h1))]
  · by_cases h2 : c < a
    · rw [if_neg h1, if_pos h2]
    · rw [if_neg h1, if_neg h2]
      exact Int32.le_antisymm (Int32.not_lt.mp h1) (Int32.not_lt.mp h2)
/-- the law's payments: as much as there is, to the hut -/
def lpF (am : Nat → Int32) (z : St) (i : Nat) : St := upd (payS z i (am i)) 6 (z 6 + payP z i (am i))
theorem lpF_kp (am : Nat → Int32) (z : St) (i : Nat) (hi : i < 10) : Kp z (lpF am z i) := (pay_kp hi).up (by decide) (fun j hj => by omega)
theorem itK {step : St → Nat → St} (hs : ∀ s i, i < 10 → Kp s (step s i)) : ∀ n, n ≤ 10 → ∀ s, Kp s (it step n s) := by
  intro n
  induction n with
  | zero => intro _ s; exact Kp.refl
  | succ n ih => intro hn s; exact (ih (by omega) s).trans (hs _ _ (by omega))
section Dawn
variable {g : AH} {A : Nat → Nat} {n s9 : Nat} {nx : Int32} {z : St} {w : WS}
theorem s_pays (H : LQ g A n s9 nx z w) (W : Ws z) {i : Nat} (hi : i < nH z) (a : Int32) : ∃ g1, l_pays (A 0) (A (2 * i + 6)) a g = some (payP z i a, g1) ∧ LQ g1 A n s9 nx (payS z i a) w := by
  have hh := W.h.2
  have e1 : (if a < hk z i 2 then a else hk z i 2) = payP z i a := min_c a (hk z i 2)
  obtain ⟨g1, p1, H1⟩ := H.putK W hi (k := 3) (by decide) (by decide) (hk z i 2 + -payP z i a)
  have W1 : Ws (upd z (49 + 10 * i + (3 - 1)) (hk z i 2 + -payP z i a)) := (Kp.refl.up (by omega) (fun j hj => by omega)).ws W
  have hi1 : i < nH (upd z (49 + 10 * i + (3 - 1)) (hk z i 2 + -payP z i a)) := by
    rw [Kp_nH (z := z) (Kp.refl.up (by omega) (fun j hj => by omega))]
    exact hi
  obtain ⟨g2, p2, H2⟩ := H1.putK W1 hi1 (k := 4) (by decide) (by decide) (hk z i 3 + (a - payP z i a))
  refine ⟨g2, ?_, H2⟩
  unfold l_pays
  rw [H.k hi (by decide) (by decide), gb_s, gb_s, show (hk z i (3 - 1) - (if a < hk z i (3 - 1) then a else hk z i (3 - 1)) : Int32) = hk z i 2 + -payP z i a by
    rw [← e1, ← Int32.sub_eq_add_neg], p1, gb_s, H1.k hi1 (by decide) (by decide), gb_s, show (if a < hk z i (3 - 1) then a else hk z i (3 - 1)) = payP z i a from e1, show hk (upd z (49 + 10 * i + (3 - 1)) (hk z i 2 + -payP z i a)) i (4 - 1) = hk z i 3 from upd_ne (by omega), p2, gb_s]
/-- a round of payments to the hut, as far as m -/
theorem s_round (am : Nat → Int32) {body : Int32 → AH → Option ((Int32 ⊕ Unit) × AH)} (m : Nat) (H : LQ g A n s9 nx z w) (W : Ws z) (hm : m ≤ nH z)
    (hs : ∀ i z1 g, i < m → LQ g A n s9 nx z1 w → Ws z1 → nH z1 = nH z → z1 12 = z 12 → body (I i) g = gb (getI 10 g (A 0) 16) fun x2 => cb (l_pays (A 0) (A (2 * i + 6)) (am i) g) fun r13 g14 => gb (putV 10 g14 (A 0) 16 (.int (x2 + r13))) fun g18 => some (.inl (I i + 1), g18))
    (he : ∀ g, body (I m) g = some (.inr (), g)) : ∃ g1, loopX body 1000 0 g = some ((), g1) ∧ LQ g1 A n s9 nx (it (lpF am) m z) w := by
  have hh := W.h.2
  obtain ⟨t, g1, e1, e2⟩ := loop_inv (n := m) (fuel := 1000) (body := body) (P := fun i s g => s = I i ∧ LQ g A n s9 nx (it (lpF am) i z) w) (Q := fun _ g => LQ g A n s9 nx (it (lpF am) m z) w) (fun i s g hi hP => by
    obtain ⟨rfl, H1⟩ := hP
    have K := itK (lpF_kp am) i (by omega) z
    have W1 := K.ws W
    have hn1 := Kp_nH K
    obtain ⟨g1, q1, H2⟩ := s_pays H1 W1 (i := i) (by omega) (am i)
    have W2 : Ws (payS (it (lpF am) i z) i (am i)) := (pay_kp (by omega)).ws W1
    obtain ⟨g2, q2, H3⟩ := H2.putL W2 (k := 16) (by decide) (by decide) (it (lpF am) i z 6 + payP (it (lpF am) i z) i (am i))
    refine ⟨_, g2, ?_, rfl, H3⟩
    rw [hs i _ g hi H1 W1 hn1 (K.1 12 (by omega)), H1.gI (by decide) (by decide), gb_s, q1, cb_s, show zi 16 = 6 from rfl, q2, gb_s, I_succ]) (fun s g hP => by
    obtain ⟨rfl, H1⟩ := hP
    exact ⟨(), g, he g, H1⟩) (by omega) (s := 0) (g := g) ⟨rfl, H⟩
  exact ⟨g1, e1, e2⟩
end Dawn
/-! closed forms -/
theorem lp_c (am : Nat → Int32) (z : St) : ∀ m, m ≤ 10 → (it (lpF am) m z 6 = z 6 + sm (fun i => payP z i (am i)) m) ∧ (∀ i, i < 10 → hk (it (lpF am) m z) i 2 = if i < m then hk z i 2 + -payP z i (am i) else hk z i 2) ∧ (∀ i, i < 10 → hk (it (lpF am) m z) i 3 = if i < m then hk z i 3 + (am i - payP z i (am i)) else hk z i 3) ∧ ∀ k, k ≠ 6 → (∀ i, i < 10 → k ≠ 49 + 10 * i + 2 ∧ k ≠ 49 + 10 * i + 3) → it (lpF am) m z k = z k := by
  intro m
  induction m with
  | zero =>
    intro _
    refine ⟨by show z 6 = z 6 + 0; rw [Int32.add_zero], fun i hi => (if_neg (by omega)).symm, fun i hi => (if_neg (by omega)).symm, fun k _ _ => rfl⟩
  | succ m ih =>
    intro hm
    obtain ⟨h6, h2, h3, h4⟩ := ih (by omega)
    have ep : payP (it (lpF am) m z) m (am m) = payP z m (am m) := by
      unfold payP
      rw [h2 m (by omega), if_neg (Nat.lt_irrefl m)]
    have e2 : hk (it (lpF am) m z) m 2 = hk z m 2 := by rw [h2 m (by omega), if_neg (Nat.lt_irrefl m)]
    have e3 : hk (it (lpF am) m z) m 3 = hk z m 3 := by rw [h3 m (by omega), if_neg (Nat.lt_irrefl m)]
    refine ⟨?_, fun i hi => ?_, fun i hi => ?_, fun k k1 k2 => ?_⟩
    · show upd (payS (it (lpF am) m z) m (am m)) 6 (it (lpF am) m z 6 + payP (it (lpF am) m z) m (am m)) 6 = _
      rw [upd_at, h6, ep, sm, Int32.add_assoc]
    · show upd (upd (upd (it (lpF am) m z) (49 + 10 * m + 2) _) (49 + 10 * m + 3) _) 6 _ (49 + 10 * i + 2) = _
      rw [upd_ne (by omega), upd_ne (by omega)]
      by_cases hi2 : i = m
      · subst hi2
        rw [upd_at, if_pos (by omega), e2, ep]
      · rw [upd_ne (by omega)]
        show hk (it (lpF am) m z) i 2 = _
        rw [h2 i hi]
        by_cases hlt : i < m
        · rw [if_pos hlt, if_pos (by omega)]
        · rw [if_neg hlt, if_neg (by omega)]
    · show upd (upd (upd (it (lpF am) m z) (49 + 10 * m + 2) _) (49 + 10 * m + 3) _) 6 _ (49 + 10 * i + 3) = _
      rw [upd_ne (by omega)]
      by_cases hi2 : i = m
      · subst hi2
        rw [upd_at, if_pos (by omega), e3, ep]
      · rw [upd_ne (by omega), upd_ne (by omega)]
        show hk (it (lpF am) m z) i 3 = _
        rw [h3 i hi]
        by_cases hlt : i < m
        · rw [if_pos hlt, if_pos (by omega)]
        · rw [if_neg hlt, if_neg (by omega)]
    · show upd (upd (upd (it (lpF am) m z) (49 + 10 * m + 2) _) (49 + 10 * m + 3) _) 6 _ k = _
      rw [upd_ne k1, upd_ne (k2 m (by omega)).2, upd_ne (k2 m (by omega)).1]
      exact h4 k k1 k2
/-- the reference's rounds are such rounds, but for what is due -/
theorem d1_lp : ∀ m (s : St × St), (it d1Step m s).1 = it (lpF (fun _ => 3)) m s.1 := by
  intro m
  induction m with
  | zero => intro s; rfl
  | succ m ih =>
    intro s
    show upd (payS (it d1Step m s).1 m 3) 6 ((it d1Step m s).1 6 + payP (it d1Step m s).1 m 3) = _
    rw [ih s]
    rfl
theorem pl_lp (c N : Int32) : ∀ m (s : St × St), (it (plStep c N) m s).1 = it (lpF (plPart c N)) m s.1 := by
  intro m
  induction m with
  | zero => intro s; rfl
  | succ m ih =>
    intro s
    show upd (payS (it (plStep c N) m s).1 m (plPart c N m)) 6 ((it (plStep c N) m s).1 6 + payP (it (plStep c N) m s).1 m (plPart c N m)) = _
    rw [ih s]
    rfl
theorem sm_add {f1 f2 : Nat → Int32} : ∀ m, sm (fun i => f1 i + f2 i) m = sm f1 m + sm f2 m := by
  intro m
  induction m with
  | zero => exact (Int32.add_zero 0).symm
  | succ m ih =>
    rw [sm, sm, sm, ih]
    ac_rfl
theorem sm_upto {f1 : Nat → Int32} {r : Nat} : ∀ m, r ≤ m → sm (fun i => if i < r then f1 i else 0) m = sm f1 r := by
  intro m
  induction m with
  | zero => intro h; rw [show r = 0 by omega]; rfl
  | succ m ih =>
    intro h
    rw [sm]
    by_cases hr : r = m + 1
    · subst hr
      rw [if_pos (by omega), sm]
      congr 1
      exact sm_congr m (fun i hi => if_pos (by omega))
    · rw [ih (by omega), if_neg (by omega), Int32.add_zero]
/-- in two goes -/
theorem pay_two {c a : Nat} (hc : c < 2 ^ 30) (ha : a < 2 ^ 30) : (if I c < I a then I c else I a) + (if I c + -(if I c < I a then I c else I a) < 1 then I c + -(if I c < I a then I c else I a) else 1) = if I c < I a + 1 then I c else I a + 1 := by
  rw [I_succ]
  have e1 : (I c < I a) = (c < a) := propext (I_lt (by omega) (by omega))
  have e2 : (I c < I (a + 1)) = (c < a + 1) := propext (I_lt (by omega) (by omega))
  simp only [e1, e2]
  by_cases h : c < a
  · rw [if_pos h, ← Int32.sub_eq_add_neg, I_sub (Nat.le_refl c), Nat.sub_self, if_pos (show I 0 < 1 by decide), if_pos (show c < a + 1 by omega), I_add]
    rfl
  · rw [if_neg h, ← Int32.sub_eq_add_neg, I_sub (by omega), show (1 : Int32) = I 1 from rfl]
    have e3 : (I (c - a) < I 1) = (c - a < 1) := propext (I_lt (by omega) (by decide))
    simp only [e3]
    by_cases h2 : c < a + 1
    · rw [if_pos (by omega), if_pos h2, I_add]
      congr 1
      omega
    · rw [if_neg (by omega), if_neg h2, I_add]
theorem z_neg (x : Int32) : x + -(0 : Int32) = x := by
  rw [show (-(0 : Int32)) = 0 from by decide, Int32.add_zero]
/-- the logs' rounds: the same part for all, one more for the first; in one go -/
theorem lp_two {z : St} {a : Nat} {am : Nat → Int32} {m r : Nat} (hm : m ≤ 10) (hr : r ≤ m) (ha : a < 2 ^ 30) (hc : ∀ i, i < m → ∃ x, x < 2 ^ 30 ∧ hk z i 2 = I x) (hp : ∀ i, i < m → am i = I a + (if i < r then 1 else 0)) : ∀ k, it (lpF (fun _ => 1)) r (it (lpF (fun _ => I a)) m z) k = it (lpF am) m z k := by
  obtain ⟨b6, b2, b3, b4⟩ := lp_c (fun _ => I a) z m hm
  obtain ⟨c6, c2, c3, c4⟩ := lp_c (fun _ => 1) (it (lpF (fun _ => I a)) m z) r (by omega)
  obtain ⟨d6, d2, d3, d4⟩ := lp_c am z m hm
  have key : ∀ i, i < m → payP z i (I a) + (if i < r then payP (it (lpF (fun _ => I a)) m z) i 1 else 0) = payP z i (am i) := by
    intro i hi
    obtain ⟨x, x1, x2⟩ := hc i hi
    rw [hp i hi]
    by_cases h : i < r
    · rw [if_pos h, if_pos h]
      unfold payP
      rw [b2 i (by omega), if_pos hi]
      unfold payP
      rw [x2]
      exact pay_two x1 ha
    · rw [if_neg h, if_neg h, Int32.add_zero, Int32.add_zero]
  intro k
  by_cases k6 : k = 6
  · subst k6
    rw [c6, b6, d6, Int32.add_assoc]
    congr 1
    rw [← sm_upto (f1 := fun i => payP (it (lpF (fun _ => I a)) m z) i 1) m hr, ← sm_add]
    exact sm_congr m (fun i hi => (key i hi).symm) |>.symm
  · by_cases h2 : ∃ i, i < 10 ∧ k = 49 + 10 * i + 2
    · obtain ⟨i, hi, rfl⟩ := h2
      show hk _ i 2 = hk _ i 2
      rw [c2 i hi, b2 i hi, d2 i hi]
      by_cases him : i < m
      · rw [if_pos him, if_pos him, ← key i him]
        by_cases h : i < r
        · rw [if_pos h, if_pos h, Int32.neg_add, Int32.sub_eq_add_neg, Int32.add_assoc]
        · rw [if_neg h, if_neg h, Int32.add_zero]
      · rw [if_neg him, if_neg him, if_neg (by omega)]
    · by_cases h3 : ∃ i, i < 10 ∧ k = 49 + 10 * i + 3
      · obtain ⟨i, hi, rfl⟩ := h3
        show hk _ i 3 = hk _ i 3
        rw [c3 i hi, b3 i hi, d3 i hi]
        by_cases him : i < m
        · rw [if_pos him, if_pos him, ← key i him, hp i him]
          by_cases h : i < r
          · rw [if_pos h, if_pos h, if_pos h]
            simp only [Int32.sub_eq_add_neg, Int32.neg_add]
            ac_rfl
          · rw [if_neg h, if_neg h, if_neg h, Int32.add_zero, Int32.add_zero]
        · rw [if_neg him, if_neg him, if_neg (by omega)]
      · rw [c4 k k6 (fun i hi => ⟨fun hc => h2 ⟨i, hi, hc⟩, fun hc => h3 ⟨i, hi, hc⟩⟩), b4 k k6 (fun i hi => ⟨fun hc => h2 ⟨i, hi, hc⟩, fun hc => h3 ⟨i, hi, hc⟩⟩), d4 k k6 (fun i hi => ⟨fun hc => h2 ⟨i, hi, hc⟩, fun hc => h3 ⟨i, hi, hc⟩⟩)]
