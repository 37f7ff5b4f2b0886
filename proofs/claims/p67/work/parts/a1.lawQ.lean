/-! the law's queries say what the array says -/
theorem ff_no {n : Nat} : ff (fun _ => false) n = none := by
  cases h : ff (fun _ => false) n with
  | none => rfl
  | some k => exact absurd (ff_some h).2.1 (by decide)
theorem I_nm {k : Nat} (hk0 : k < 2 ^ 31) : ¬ I k = -1 := fun hc => by
  have h1 : ¬ I k < 0 := nI_pos hk0
  rw [hc] at h1
  exact h1 (by decide)
theorem le_I0 {k : Nat} (hk0 : k < 2 ^ 31) : (0 : Int32) ≤ I k := Int32.not_lt.mp (nI_pos hk0)
def inO (z : St) (b : Int32) : Option Nat := if b < 0 then none else ff (hwp z 4 b) (nH z)
def unO (z : St) (b : Int32) : Option Nat := ff (hwp z 5 b) (nH z)
section LawQ
variable {g : AH} {A : Nat → Nat} {n s9 : Nat} {nx : Int32} {z : St} {w : WS}
theorem LQ.head (H : LQ g A n s9 nx z w) {α : Type} {i : Nat} (hi : i < nH z) (X Y : Option (α × AH)) : (if I (nH z) ≤ I i then X else Y) = Y := by
  have := H.2.2.2.1.2
  rw [if_neg]
  rw [I_le (by omega) (by omega)]
  omega
theorem LQ.tail {α : Type} (X Y : Option (α × AH)) : (if I (nH z) ≤ I (nH z) then X else Y) = X := if_pos (Int32.le_refl _)
theorem s_in (H : LQ g A n s9 nx z w) (b : Int32) : l_in (A 0) b g = some ((inO z b).map (fun i => A (2 * i + 6)), g) := by
  have hN := H.2.2.2.1.2
  unfold l_in inO
  have he : l_in_l2 (A 0) b (I (nH z)) g = some (.inr (.inl ()), g) := by
    unfold l_in_l2
    rw [H.gl, gb_s, H.isL, gb_s, H.size, cb_s, LQ.tail]
  by_cases hb : b < 0
  · have hs : ∀ i, i < nH z → (fun _ : Nat => false) i = false → l_in_l2 (A 0) b (I i) g = some (.inl (I (i + 1)), g) := by
      intro i hi _
      unfold l_in_l2 l_in_j47_2
      rw [H.gl, gb_s, H.isL, gb_s, H.size, cb_s, H.head hi, if_pos hb, I_succ]
    rw [loop_find (fun _ => false) (fun i => .inr (some (A (2 * i + 6)))) hs (fun i hi hc => absurd hc (by decide)) he (by omega), ff_no, cb_s, if_pos hb]
    rfl
  · have hs : ∀ i, i < nH z → hwp z 4 b i = false → l_in_l2 (A 0) b (I i) g = some (.inl (I (i + 1)), g) := by
      intro i hi hc
      unfold l_in_l2 l_in_j47_2
      rw [H.gl, gb_s, H.isL, gb_s, H.size, cb_s, H.head hi, if_neg hb, H.gl, gb_s, H.isL, gb_s, H.get hi, cb_s, H.isK hi, gb_s, H.k hi (by decide) (by decide), gb_s, if_neg (show ¬ hk z i 4 = b from of_decide_eq_false hc), I_succ]
    have hy : ∀ i, i < nH z → hwp z 4 b i = true → l_in_l2 (A 0) b (I i) g = some (.inr (.inr (some (A (2 * i + 6)))), g) := by
      intro i hi hc
      unfold l_in_l2
      rw [H.gl, gb_s, H.isL, gb_s, H.size, cb_s, H.head hi, if_neg hb, H.gl, gb_s, H.isL, gb_s, H.get hi, cb_s, H.isK hi, gb_s, H.k hi (by decide) (by decide), gb_s, if_pos (show hk z i 4 = b from of_decide_eq_true hc), H.gl, gb_s, H.isL, gb_s, H.get hi, cb_s, H.isK hi, gb_s]
    rw [loop_find (hwp z 4 b) (fun i => .inr (some (A (2 * i + 6)))) hs hy he (by omega), cb_s, if_neg hb]
    cases ff (hwp z 4 b) (nH z) <;> rfl
theorem s_under (H : LQ g A n s9 nx z w) (b : Int32) : l_under (A 0) b g = some ((unO z b).map (fun i => A (2 * i + 6)), g) := by
  have hN := H.2.2.2.1.2
  unfold l_under unO
  have he : l_under_l2 (A 0) b (I (nH z)) g = some (.inr (.inl ()), g) := by
    unfold l_under_l2
    rw [H.gl, gb_s, H.isL, gb_s, H.size, cb_s, LQ.tail]
  have hs : ∀ i, i < nH z → hwp z 5 b i = false → l_under_l2 (A 0) b (I i) g = some (.inl (I (i + 1)), g) := by
    intro i hi hc
    unfold l_under_l2
    rw [H.gl, gb_s, H.isL, gb_s, H.size, cb_s, H.head hi, H.gl, gb_s, H.isL, gb_s, H.get hi, cb_s, H.isK hi, gb_s, H.k hi (by decide) (by decide), gb_s, if_neg (show ¬ hk z i 5 = b from of_decide_eq_false hc), I_succ]
  have hy : ∀ i, i < nH z → hwp z 5 b i = true → l_under_l2 (A 0) b (I i) g = some (.inr (.inr (some (A (2 * i + 6)))), g) := by
    intro i hi hc
    unfold l_under_l2
    rw [H.gl, gb_s, H.isL, gb_s, H.size, cb_s, H.head hi, H.gl, gb_s, H.isL, gb_s, H.get hi, cb_s, H.isK hi, gb_s, H.k hi (by decide) (by decide), gb_s, if_pos (show hk z i 5 = b from of_decide_eq_true hc), H.gl, gb_s, H.isL, gb_s, H.get hi, cb_s, H.isK hi, gb_s]
  rw [loop_find (hwp z 5 b) (fun i => .inr (some (A (2 * i + 6)))) hs hy he (by omega), cb_s]
  cases ff (hwp z 5 b) (nH z) <;> rfl
theorem isB_lt (W : Ws z) {b : Nat} (hb : b < nB z) : isB z (I b) = true := by
  have h9 := W.b
  unfold isB bt
  rw [h9.1, show (1 : Int32) = I 1 from rfl, I_sub (by omega), show (0 : Int32) = I 0 from rfl]
  have e1 : ¬ I b < I 0 := by rw [I_lt (by omega) (by omega)]; omega
  have e2 : ¬ I (nB z - 1) < I b := by rw [I_lt (by omega) (by omega)]; omega
  simp [e1, e2]
theorem inO_inB (W : Ws z) (b : Int32) : (inO z b = none ∧ inB z b = -1) ∨ ∃ i, i < nH z ∧ inO z b = some i ∧ inB z b = I i := by
  unfold inO inB
  by_cases hb : b < 0
  · rw [if_pos hb]
    refine Or.inl ⟨rfl, if_neg ?_⟩
    unfold isB bt
    simp [hb]
  · rw [if_neg hb]
    cases h : ff (hwp z 4 b) (nH z) with
    | none =>
      refine Or.inl ⟨rfl, ?_⟩
      unfold hw
      rw [h]
      split <;> rfl
    | some i =>
      obtain ⟨h1, h2, h3⟩ := ff_some h
      have h2 : z (49 + 10 * i + 4) = b := by simpa [hwp] using h2
      have hh := W.h.2
      refine Or.inr ⟨i, h1, rfl, ?_⟩
      rcases W.2.2.2.2.2.1 i (by omega) with q | ⟨b', q1, q2⟩
      · rw [q] at h2
        exact absurd (show b < 0 by rw [← h2]; decide) hb
      · have e : isB z b = true := by rw [← h2, q2]; exact isB_lt W q1
        rw [if_pos e]
        unfold hw
        rw [h]
theorem inO_lt {b : Int32} {i : Nat} (h : inO z b = some i) : i < nH z ∧ hk z i 4 = b := by
  unfold inO at h
  by_cases hb : b < 0
  · rw [if_pos hb] at h
    cases h
  · rw [if_neg hb] at h
    obtain ⟨h1, h2, h3⟩ := ff_some h
    exact ⟨h1, of_decide_eq_true h2⟩
theorem near_O (W : Ws z) (b : Int32) : near z b = (match inO z b with | none => 0 | some _ => 1) := by
  have hh := W.h.2
  unfold near
  rcases inO_inB W b with ⟨h1, h2⟩ | ⟨i, hi, h1, h2⟩
  · rw [h1, h2, if_pos rfl]
  · rw [h1, h2, if_neg (I_nm (by omega))]
theorem wN_ac (a b c d e : Int32) : ((a + b) + (c + d)) + e = (((a + e) + b) + c) + d := by
  ac_rfl
theorem s_warm (H : LQ g A n s9 nx z w) (W : Ws z) {i : Nat} (hi : i < nH z) : l_warm (A 0) (A (2 * i + 6)) g = some (wN z i, g) := by
  have hh := W.h.2
  have hT := W.t
  have hF := W.f
  -- the second half
  have J : ∀ t : Int32, l_warm_j39 (A 0) (A (2 * i + 6)) t (ins z) g = some (wB z i + t, g) := by
    intro t
    unfold l_warm_j39
    rw [H.k hi (by decide) (by decide), gb_s]
    by_cases hm : hk z i 4 = -1
    · rw [show hk z i (5 - 1) = -1 from hm, if_neg (by decide)]
      unfold wB
      rw [if_pos hm]
    · obtain ⟨b, b12, bB, b1, b2⟩ := W.bunk (by omega) hm
      rw [show hk z i (5 - 1) = I b from b1, if_pos (le_I0 (by omega)), H.g4, gb_s, gb_s, H.a2 bB W.b.2, gb_s, gb_s, H.iO, gb_s, s_in H, cb_s]
      have K : ∀ s : Int32, ∀ u : Int32, l_warm_j79 (A 0) (A (2 * i + 6)) s u g = some ((u + s) + near z (I b + 1), g) := by
        intro s u
        unfold l_warm_j79
        rw [H.k hi (by decide) (by decide), gb_s, show hk z i (5 - 1) = I b from b1, H.iO, gb_s, s_in H, cb_s, near_O W]
        cases inO z (I b + 1) <;> rfl
      have e : wB z i = (ins z + z (13 + b)) + (near z (I b - 1) + near z (I b + 1)) := by
        unfold wB
        rw [if_neg hm, show kN (hk z i 4) = b from b2, b1]
      rw [e, wN_ac, near_O W (I b - 1)]
      cases inO z (I b - 1) with
      | none =>
        rw [Option.map_none, nb_none, K]
      | some j =>
        rw [Option.map_some, nb_some, K]
  unfold l_warm
  rw [H.g6, gb_s, H.gI (by decide) (by decide), gb_s, H.gI (by decide) (by decide), gb_s, show zi 13 = 3 from rfl, show zi 9 = 11 from rfl, hF.1, if_neg (fun hc => by
    have := (I_eq (by omega) (by decide)).mp (show I (nF z) = I 0 from hc)
    omega), hT.1, mod_I (by omega) (by omega) (by omega), H.a4 (Nat.mod_lt _ (by omega)) hF.2.2, gb_s, H.gI (by decide) (by decide), gb_s, show zi 12 = 2 from rfl, H.k hi (by decide) (by decide), gb_s]
  show (if 0 ≤ hk z i (6 - 1) then _ else l_warm_j39 (A 0) (A (2 * i + 6)) 0 (ins z) g) = _
  unfold wN thk
  by_cases hm : hk z i 5 = -1
  · rw [if_pos hm, show hk z i (6 - 1) = -1 from hm, if_neg (by decide), J]
  · rcases W.bl hi with q | ⟨b, q1, q2⟩
    · exact absurd q hm
    · have hl := W.l.2
      rw [if_neg hm, show kN (hk z i 5) = b by rw [q2]; exact I_nat (by omega), show hk z i (6 - 1) = I b from q2, if_pos (le_I0 (by omega)), H.g5, gb_s, gb_s, H.a3 q1 hl, gb_s]
      exact J _
theorem s_isCold (H : LQ g A n s9 nx z w) (W : Ws z) {i : Nat} (hi : i < nH z) : l_isCold (A 0) (A (2 * i + 6)) g = some (bI (cold z i), g) := by
  unfold l_isCold cold
  rw [H.iO, gb_s, s_warm H W hi, cb_s, H.k hi (by decide) (by decide), gb_s]
  by_cases h : hk z i 0 ≤ wN z i
  · rw [if_pos (show hk z i (1 - 1) ≤ wN z i from h)]
    simp [h, bI]
  · rw [if_neg (show ¬ hk z i (1 - 1) ≤ wN z i from h)]
    simp [h, bI]
theorem s_loud (H : LQ g A n s9 nx z w) (W : Ws z) (b : Int32) : l_loud (A 0) b g = some (sn z b, g) := by
  have hh := W.h.2
  unfold l_loud l_loud_j18 sn
  rw [H.iO, gb_s, s_in H, cb_s]
  rcases inO_inB W b with ⟨h1, h2⟩ | ⟨i, hi, h1, h2⟩
  · rw [h1, h2, Option.map_none, nb_none, if_pos rfl]
  · rw [h1, h2, Option.map_some, nb_some, if_neg (I_nm (by omega)), H.iO, gb_s, s_isCold H W hi, cb_s, show kN (I i) = i from I_nat (by omega)]
    by_cases hc : cold z i = true
    · rw [hc, if_neg (by decide), if_pos rfl]
    · have hc : cold z i = false := by simpa using hc
      rw [hc, if_pos (by decide), if_neg (by decide), H.k hi (by decide) (by decide), gb_s]
theorem s_noise (H : LQ g A n s9 nx z w) (W : Ws z) (b : Int32) : l_noise (A 0) b g = some (noi z b, g) := by
  unfold l_noise noi
  rw [H.iO, gb_s, s_loud H W, cb_s, H.iO, gb_s, s_loud H W, cb_s, H.iO, gb_s, s_loud H W, cb_s, H.iO, gb_s, s_loud H W, cb_s]
theorem s_does (H : LQ g A n s9 nx z w) (W : Ws z) {i : Nat} (hi : i < nH z) : l_does (A 0) (A (2 * i + 6)) g = some (deed z i, g) := by
  have hh := W.h.2
  unfold l_does deed
  rw [H.iO, gb_s, s_isCold H W hi, cb_s]
  by_cases hc : cold z i = true
  · rw [hc, if_neg (by decide), if_pos rfl]
  · have hc : cold z i = false := by simpa using hc
    rw [hc, if_pos (by decide), if_neg (by decide), H.k hi (by decide) (by decide), gb_s]
    by_cases hm : hk z i 4 = -1
    · rw [if_pos hm, show hk z i (5 - 1) = -1 from hm, if_neg (by decide)]
    · obtain ⟨b, b12, bB, b1, b2⟩ := W.bunk (by omega) hm
      rw [if_neg hm, if_pos (by rw [show hk z i (5 - 1) = I b from b1]; exact le_I0 (by omega)), gb_s, H.iO, gb_s, s_noise H W, cb_s]
      by_cases h6 : noi z (hk z i 4) ≤ 6
      · rw [if_pos (show noi z (hk z i (5 - 1)) ≤ 6 from h6), if_pos h6]
      · rw [if_neg (show ¬ noi z (hk z i (5 - 1)) ≤ 6 from h6), if_neg h6]
end LawQ
