/-! the reference's parser: tokens -/
def trT (k : Nat) : Nat := if k < 4 then k else 4
def Tx (r : RS) (T : Nat → Int32) (L : Nat) : Prop := ∀ i, i < L → r.2 7 i &&& 255 = T i
/-- looking at the token that begins at s -/
def RxT (r : RS) (T : Nat → Int32) (L s : Nat) : Prop := r.1 9 = I L ∧ r.1 10 = I (trT (tk T L s)) ∧ r.1 11 = I s ∧ r.1 12 = I (te T L s) ∧ (tk T L s = 2 → r.1 13 = I (nv T L s))
def Pf (r r1 : RS) : Prop := (∀ k, k < 10 ∨ 13 < k → r1.1 k = r.1 k) ∧ r1.2 = r.2
theorem Pf.refl {r : RS} : Pf r r := ⟨fun _ _ => rfl, rfl⟩
theorem Pf.trans {r r1 r2 : RS} (h : Pf r r1) (h1 : Pf r1 r2) : Pf r r2 := ⟨fun k hk0 => (h1.1 k hk0).trans (h.1 k hk0), h1.2.trans h.2⟩
theorem Pf.f {r : RS} {k : Nat} {v : Int32} (h1 : 10 ≤ k) (h2 : k ≤ 13) : Pf r (RS_setF r k v) := ⟨fun j hj => upd_ne (by omega), rfl⟩
theorem RSF_ne {r : RS} {k j : Nat} {v : Int32} (h : j ≠ k) : (RS_setF r k v).1 j = r.1 j := upd_ne h
theorem Tx.pf {r r1 : RS} {T : Nat → Int32} {L : Nat} (h : Tx r T L) (p : Pf r r1) : Tx r1 T L := fun i hi => by rw [p.2]; exact h i hi
theorem bt_and (c a b : Int32) : bt c a b = decide (a ≤ c ∧ c ≤ b) := by
  unfold bt
  by_cases h1 : c < a
  · have h2 : ¬ (a ≤ c ∧ c ≤ b) := fun h => absurd h.1 (Int32.not_le.mpr h1)
    simp [h1, h2]
  · by_cases h3 : b < c
    · have h2 : ¬ (a ≤ c ∧ c ≤ b) := fun h => absurd h.2 (Int32.not_le.mpr h3)
      simp [h3, h2]
    · have h2 : a ≤ c ∧ c ≤ b := ⟨Int32.not_lt.mp h1, Int32.not_lt.mp h3⟩
      simp [h1, h3, h2]
section SPar
variable {g : AH} {m L s e : Nat} {T : Nat → Int32} {r : RS}
theorem s_isLetter (c : Int32) (g : AH) : x9_isLetter c g = some (bI (decide (kd c = 1)), g) := by
  unfold x9_isLetter
  rw [s_isBetween, cb_s, if_pos (bz_bI _), bt_and]
  simp only [kd1]
theorem s_isDigit (c : Int32) (g : AH) : x9_isDigit c g = some (bI (decide (kd c = 2)), g) := by
  unfold x9_isDigit
  rw [s_isBetween, cb_s, if_pos (bz_bI _), bt_and]
  simp only [kd2]
def chr (T : Nat → Int32) (L i : Nat) : Int32 := if i < L then T i else -1
theorem s_byteAt (h9 : r.1 9 = I L) (hT : Tx r T L) (hL : L ≤ 500) {i : Nat} (hi : i ≤ 1000) : x9_byteAt m (I i) (putR g m r) = some (chr T L i, putR g m r) := by
  unfold x9_byteAt chr
  rw [R_getI rfl, gb_s, h9]
  by_cases h : i < L
  · rw [if_neg (by rw [I_le (by omega) (by omega)]; omega), if_pos h, R_getR (d := 7) rfl, gb_s, R_aldN (d := 7) (t := 1) (by decide) (by decide) rfl (by show _ < 500; omega), gb_s, hT i h]
  · rw [if_pos (by rw [I_le (by omega) (by omega)]; omega), if_neg h]
theorem chr_kd {k : Nat} (hk0 : 1 ≤ k) (hk5 : k ≤ 4) (i : Nat) : kd (chr T L i) = k ↔ i < L ∧ kd (T i) = k := by
  unfold chr
  by_cases h : i < L
  · rw [if_pos h]; exact ⟨fun h1 => ⟨h, h1⟩, fun h1 => h1.2⟩
  · rw [if_neg h]
    have : kd (-1) = 5 := by decide
    rw [this]
    exact ⟨fun h1 => by omega, fun h1 => absurd h1.1 h⟩
theorem s_isFine : x9_isFine m (putR g m r) = some (bI (decide (r.1 14 = 0)), putR g m r) := by
  unfold x9_isFine
  rw [R_getI rfl, gb_s]
  by_cases h : r.1 14 = 0
  · rw [if_pos h]; simp [h, bI]
  · rw [if_neg h]; simp [h, bI]
theorem s_fine1 (h : r.1 14 = 0) : x9_isFine m (putR g m r) = some (1, putR g m r) := by
  unfold x9_isFine
  rw [R_getI rfl, gb_s, if_pos h]
theorem s_fine0 (h : ¬ r.1 14 = 0) : x9_isFine m (putR g m r) = some (0, putR g m r) := by
  unfold x9_isFine
  rw [R_getI rfl, gb_s, if_neg h]
theorem s_skip (h9 : r.1 9 = I L) (h12 : r.1 12 = I e) (hT : Tx r T L) (hL : L ≤ 500) (he : e ≤ L) : loopX (x9_proceed_l8 m) 1000 () (putR g m r) = some ((), putR g m (RS_setF r 12 (I (rn T L 4 e)))) := by
  obtain ⟨s1, s2, s3⟩ := rn_spec T L 4 e
  have s4 := rn_le (T := T) (k := 4) he
  have e0 : RS_setF r 12 (I e) = r := RS_eq (fun k => by
    show upd r.1 12 (I e) k = r.1 k
    by_cases h : k = 12
    · rw [h, upd_at, h12]
    · rw [upd_ne h]) (fun _ _ => rfl)
  obtain ⟨t, g1, e1, rfl⟩ := loop_inv (body := x9_proceed_l8 m) (n := rn T L 4 e - e) (fuel := 1000) (s := ()) (g := putR g m (RS_setF r 12 (I e))) (fun i _ g1 => g1 = putR g m (RS_setF r 12 (I (e + i)))) (fun _ g1 => g1 = putR g m (RS_setF r 12 (I (rn T L 4 e)))) (fun i _ g1 hi h0 => by
    subst h0
    obtain ⟨q1, q2⟩ := s2 (e + i) (by omega) (by omega)
    have hb := s_byteAt (g := g) (m := m) (r := RS_setF r 12 (I (e + i))) (T := T) (L := L) (i := e + i) ((RSF_ne (by decide)).trans h9) hT hL (by omega)
    have hc : chr T L (e + i) = T (e + i) := if_pos q1
    have e34 : x9_proceed_j34_8 m (putR g m (RS_setF r 12 (I (e + i)))) = some (.inl (), putR g m (RS_setF r 12 (I (e + (i + 1))))) := by
      unfold x9_proceed_j34_8
      rw [R_getI rfl, gb_s, RSF_at, R_putI rfl, gb_s, RSF_two, I_succ]
      rfl
    unfold x9_proceed_l8
    rw [R_getI rfl, gb_s, RSF_at, R_isO, gb_s, hb, cb_s, e34, hc]
    rcases (kd4 _).mp q2 with h32 | h10
    · rw [if_pos h32]
      exact ⟨(), _, rfl, rfl⟩
    · rw [if_neg (by rw [h10]; decide), R_getI rfl, gb_s, RSF_at, R_isO, gb_s, hb, cb_s, e34, hc, if_pos h10]
      exact ⟨(), _, rfl, rfl⟩) (fun _ g1 h0 => by
    subst h0
    rw [show e + (rn T L 4 e - e) = rn T L 4 e by omega]
    have hb := s_byteAt (g := g) (m := m) (r := RS_setF r 12 (I (rn T L 4 e))) (T := T) (L := L) (i := rn T L 4 e) ((RSF_ne (by decide)).trans h9) hT hL (by omega)
    have hn : ¬ (chr T L (rn T L 4 e) = 32 ∨ chr T L (rn T L 4 e) = 10) := fun hc => s3 ((chr_kd (by decide) (by decide) _).mp ((kd4 _).mpr hc))
    unfold x9_proceed_l8
    rw [R_getI rfl, gb_s, RSF_at, R_isO, gb_s, hb, cb_s, if_neg (fun hc => hn (Or.inl hc)), R_getI rfl, gb_s, RSF_at, R_isO, gb_s, hb, cb_s, if_neg (fun hc => hn (Or.inr hc))]
    exact ⟨(), _, rfl, rfl⟩) (by omega) (by rw [Nat.add_zero])
  rw [e0] at e1
  exact e1
theorem s_letters (h9 : r.1 9 = I L) (h12 : r.1 12 = I e) (hT : Tx r T L) (hL : L ≤ 500) (he : e ≤ L) : loopX (x9_proceed_l97 m) 1000 () (putR g m r) = some ((), putR g m (RS_setF r 12 (I (rn T L 1 e)))) := by
  obtain ⟨s1, s2, s3⟩ := rn_spec T L 1 e
  have s4 := rn_le (T := T) (k := 1) he
  have e0 : RS_setF r 12 (I e) = r := RS_eq (fun k => by
    show upd r.1 12 (I e) k = r.1 k
    by_cases h : k = 12
    · rw [h, upd_at, h12]
    · rw [upd_ne h]) (fun _ _ => rfl)
  obtain ⟨t, g1, e1, rfl⟩ := loop_inv (body := x9_proceed_l97 m) (n := rn T L 1 e - e) (fuel := 1000) (s := ()) (g := putR g m (RS_setF r 12 (I e))) (fun i _ g1 => g1 = putR g m (RS_setF r 12 (I (e + i)))) (fun _ g1 => g1 = putR g m (RS_setF r 12 (I (rn T L 1 e)))) (fun i _ g1 hi h0 => by
    subst h0
    obtain ⟨q1, q2⟩ := s2 (e + i) (by omega) (by omega)
    have hb := s_byteAt (g := g) (m := m) (r := RS_setF r 12 (I (e + i))) (T := T) (L := L) (i := e + i) ((RSF_ne (by decide)).trans h9) hT hL (by omega)
    have hc : decide (kd (chr T L (e + i)) = 1) = true := by simpa using (chr_kd (T := T) (L := L) (k := 1) (by decide) (by decide) _).mpr ⟨q1, q2⟩
    unfold x9_proceed_l97
    rw [R_getI rfl, gb_s, RSF_at, R_isO, gb_s, hb, cb_s, s_isLetter, cb_s, hc, if_neg (by decide), R_getI rfl, gb_s, RSF_at, R_putI rfl, gb_s, RSF_two, I_succ]
    exact ⟨(), _, rfl, rfl⟩) (fun _ g1 h0 => by
    subst h0
    rw [show e + (rn T L 1 e - e) = rn T L 1 e by omega]
    have hb := s_byteAt (g := g) (m := m) (r := RS_setF r 12 (I (rn T L 1 e))) (T := T) (L := L) (i := rn T L 1 e) ((RSF_ne (by decide)).trans h9) hT hL (by omega)
    have hn : decide (kd (chr T L (rn T L 1 e)) = 1) = false := by simpa using fun hc => s3 ((chr_kd (T := T) (L := L) (k := 1) (by decide) (by decide) _).mp hc)
    unfold x9_proceed_l97
    rw [R_getI rfl, gb_s, RSF_at, R_isO, gb_s, hb, cb_s, s_isLetter, cb_s, hn, if_pos (by rfl)]
    exact ⟨(), _, rfl, rfl⟩) (by omega) (by rw [Nat.add_zero])
  rw [e0] at e1
  exact e1
theorem s_digits (h9 : r.1 9 = I L) (hT : Tx r T L) (hL : L ≤ 500) (hs : s < L) (hd : kd (T s) = 2) (h12 : r.1 12 = I (s + 1)) (h13 : r.1 13 = I (nvR T s 0)) : ∃ v, loopX (x9_proceed_l144 m) 1000 () (putR g m r) = some ((), putR g m (RS_setF (RS_setF r 13 v) 12 (I (te T L s)))) ∧ v = I (nv T L s) := by
  obtain ⟨r0, r1, r2, r3⟩ := num_run hs hd
  obtain ⟨s1, s2, s3⟩ := rn_spec T L 2 (s + 1)
  rw [← r0] at s1 s2 s3
  have e0 : RS_setF (RS_setF r 13 (I (nvR T s 0))) 12 (I (s + 1 + 0)) = r := RS_eq (fun k => by
    show upd (upd r.1 13 (I (nvR T s 0))) 12 (I (s + 1)) k = r.1 k
    by_cases h : k = 12
    · rw [h, upd_at, h12]
    · rw [upd_ne h]
      by_cases h3 : k = 13
      · rw [h3, upd_at, h13]
      · rw [upd_ne h3]) (fun _ _ => rfl)
  refine ⟨I (nv T L s), ?_, rfl⟩
  have hd0 : dg (T s) ≤ 9 := by obtain ⟨d, d1, d2, -⟩ := dg_ok hd; omega
  obtain ⟨t, g1, e1, rfl⟩ := loop_inv (body := x9_proceed_l144 m) (n := te T L s - (s + 1)) (fuel := 1000) (s := ()) (g := putR g m (RS_setF (RS_setF r 13 (I (nvR T s 0))) 12 (I (s + 1 + 0)))) (fun i _ g1 => g1 = putR g m (RS_setF (RS_setF r 13 (I (nvR T s i))) 12 (I (s + 1 + i)))) (fun _ g1 => g1 = putR g m (RS_setF (RS_setF r 13 (I (nv T L s))) 12 (I (te T L s)))) (fun i _ g1 hi h0 => by
    subst h0
    obtain ⟨q1, q2⟩ := s2 (s + 1 + i) (by omega) (by omega)
    obtain ⟨d, d1, d2, d3⟩ := dg_ok q2
    have hb := s_byteAt (g := g) (m := m) (r := RS_setF (RS_setF r 13 (I (nvR T s i))) 12 (I (s + 1 + i))) (T := T) (L := L) (i := s + 1 + i) ((RSF_ne (by decide)).trans ((RSF_ne (by decide)).trans h9)) hT hL (by omega)
    have hc : decide (kd (chr T L (s + 1 + i)) = 2) = true := by simpa using (chr_kd (T := T) (L := L) (k := 2) (by decide) (by decide) _).mpr ⟨q1, q2⟩
    have hch : chr T L (s + 1 + i) = T (s + 1 + i) := if_pos q1
    have h13' : (RS_setF (RS_setF r 13 (I (nvR T s i))) 12 (I (s + 1 + i))).1 13 = I (nvR T s i) := (RSF_ne (by decide)).trans (RSF_at _ _ _)
    have hv := nvR_le T s hd0 i
    have ev : ((10 * I (nvR T s i)) + T (s + 1 + i)) - 48 = I (10 * nvR T s i + dg (T (s + 1 + i))) := by
      rw [d3, show (10 : Int32) = I 10 from rfl, I_mul, I_add, show (48 : Int32) = I 48 from rfl, I_sub (by omega), ← d3, d2]
      congr 1
      omega
    have ew : (if ((10 * I (nvR T s i)) + T (s + 1 + i)) - 48 < 100000 then ((10 * I (nvR T s i)) + T (s + 1 + i)) - 48 else (100000 : Int32)) = I (nvR T s (i + 1)) := by
      rw [ev, nvR]
      by_cases hlt : 10 * nvR T s i + dg (T (s + 1 + i)) < 100000
      · rw [if_pos (by rw [show (100000 : Int32) = I 100000 from rfl, I_lt (by omega) (by decide)]; exact hlt), Nat.min_eq_left (by omega)]
      · rw [if_neg (by rw [show (100000 : Int32) = I 100000 from rfl, I_lt (by omega) (by decide)]; exact hlt), Nat.min_eq_right (by omega)]
        rfl
    unfold x9_proceed_l144
    rw [R_getI rfl, gb_s, RSF_at, R_isO, gb_s, hb, cb_s, s_isDigit, cb_s, hc, if_neg (by decide), R_getI rfl, gb_s, h13', R_getI rfl, gb_s, RSF_at, R_isO, gb_s, hb, cb_s, hch, ew, R_putI rfl, gb_s, R_getI rfl, gb_s]
    rw [show (RS_setF (RS_setF (RS_setF r 13 (I (nvR T s i))) 12 (I (s + 1 + i))) 13 (I (nvR T s (i + 1)))).1 12 = I (s + 1 + i) from (RSF_ne (by decide)).trans (RSF_at _ _ _), R_putI rfl, gb_s, I_succ]
    refine ⟨(), _, rfl, ?_⟩
    refine congrArg (putR g m) (RS_eq (fun k => ?_) (fun _ _ => rfl))
    show upd (upd (upd (upd r.1 13 (I (nvR T s i))) 12 (I (s + 1 + i))) 13 (I (nvR T s (i + 1)))) 12 (I (s + 1 + i + 1)) k = upd (upd r.1 13 (I (nvR T s (i + 1)))) 12 (I (s + 1 + (i + 1))) k
    by_cases h : k = 12
    · rw [h, upd_at, upd_at]; rfl
    · rw [upd_ne h, upd_ne h]
      by_cases h3 : k = 13
      · rw [h3, upd_at, upd_at]
      · rw [upd_ne h3, upd_ne h, upd_ne h3, upd_ne h3]) (fun _ g1 h0 => by
    subst h0
    rw [show s + 1 + (te T L s - (s + 1)) = te T L s by omega]
    have hb := s_byteAt (g := g) (m := m) (r := RS_setF (RS_setF r 13 (I (nvR T s (te T L s - (s + 1))))) 12 (I (te T L s))) (T := T) (L := L) (i := te T L s) ((RSF_ne (by decide)).trans ((RSF_ne (by decide)).trans h9)) hT hL (by omega)
    have hn : decide (kd (chr T L (te T L s)) = 2) = false := by simpa using fun hc => s3 ((chr_kd (T := T) (L := L) (k := 2) (by decide) (by decide) _).mp hc)
    unfold x9_proceed_l144
    rw [R_getI rfl, gb_s, RSF_at, R_isO, gb_s, hb, cb_s, s_isDigit, cb_s, hn, if_pos (by rfl)]
    exact ⟨(), _, rfl, rfl⟩) (by omega) rfl
  rw [e0] at e1
  exact e1
theorem s_proceed0 (h14 : ¬ r.1 14 = 0) : x9_proceed m (putR g m r) = some ((), putR g m r) := by
  unfold x9_proceed
  rw [R_isO, gb_s, s_fine0 h14, cb_s, if_pos rfl]
theorem s_proceed (h9 : r.1 9 = I L) (h12 : r.1 12 = I e) (h14 : r.1 14 = 0) (hT : Tx r T L) (hL : L ≤ 500) (he : e ≤ L) : ∃ r1, x9_proceed m (putR g m r) = some ((), putR g m r1) ∧ RxT r1 T L (rn T L 4 e) ∧ Pf r r1 := by
  have s4 := rn_le (T := T) (k := 4) he
  obtain ⟨-, -, s3⟩ := rn_spec T L 4 e
  unfold x9_proceed
  rw [R_isO, gb_s, s_fine1 h14, cb_s, if_neg (by decide), s_skip h9 h12 hT hL he, cb_s, R_getI rfl, gb_s, RSF_at, R_putI rfl, gb_s, R_getI rfl, gb_s, RSF_at, R_isO, gb_s]
  have p1 : Pf r (RS_setF (RS_setF r 12 (I (rn T L 4 e))) 11 (I (rn T L 4 e))) := Pf.trans (Pf.f (by decide) (by decide)) (Pf.f (by decide) (by decide))
  generalize hr1 : RS_setF (RS_setF r 12 (I (rn T L 4 e))) 11 (I (rn T L 4 e)) = r1 at p1 ⊢
  have a9 : r1.1 9 = I L := (p1.1 9 (by decide)).trans h9
  have a11 : r1.1 11 = I (rn T L 4 e) := by rw [← hr1]; exact RSF_at _ _ _
  have a12 : r1.1 12 = I (rn T L 4 e) := by rw [← hr1]; exact (RSF_ne (by decide)).trans (RSF_at _ _ _)
  have aT := hT.pf p1
  generalize rn T L 4 e = s at s3 s4 a11 a12 ⊢
  rw [s_byteAt a9 aT hL (by omega), cb_s]
  by_cases hl : s < L
  · have hch : chr T L s = T s := if_pos hl
    have hne : ¬ T s = -1 := by
      have h0 := aT s hl
      intro hc
      rw [hc] at h0
      have h1 : (r1.2 7 s &&& 255) &&& 256 = 0 := by rw [Int32.and_assoc, show (255 : Int32) &&& 256 = 0 by decide, Int32.and_zero]
      rw [h0] at h1
      exact absurd h1 (by decide)
    have htk : tk T L s = kd (T s) := if_pos hl
    have hk4 : kd (T s) ≠ 4 := fun hc => s3 ⟨hl, hc⟩
    rw [hch, if_neg hne, R_getI rfl, gb_s, a12, R_putI rfl, gb_s, s_isLetter, cb_s, I_succ]
    by_cases h1 : kd (T s) = 1
    · have ht : te T L s = rn T L 1 (s + 1) := by unfold te; rw [if_pos hl, if_pos (Or.inl h1), h1]
      rw [if_neg (show ¬ bI (decide (kd (T s) = 1)) = 0 by simp [h1, bI]), R_putI rfl, gb_s, s_letters (e := s + 1) ((RSF_ne (by decide)).trans ((RSF_ne (by decide)).trans a9)) ((RSF_ne (by decide)).trans (RSF_at _ _ _)) aT hL (by omega), cb_s]
      refine ⟨_, rfl, ⟨(RSF_ne (by decide)).trans ((RSF_ne (by decide)).trans ((RSF_ne (by decide)).trans a9)), ?_, ?_, ?_, fun hc => by rw [htk, h1] at hc; omega⟩, p1.trans (Pf.trans (Pf.f (by decide) (by decide)) (Pf.trans (Pf.f (by decide) (by decide)) (Pf.f (by decide) (by decide))))⟩
      · rw [htk, h1]; exact (RSF_ne (by decide)).trans (RSF_at _ _ _)
      · exact (RSF_ne (by decide)).trans ((RSF_ne (by decide)).trans ((RSF_ne (by decide)).trans a11))
      · rw [ht]; exact RSF_at _ _ _
    · rw [if_pos (show bI (decide (kd (T s) = 1)) = 0 by simp [h1, bI]), s_isDigit, cb_s]
      by_cases h2 : kd (T s) = 2
      · obtain ⟨d, d1, d2, d3⟩ := dg_ok h2
        have h13 : T s - 48 = I (nvR T s 0) := by
          rw [nvR, d2, d3, show (48 : Int32) = I 48 from rfl, I_sub (by omega)]
          congr 1
          omega
        rw [if_neg (show ¬ bI (decide (kd (T s) = 2)) = 0 by simp [h2, bI]), R_putI rfl, gb_s, h13, R_putI rfl, gb_s]
        obtain ⟨v, e1, e2⟩ := s_digits (g := g) (m := m) (r := RS_setF (RS_setF (RS_setF r1 12 (I (s + 1))) 10 2) 13 (I (nvR T s 0))) ((RSF_ne (by decide)).trans ((RSF_ne (by decide)).trans ((RSF_ne (by decide)).trans a9))) aT hL hl h2 ((RSF_ne (by decide)).trans ((RSF_ne (by decide)).trans (RSF_at _ _ _))) (RSF_at _ _ _)
        rw [e1, cb_s]
        refine ⟨_, rfl, ⟨(RSF_ne (by decide)).trans ((RSF_ne (by decide)).trans ((RSF_ne (by decide)).trans ((RSF_ne (by decide)).trans ((RSF_ne (by decide)).trans a9)))), ?_, ?_, RSF_at _ _ _, fun _ => ?_⟩, p1.trans (Pf.trans (Pf.f (by decide) (by decide)) (Pf.trans (Pf.f (by decide) (by decide)) (Pf.trans (Pf.f (by decide) (by decide)) (Pf.trans (Pf.f (by decide) (by decide)) (Pf.f (by decide) (by decide))))))⟩
        · rw [htk, h2]; exact (RSF_ne (by decide)).trans ((RSF_ne (by decide)).trans ((RSF_ne (by decide)).trans (RSF_at _ _ _)))
        · exact (RSF_ne (by decide)).trans ((RSF_ne (by decide)).trans ((RSF_ne (by decide)).trans ((RSF_ne (by decide)).trans ((RSF_ne (by decide)).trans a11))))
        · rw [← e2]; exact (RSF_ne (by decide)).trans (RSF_at _ _ _)
      · have ht : te T L s = s + 1 := by unfold te; rw [if_pos hl, if_neg (fun hc => hc.elim h1 h2)]
        have fin : ∀ x : Nat, trT (kd (T s)) = x → ∃ r2, some ((), putR g m (RS_setF (RS_setF r1 12 (I (s + 1))) 10 (I x))) = some ((), putR g m r2) ∧ RxT r2 T L s ∧ Pf r r2 := by
          intro x hx
          refine ⟨_, rfl, ⟨(RSF_ne (by decide)).trans ((RSF_ne (by decide)).trans a9), ?_, (RSF_ne (by decide)).trans ((RSF_ne (by decide)).trans a11), ?_, fun hc => by rw [htk] at hc; exact absurd hc h2⟩, p1.trans (Pf.trans (Pf.f (by decide) (by decide)) (Pf.f (by decide) (by decide)))⟩
          · rw [htk, hx]; exact RSF_at _ _ _
          · rw [ht]; exact (RSF_ne (by decide)).trans (RSF_at _ _ _)
        rw [if_pos (show bI (decide (kd (T s) = 2)) = 0 by simp [h2, bI])]
        by_cases h3 : T s = 59
        · rw [if_pos h3, R_putI rfl, gb_s]
          exact fin 3 (by rw [(kd3 _ h1 h2).mpr h3]; rfl)
        · rw [if_neg h3, R_putI rfl, gb_s]
          have hk3 : kd (T s) ≠ 3 := fun hc => h3 ((kd3 _ h1 h2).mp hc)
          have := kd_le (T s)
          exact fin 4 (by rw [show kd (T s) = 5 by omega]; rfl)
  · have hch : chr T L s = -1 := if_neg hl
    have htk : tk T L s = 0 := if_neg hl
    have ht : te T L s = s := by unfold te; rw [if_neg hl]
    rw [hch, if_pos rfl, R_putI rfl, gb_s]
    refine ⟨_, rfl, ⟨(RSF_ne (by decide)).trans a9, ?_, (RSF_ne (by decide)).trans a11, ?_, fun hc => by rw [htk] at hc; omega⟩, p1.trans (Pf.f (by decide) (by decide))⟩
    · rw [htk]; exact RSF_at _ _ _
    · rw [ht]; exact (RSF_ne (by decide)).trans a12
end SPar
