/-! tokens -/
def kd (c : Int32) : Nat := if 97 ≤ c ∧ c ≤ 122 then 1 else if 48 ≤ c ∧ c ≤ 57 then 2 else if c = 59 then 3 else if c = 32 ∨ c = 10 then 4 else 5
theorem kd_le (c : Int32) : 1 ≤ kd c ∧ kd c ≤ 5 := by
  unfold kd
  repeat' split
  all_goals omega
theorem kd1 (c : Int32) : kd c = 1 ↔ (97 ≤ c ∧ c ≤ 122) := by
  unfold kd
  by_cases h : 97 ≤ c ∧ c ≤ 122
  · rw [if_pos h]; exact ⟨fun _ => h, fun _ => rfl⟩
  · rw [if_neg h]
    refine ⟨fun hc => ?_, fun hc => absurd hc h⟩
    repeat' split at hc
    all_goals omega
theorem d_not {c : Int32} (h2 : 48 ≤ c ∧ c ≤ 57) : ¬ (97 ≤ c ∧ c ≤ 122) := fun h => absurd (Int32.le_trans h.1 h2.2) (by decide)
theorem kd2 (c : Int32) : kd c = 2 ↔ (48 ≤ c ∧ c ≤ 57) := by
  unfold kd
  by_cases h2 : 48 ≤ c ∧ c ≤ 57
  · rw [if_neg (d_not h2), if_pos h2]; exact ⟨fun _ => h2, fun _ => rfl⟩
  · refine ⟨fun hc => ?_, fun hc => absurd hc h2⟩
    rw [if_neg h2] at hc
    repeat' split at hc
    all_goals omega
theorem kd4 (c : Int32) : kd c = 4 ↔ (c = 32 ∨ c = 10) := by
  constructor
  · intro hc
    unfold kd at hc
    split at hc
    · omega
    · split at hc
      · omega
      · split at hc
        · omega
        · split at hc
          · assumption
          · omega
  · rintro (rfl | rfl) <;> decide
theorem kd3 (c : Int32) (h1 : ¬ kd c = 1) (h2 : ¬ kd c = 2) : kd c = 3 ↔ c = 59 := by
  rw [kd1] at h1
  rw [kd2] at h2
  unfold kd
  rw [if_neg h1, if_neg h2]
  by_cases h : c = 59
  · rw [if_pos h]; exact ⟨fun _ => h, fun _ => rfl⟩
  · rw [if_neg h]
    refine ⟨fun hc => ?_, fun hc => absurd hc h⟩
    split at hc <;> omega
def rnF (T : Nat → Int32) (L k : Nat) : Nat → Nat → Nat
  | 0, e => e
  | n + 1, e => if e < L ∧ kd (T e) = k then rnF T L k n (e + 1) else e
def rn (T : Nat → Int32) (L k e : Nat) : Nat := rnF T L k (L - e) e
theorem rnF_spec {T : Nat → Int32} {L k : Nat} : ∀ n e, L - e ≤ n → e ≤ rnF T L k n e ∧ (∀ i, e ≤ i → i < rnF T L k n e → i < L ∧ kd (T i) = k) ∧ ¬ (rnF T L k n e < L ∧ kd (T (rnF T L k n e)) = k) := by
  intro n
  induction n with
  | zero => intro e he; exact ⟨Nat.le_refl _, fun i h1 h2 => by rw [rnF] at h2; omega, fun h => by rw [rnF] at h; omega⟩
  | succ n ih =>
    intro e he
    rw [rnF]
    by_cases h : e < L ∧ kd (T e) = k
    · rw [if_pos h]
      obtain ⟨a, b, c⟩ := ih (e + 1) (by omega)
      refine ⟨by omega, fun i h1 h2 => ?_, c⟩
      by_cases hi : i = e
      · rw [hi]; exact h
      · exact b i (by omega) h2
    · rw [if_neg h]
      exact ⟨Nat.le_refl _, fun i h1 h2 => by omega, h⟩
theorem rn_spec (T : Nat → Int32) (L k e : Nat) : e ≤ rn T L k e ∧ (∀ i, e ≤ i → i < rn T L k e → i < L ∧ kd (T i) = k) ∧ ¬ (rn T L k e < L ∧ kd (T (rn T L k e)) = k) := rnF_spec _ _ (Nat.le_refl _)
theorem rn_le {T : Nat → Int32} {L k e : Nat} (h : e ≤ L) : rn T L k e ≤ L := by
  obtain ⟨a, b, c⟩ := rn_spec T L k e
  by_cases h1 : rn T L k e ≤ L
  · exact h1
  · have := (b (rn T L k e - 1) (by omega) (by omega)).1
    omega
def tk (T : Nat → Int32) (L s : Nat) : Nat := if s < L then kd (T s) else 0
def te (T : Nat → Int32) (L s : Nat) : Nat := if s < L then (if kd (T s) = 1 ∨ kd (T s) = 2 then rn T L (kd (T s)) (s + 1) else s + 1) else s
def nx (T : Nat → Int32) (L s : Nat) : Nat := rn T L 4 (te T L s)
theorem te_le {T : Nat → Int32} {L s : Nat} (h : s ≤ L) : s ≤ te T L s ∧ te T L s ≤ L := by
  unfold te
  split
  · split
    · exact ⟨Nat.le_trans (Nat.le_succ s) (rn_spec T L _ (s + 1)).1, rn_le (by omega)⟩
    · omega
  · omega
theorem nx_le {T : Nat → Int32} {L s : Nat} (h : s ≤ L) : nx T L s ≤ L := rn_le (te_le h).2
/-- the digits' value, kept below a limit -/
def dg (c : Int32) : Nat := kN c - 48
def nvR (T : Nat → Int32) (s : Nat) : Nat → Nat
  | 0 => dg (T s)
  | k + 1 => min (10 * nvR T s k + dg (T (s + 1 + k))) 100000
def cvR (T : Nat → Int32) (s : Nat) : Nat → Nat
  | 0 => 0
  | k + 1 => min (10 * cvR T s k + dg (T (s + k))) 1000
def nv (T : Nat → Int32) (L s : Nat) : Nat := nvR T s (te T L s - (s + 1))
theorem dg_ok {c : Int32} (h : kd c = 2) : ∃ d, d ≤ 9 ∧ dg c = d ∧ c = I (48 + d) := by
  rw [kd2] at h
  have h0 : 0 ≤ c := Int32.le_trans (by decide) h.1
  have hv : c = I (kN c) := (Int32.ofNat_toNatClampNeg _ h0).symm
  have hk0 := Int32.toNatClampNeg_lt c
  have h1 := h.1
  have h2 := h.2
  rw [hv, show (48 : Int32) = I 48 from rfl, I_le (by decide) hk0] at h1
  rw [hv, show (57 : Int32) = I 57 from rfl, I_le hk0 (by decide)] at h2
  have h1' : 48 ≤ kN c := h1
  have h2' : kN c ≤ 57 := h2
  refine ⟨kN c - 48, by omega, rfl, ?_⟩
  rw [show 48 + (kN c - 48) = kN c by omega]
  exact hv
theorem cv_nv (T : Nat → Int32) (s : Nat) : ∀ k, (∀ i, i ≤ k → dg (T (s + i)) ≤ 9) → cvR T s (k + 1) = min (nvR T s k) 1000 := by
  intro k
  induction k with
  | zero =>
    intro h
    have := h 0 (Nat.le_refl _)
    rw [cvR, cvR, nvR, Nat.add_zero]
    omega
  | succ k ih =>
    intro h
    have h1 := ih (fun i hi => h i (by omega))
    have h2 := h (k + 1) (Nat.le_refl _)
    rw [cvR, h1, nvR, show s + 1 + k = s + (k + 1) by omega]
    omega
theorem num_run {T : Nat → Int32} {L s : Nat} (hs : s < L) (h : kd (T s) = 2) : te T L s = rn T L 2 (s + 1) ∧ s + 1 ≤ te T L s ∧ te T L s ≤ L ∧ ∀ i, s ≤ i → i < te T L s → kd (T i) = 2 := by
  have e : te T L s = rn T L 2 (s + 1) := by unfold te; rw [if_pos hs, if_pos (Or.inr h), h]
  obtain ⟨a, b, c⟩ := rn_spec T L 2 (s + 1)
  rw [e]
  refine ⟨rfl, a, rn_le (by omega), fun i h1 h2 => ?_⟩
  by_cases hi : i = s
  · rw [hi]; exact h
  · exact (b i (by omega) h2).2
/-- words -/
def wl (k : Nat) : Nat := (bytST k).length
def wc (k j : Nat) : Int32 := (bytST k).getD j 0
def wdB (T : Nat → Int32) (L k s : Nat) : Bool := decide (tk T L s = 1) && (decide (te T L s - s = wl k) && (ff (fun j => !decide (T (s + j) = wc k j)) (wl k)).isNone)
theorem wl_le {k : Nat} (h : k < 11) : wl k ≤ 300 := by
  have : ∀ k, k < 11 → wl k ≤ 300 := by decide +kernel
  exact this k h
theorem str_len {k : Nat} (h : k < 11) : strLen k = some (I (wl k)) := if_pos h
theorem str_at {k j : Nat} (h : k < 11) (hj : j < wl k) : strAt k (I j) = some (wc k j) := by
  have := wl_le h
  unfold strAt
  rw [if_pos (show k < nST from h)]
  show (if outI (I j) (wl k) then none else some ((bytST k).getD (I j).toNatClampNeg 0)) = _
  rw [if_neg (I_out hj (by omega)), I_nat (by omega)]
  rfl
def tiC (L kd0 st0 en : Int32) : Nat → Int32 := fun k => match k with
  | 1 => L
  | 2 => kd0
  | 3 => st0
  | 4 => en
  | _ => 0
def giC (ec ep cnt : Int32) : Nat → Int32 := fun k => match k with
  | 1 => ec
  | 2 => ep
  | 3 => cnt
  | _ => 0
theorem ti1 {a b c d v : Int32} : upd (tiC a b c d) 1 v = tiC v b c d := by
  funext j
  by_cases h : j = 1
  · rw [h]; rfl
  · rw [upd_ne h]
    unfold tiC
    split <;> first | rfl | exact absurd rfl h
theorem ti2 {a b c d v : Int32} : upd (tiC a b c d) 2 v = tiC a v c d := by
  funext j
  by_cases h : j = 2
  · rw [h]; rfl
  · rw [upd_ne h]
    unfold tiC
    split <;> first | rfl | exact absurd rfl h
theorem ti3 {a b c d v : Int32} : upd (tiC a b c d) 3 v = tiC a b v d := by
  funext j
  by_cases h : j = 3
  · rw [h]; rfl
  · rw [upd_ne h]
    unfold tiC
    split <;> first | rfl | exact absurd rfl h
theorem ti4 {a b c d v : Int32} : upd (tiC a b c d) 4 v = tiC a b c v := by
  funext j
  by_cases h : j = 4
  · rw [h]; rfl
  · rw [upd_ne h]
    unfold tiC
    split <;> first | rfl | exact absurd rfl h
theorem gi1 {a b c v : Int32} : upd (giC a b c) 1 v = giC v b c := by
  funext j
  by_cases h : j = 1
  · rw [h]; rfl
  · rw [upd_ne h]
    unfold giC
    split <;> first | rfl | exact absurd rfl h
theorem gi2 {a b c v : Int32} : upd (giC a b c) 2 v = giC a v c := by
  funext j
  by_cases h : j = 2
  · rw [h]; rfl
  · rw [upd_ne h]
    unfold giC
    split <;> first | rfl | exact absurd rfl h
theorem gi3 {a b c v : Int32} : upd (giC a b c) 3 v = giC a b v := by
  funext j
  by_cases h : j = 3
  · rw [h]; rfl
  · rw [upd_ne h]
    unfold giC
    split <;> first | rfl | exact absurd rfl h
/-- the class's parser, looking at the token that begins at s -/
abbrev pC (gi : Nat → Int32) (T : Nat → Int32) (L s : Nat) : PS := (gi, tiC (I L) (I (tk T L s)) (I s) (I (te T L s)), T)
section TokC
variable {g : AH} {p L s : Nat} {T gi : Nat → Int32}
theorem c_kindOf (c : Int32) (g : AH) : x7_kindOf c g = some (I (kd c), g) := by
  unfold x7_kindOf x7_kindOf_j14 x7_kindOf_j28 x7_kindOf_j48 kd
  by_cases h1 : c < 97
  · have n1 : ¬ (97 ≤ c ∧ c ≤ 122) := fun h => absurd h.1 (Int32.not_le.mpr h1)
    rw [if_pos h1, if_neg n1]
    by_cases h2 : c < 48
    · have n2 : ¬ (48 ≤ c ∧ c ≤ 57) := fun h => absurd h.1 (Int32.not_le.mpr h2)
      rw [if_pos h2, if_neg n2]
      by_cases h3 : c = 59
      · rw [if_pos h3, if_pos h3]; rfl
      · rw [if_neg h3, if_neg h3]
        by_cases h4 : c = 32
        · rw [if_pos h4, if_pos (Or.inl h4)]; rfl
        · rw [if_neg h4]
          by_cases h5 : c = 10
          · rw [if_pos h5, if_pos (Or.inr h5)]; rfl
          · rw [if_neg h5, if_neg (fun h => h.elim h4 h5)]; rfl
    · rw [if_neg h2]
      by_cases h6 : 57 < c
      · have n2 : ¬ (48 ≤ c ∧ c ≤ 57) := fun h => absurd h.2 (Int32.not_le.mpr h6)
        rw [if_pos h6, if_neg n2]
        by_cases h3 : c = 59
        · rw [if_pos h3, if_pos h3]; rfl
        · rw [if_neg h3, if_neg h3]
          by_cases h4 : c = 32
          · rw [if_pos h4, if_pos (Or.inl h4)]; rfl
          · rw [if_neg h4]
            by_cases h5 : c = 10
            · rw [if_pos h5, if_pos (Or.inr h5)]; rfl
            · rw [if_neg h5, if_neg (fun h => h.elim h4 h5)]; rfl
      · rw [if_neg h6, if_pos ⟨Int32.not_lt.mp h2, Int32.not_lt.mp h6⟩]; rfl
  · rw [if_neg h1]
    by_cases h7 : 122 < c
    · have n1 : ¬ (97 ≤ c ∧ c ≤ 122) := fun h => absurd h.2 (Int32.not_le.mpr h7)
      have n2 : ¬ (48 ≤ c ∧ c ≤ 57) := fun h => absurd (Int32.lt_of_lt_of_le h7 h.2) (by decide)
      have c1 : ¬ c < 48 := fun h => h1 (Int32.lt_of_lt_of_le h (by decide))
      have c2 : 57 < c := Int32.lt_of_le_of_lt (by decide) h7
      have h3 : ¬ c = 59 := fun h => by rw [h] at h7; exact absurd h7 (by decide)
      have h4 : ¬ c = 32 := fun h => by rw [h] at h7; exact absurd h7 (by decide)
      have h5 : ¬ c = 10 := fun h => by rw [h] at h7; exact absurd h7 (by decide)
      rw [if_pos h7, if_neg n1, if_neg n2, if_neg c1, if_pos c2, if_neg h3, if_neg h3, if_neg h4, if_neg h5, if_neg (fun h => h.elim h4 h5)]
      rfl
    · rw [if_neg h7, if_pos ⟨Int32.not_lt.mp h1, Int32.not_lt.mp h7⟩]; rfl
theorem c_readNext {a b : Int32} {e : Nat} (hL : L ≤ 500) (he : e ≤ L) : x7_readNext (p + 1) (putP g p (gi, tiC (I L) a b (I e), T)) = some ((), putP g p (pC gi T L (rn T L 4 e))) := by
  obtain ⟨s1, s2, s3⟩ := rn_spec T L 4 e
  have s4 := rn_le (T := T) (k := 4) he
  unfold x7_readNext
  rw [P_tI (by decide), gb_s, P_putT (by decide), gb_s]
  have hp : ∀ a b c d : Int32, ∀ k v, pT (gi, tiC a b c d, T) k v = (gi, upd (tiC a b c d) k v, T) := fun _ _ _ _ _ _ => rfl
  rw [hp, ti3]
  show cb (loopX (x7_readNext_l8 (p + 1)) 1000 () (putP g p (gi, tiC (I L) a (I e) (I e), T))) _ = _
  obtain ⟨t, g1, e1, rfl⟩ := loop_inv (body := x7_readNext_l8 (p + 1)) (n := rn T L 4 e - e) (fuel := 1000) (s := ()) (g := putP g p (gi, tiC (I L) a (I e) (I e), T)) (fun i _ g1 => g1 = putP g p (gi, tiC (I L) a (I (e + i)) (I e), T)) (fun _ g1 => g1 = putP g p (gi, tiC (I L) a (I (rn T L 4 e)) (I e), T)) (fun i _ g1 hi h0 => by
    subst h0
    obtain ⟨q1, q2⟩ := s2 (e + i) (by omega) (by omega)
    unfold x7_readNext_l8
    rw [P_tI (by decide), gb_s, P_tI (by decide), gb_s]
    show ∃ s1 g1, (if I L ≤ I (e + i) then _ else gb _ fun x6 => gb (some (I (e + i))) _) = _ ∧ _
    rw [if_neg (by rw [I_le (by omega) (by omega)]; omega), P_getR7, gb_s, gb_s, P_ald rfl (by omega), gb_s, c_kindOf, cb_s, q2, if_pos (by decide), P_tI (by decide), gb_s, P_putT (by decide), gb_s, hp, ti3]
    show ∃ s1 g1, some (Sum.inl (), putP g p (gi, tiC (I L) a (I (e + i) + 1) (I e), T)) = some (Sum.inl s1, g1) ∧ _
    rw [I_succ]
    exact ⟨(), _, rfl, rfl⟩) (fun _ g1 h0 => by
    subst h0
    rw [show e + (rn T L 4 e - e) = rn T L 4 e by omega]
    unfold x7_readNext_l8
    rw [P_tI (by decide), gb_s, P_tI (by decide), gb_s]
    show ∃ s1 g1, (if I L ≤ I (rn T L 4 e) then _ else gb _ fun x6 => gb (some (I (rn T L 4 e))) _) = _ ∧ _
    by_cases hl : rn T L 4 e < L
    · rw [if_neg (by rw [I_le (by omega) (by omega)]; omega), P_getR7, gb_s, gb_s, P_ald rfl (by omega), gb_s, c_kindOf, cb_s]
      have hk4 : ¬ I (kd (T (rn T L 4 e))) = 4 := fun hc => s3 ⟨hl, (I_eq (by have := kd_le (T (rn T L 4 e)); omega) (by decide)).mp hc⟩
      rw [if_neg hk4]
      exact ⟨(), _, rfl, rfl⟩
    · rw [if_pos (by rw [I_le (by omega) (by omega)]; omega)]
      exact ⟨(), _, rfl, rfl⟩) (by omega) (by rw [Nat.add_zero])
  rw [e1, cb_s]
  generalize rn T L 4 e = s at s1 s4 ⊢
  have e104 : ∀ n, ((s < L ∧ n = s + 1) ∨ (¬ s < L ∧ n = s)) → x7_readNext_j104 (p + 1) (I n) (p + 1) (putP g p (gi, tiC (I L) (I (tk T L s)) (I s) (I e), T)) = some ((), putP g p (pC gi T L s)) := by
    intro n hn
    have hnL : n ≤ L := by omega
    unfold x7_readNext_j104
    rw [P_putT (by decide), gb_s, hp, ti4, P_tI (by decide), gb_s]
    show (if I (tk T L s) = 1 then _ else gb (some (I (tk T L s))) _) = _
    have hrun : (tk T L s = 1 ∨ tk T L s = 2) → loopX (x7_readNext_l123 (p + 1)) 1000 () (putP g p (gi, tiC (I L) (I (tk T L s)) (I s) (I n), T)) = some ((), putP g p (pC gi T L s)) := by
      intro hk12
      have hl : s < L := by
        unfold tk at hk12
        by_cases hl : s < L
        · exact hl
        · rw [if_neg hl] at hk12; omega
      have hn1 : n = s + 1 := by omega
      have htk : tk T L s = kd (T s) := if_pos hl
      have hte : te T L s = rn T L (tk T L s) n := by
        unfold te
        rw [if_pos hl, ← htk, if_pos hk12, hn1]
      obtain ⟨r1, r2, r3⟩ := rn_spec T L (tk T L s) n
      have r4 := rn_le (T := T) (k := tk T L s) hnL
      obtain ⟨t, g1, e1, rfl⟩ := loop_inv (body := x7_readNext_l123 (p + 1)) (n := rn T L (tk T L s) n - n) (fuel := 1000) (s := ()) (g := putP g p (gi, tiC (I L) (I (tk T L s)) (I s) (I n), T)) (fun i _ g1 => g1 = putP g p (gi, tiC (I L) (I (tk T L s)) (I s) (I (n + i)), T)) (fun _ g1 => g1 = putP g p (gi, tiC (I L) (I (tk T L s)) (I s) (I (rn T L (tk T L s) n)), T)) (fun i _ g1 hi h0 => by
        subst h0
        obtain ⟨q1, q2⟩ := r2 (n + i) (by omega) (by omega)
        unfold x7_readNext_l123
        rw [P_tI (by decide), gb_s, P_tI (by decide), gb_s]
        show ∃ s1 g1, (if I L ≤ I (n + i) then _ else gb _ fun x6 => gb (some (I (n + i))) _) = _ ∧ _
        rw [if_neg (by rw [I_le (by omega) (by omega)]; omega), P_getR7, gb_s, gb_s, P_ald rfl (by omega), gb_s, c_kindOf, cb_s, P_tI (by decide), gb_s, q2]
        show ∃ s1 g1, (if I (tk T L s) = I (tk T L s) then _ else _) = _ ∧ _
        rw [if_pos rfl, P_tI (by decide), gb_s, P_putT (by decide), gb_s, hp, ti4]
        show ∃ s1 g1, some (Sum.inl (), putP g p (gi, tiC (I L) (I (tk T L s)) (I s) (I (n + i) + 1), T)) = some (Sum.inl s1, g1) ∧ _
        rw [I_succ]
        exact ⟨(), _, rfl, rfl⟩) (fun _ g1 h0 => by
        subst h0
        rw [show n + (rn T L (tk T L s) n - n) = rn T L (tk T L s) n by omega]
        unfold x7_readNext_l123
        rw [P_tI (by decide), gb_s, P_tI (by decide), gb_s]
        show ∃ s1 g1, (if I L ≤ I (rn T L (tk T L s) n) then _ else gb _ fun x6 => gb (some (I (rn T L (tk T L s) n))) _) = _ ∧ _
        by_cases hl2 : rn T L (tk T L s) n < L
        · rw [if_neg (by rw [I_le (by omega) (by omega)]; omega), P_getR7, gb_s, gb_s, P_ald rfl (by omega), gb_s, c_kindOf, cb_s, P_tI (by decide), gb_s]
          show ∃ s1 g1, (if I (kd (T (rn T L (tk T L s) n))) = I (tk T L s) then _ else _) = _ ∧ _
          have hkk : ¬ I (kd (T (rn T L (tk T L s) n))) = I (tk T L s) := fun hc => r3 ⟨hl2, (I_eq (by have := kd_le (T (rn T L (tk T L s) n)); omega) (by omega)).mp hc⟩
          rw [if_neg hkk]
          exact ⟨(), _, rfl, rfl⟩
        · rw [if_pos (by rw [I_le (by omega) (by omega)]; omega)]
          exact ⟨(), _, rfl, rfl⟩) (by omega) (by rw [Nat.add_zero])
      rw [e1, ← hte]
    by_cases h1 : tk T L s = 1
    · rw [if_pos (by rw [h1]; rfl), hrun (Or.inl h1), cb_s]
    · have hk5 : tk T L s ≤ 5 := by
        unfold tk
        split
        · exact (kd_le _).2
        · omega
      rw [if_neg (show ¬ I (tk T L s) = 1 from fun hc => h1 ((I_eq (b := 1) (by omega) (by decide)).mp hc)), gb_s]
      by_cases h2 : tk T L s = 2
      · rw [if_pos (by rw [h2]; rfl), hrun (Or.inr h2), cb_s]
      · rw [if_neg (show ¬ I (tk T L s) = 2 from fun hc => h2 ((I_eq (b := 2) (by omega) (by decide)).mp hc))]
        have : te T L s = n := by
          unfold te
          rcases hn with ⟨hl, hn⟩ | ⟨hl, hn⟩
          · have htk : tk T L s = kd (T s) := if_pos hl
            rw [if_pos hl, ← htk, if_neg (by omega), hn]
          · rw [if_neg hl, hn]
        rw [← this]
  have e76 : x7_readNext_j76 (p + 1) (I (tk T L s)) (p + 1) (putP g p (gi, tiC (I L) a (I s) (I e), T)) = some ((), putP g p (pC gi T L s)) := by
    unfold x7_readNext_j76
    rw [P_putT (by decide), gb_s, hp, ti2, P_tI (by decide), gb_s, P_tI (by decide), gb_s]
    show (if I L ≤ I s then gb (some (I s)) _ else gb (some (I s)) _) = _
    by_cases hl : s < L
    · rw [if_neg (by rw [I_le (by omega) (by omega)]; omega), gb_s, I_succ]
      exact e104 (s + 1) (Or.inl ⟨hl, rfl⟩)
    · rw [if_pos (by rw [I_le (by omega) (by omega)]; omega), gb_s]
      exact e104 s (Or.inr ⟨hl, rfl⟩)
  unfold x7_readNext_j48
  rw [P_tI (by decide), gb_s, P_tI (by decide), gb_s]
  show (if I L ≤ I s then _ else gb _ fun x6 => gb (some (I s)) _) = _
  by_cases hl : s < L
  · have htk : tk T L s = kd (T s) := if_pos hl
    rw [if_neg (by rw [I_le (by omega) (by omega)]; omega), P_getR7, gb_s, gb_s, P_ald rfl (by omega), gb_s, c_kindOf, cb_s, ← htk]
    exact e76
  · have htk : tk T L s = 0 := if_neg hl
    rw [if_pos (by rw [I_le (by omega) (by omega)]; omega)]
    rw [htk] at e76
    exact e76
theorem c_next (hL : L ≤ 500) (hs : s ≤ L) : x7_readNext (p + 1) (putP g p (pC gi T L s)) = some ((), putP g p (pC gi T L (nx T L s))) := c_readNext hL (te_le hs).2
end TokC


