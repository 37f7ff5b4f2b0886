/-! the text that the law writes is a setup -/
def DG (v : Nat) : List Int32 := if v < 10 then [I (48 + v)] else [I (48 + v / 10), I (48 + v % 10)]
def RW : List Nat → List Int32
  | [] => []
  | v :: vs => 32 :: (DG v ++ RW vs)
def HW : List H3 → List Int32
  | [] => []
  | t :: hs => bytST 5 ++ (32 :: (DG t.1 ++ (32 :: (DG t.2.1 ++ (32 :: (DG t.2.2 ++ (59 :: HW hs)))))))
def txt (u : Su) : List Int32 := bytST 1 ++ (32 :: (DG u.1 ++ (59 :: (bytST 2 ++ (RW u.2.1 ++ (59 :: (bytST 3 ++ (RW u.2.2.1 ++ (59 :: (bytST 4 ++ (RW u.2.2.2.1 ++ (59 :: HW u.2.2.2.2))))))))))))
def At (T : Nat → Int32) (L p : Nat) (l : List Int32) : Prop := (∀ j, j < l.length → T (p + j) = l.getD j 0) ∧ p + l.length = L
def Nk (k : Nat) (l : List Int32) : Prop := match l with
  | [] => True
  | c :: _ => kd c ≠ k
section Text
variable {T : Nat → Int32} {L p : Nat} {l : List Int32}
theorem At.head {c : Int32} (h : At T L p (c :: l)) : p < L ∧ T p = c ∧ At T L (p + 1) l := by
  obtain ⟨h1, h2⟩ := h
  rw [List.length_cons] at h2
  refine ⟨by omega, h1 0 (Nat.zero_lt_succ _), fun j hj => ?_, by omega⟩
  have := h1 (j + 1) (by rw [List.length_cons]; omega)
  rw [show p + 1 + j = p + (j + 1) by omega, this]
  rfl
theorem At.app {a : List Int32} (h : At T L p (a ++ l)) : (∀ j, j < a.length → T (p + j) = a.getD j 0) ∧ p + a.length ≤ L ∧ At T L (p + a.length) l := by
  obtain ⟨h1, h2⟩ := h
  rw [List.length_append] at h2
  refine ⟨fun j hj => ?_, by omega, fun j hj => ?_, by omega⟩
  · rw [h1 j (by rw [List.length_append]; omega)]
    simp [List.getD_eq_getElem?_getD, List.getElem?_append_left hj]
  · rw [show p + a.length + j = p + (a.length + j) by omega, h1 (a.length + j) (by rw [List.length_append]; omega)]
    simp [List.getD_eq_getElem?_getD, List.getElem?_append_right (Nat.le_add_right a.length j)]
theorem At.nk (h : At T L p l) {k : Nat} (hk0 : Nk k l) : ¬ (p < L ∧ kd (T p) = k) := by
  match l, h, hk0 with
  | [], h, _ =>
    have := h.2
    rw [List.length_nil] at this
    omega
  | c :: l, h, hk0 =>
    rw [h.head.2.1]
    exact fun hc => hk0 hc.2
theorem rn_eq {k e e1 : Nat} (h : e ≤ e1) (h1 : ∀ i, e ≤ i → i < e1 → i < L ∧ kd (T i) = k) (h2 : ¬ (e1 < L ∧ kd (T e1) = k)) : rn T L k e = e1 := by
  obtain ⟨a, b, c⟩ := rn_spec T L k e
  rcases Nat.lt_trichotomy (rn T L k e) e1 with hl | he | hg
  · exact absurd (h1 _ a hl) c
  · exact he
  · exact absurd (b e1 h hg) h2
theorem run_at {a : List Int32} {k : Nat} (h : At T L p (a ++ l)) (ha : ∀ j, j < a.length → kd (a.getD j 0) = k) (h0 : 1 ≤ a.length) (hk1 : k = 1 ∨ k = 2) (hn : Nk k l) : tk T L p = k ∧ te T L p = p + a.length ∧ At T L (p + a.length) l ∧ p < L := by
  obtain ⟨a1, a2, a3⟩ := h.app
  have hp : p < L := by omega
  have hk : kd (T p) = k := by
    have := a1 0 (by omega)
    rw [Nat.add_zero] at this
    rw [this]
    exact ha 0 (by omega)
  refine ⟨by unfold tk; rw [if_pos hp, hk], ?_, a3, hp⟩
  unfold te
  rw [if_pos hp, hk, if_pos hk1]
  refine rn_eq (by omega) (fun i i1 i2 => ⟨by omega, ?_⟩) (a3.nk hn)
  have := a1 (i - p) (by omega)
  rw [show p + (i - p) = i by omega] at this
  rw [this]
  exact ha _ (by omega)
theorem nx_no (h : At T L (te T L p) l) (hn : Nk 4 l) : nx T L p = te T L p := rn_eq (Nat.le_refl _) (fun i i1 i2 => by omega) (h.nk hn)
theorem nx_sp (h : At T L (te T L p) (32 :: l)) (hn : Nk 4 l) : nx T L p = te T L p + 1 := by
  obtain ⟨a1, a2, a3⟩ := h.head
  refine rn_eq (by omega) (fun i i1 i2 => ?_) (a3.nk hn)
  have : i = te T L p := by omega
  rw [this, a2]
  exact ⟨a1, by decide⟩
theorem semi_at (h : At T L p (59 :: l)) (hn : Nk 4 l) : tk T L p = 3 ∧ nx T L p = p + 1 ∧ At T L (p + 1) l := by
  obtain ⟨a1, a2, a3⟩ := h.head
  have e : te T L p = p + 1 := by
    unfold te
    rw [if_pos a1, a2, if_neg (by decide)]
  refine ⟨by unfold tk; rw [if_pos a1, a2]; decide, ?_, a3⟩
  rw [nx_no (l := l) (by rw [e]; exact a3) hn, e]
theorem DG_len (v : Nat) : 1 ≤ (DG v).length ∧ (DG v).length ≤ 2 := by
  unfold DG
  split <;> simp
theorem DG_kd {v : Nat} (hv : v ≤ 99) : ∀ j, j < (DG v).length → kd ((DG v).getD j 0) = 2 := by
  have : ∀ v, v < 100 → ∀ j, j < 2 → j < (DG v).length → kd ((DG v).getD j 0) = 2 := by decide +kernel
  intro j hj
  exact this v (by omega) j (by have := (DG_len v).2; omega) hj
theorem nk_DG {v k : Nat} (hv : v ≤ 99) (hk0 : k ≠ 2) : Nk k (DG v ++ l) := by
  have h := DG_kd hv 0 (by have := (DG_len v).1; omega)
  unfold DG at h ⊢
  split at h
  · rename_i h1
    rw [if_pos h1]
    exact fun hc => hk0 (hc.symm.trans h)
  · rename_i h1
    rw [if_neg h1]
    exact fun hc => hk0 (hc.symm.trans h)
theorem num_at {v : Nat} (h : At T L p (DG v ++ l)) (hv : v ≤ 99) (hn : Nk 2 l) : tk T L p = 2 ∧ nv T L p = v ∧ te T L p = p + (DG v).length ∧ At T L (p + (DG v).length) l := by
  obtain ⟨b1, b2, b3, -⟩ := run_at h (DG_kd hv) (DG_len v).1 (Or.inr rfl) hn
  refine ⟨b1, ?_, b2, b3⟩
  obtain ⟨a1, -, -⟩ := h.app
  unfold nv
  rw [b2]
  have hd : ∀ v, v < 100 → dg (I (48 + v % 10)) = v % 10 ∧ dg (I (48 + v / 10)) = v / 10 := by decide +kernel
  obtain ⟨d1, d2⟩ := hd v (by omega)
  by_cases h1 : v < 10
  · have e : DG v = [I (48 + v)] := if_pos h1
    have a0 := a1 0 (by rw [e]; simp)
    rw [e] at a0 ⊢
    rw [show p + [I (48 + v)].length - (p + 1) = 0 from by show p + 1 - (p + 1) = 0; omega, nvR]
    rw [Nat.add_zero] at a0
    rw [a0]
    rw [Nat.mod_eq_of_lt h1] at d1
    exact d1
  · have e : DG v = [I (48 + v / 10), I (48 + v % 10)] := if_neg h1
    have a0 := a1 0 (by rw [e]; simp)
    have a2 := a1 1 (by rw [e]; simp)
    rw [e] at a0 a2 ⊢
    rw [show p + [I (48 + v / 10), I (48 + v % 10)].length - (p + 1) = 0 + 1 from by show p + 2 - (p + 1) = 1; omega, nvR, nvR]
    rw [Nat.add_zero] at a0
    rw [Nat.add_zero, a0, a2]
    show min (10 * dg (I (48 + v / 10)) + dg (I (48 + v % 10))) 100000 = v
    rw [d1, d2]
    omega
theorem nuE_at {v lo hi : Nat} (h : At T L p (DG v ++ l)) (hv : v ≤ 99) (hn : Nk 2 l) (h1 : lo ≤ v) (h2 : v ≤ hi) : nuE T L lo hi p = 0 := by
  obtain ⟨b1, b2, -⟩ := num_at h hv hn
  unfold nuE
  rw [if_pos b1, b2, if_pos ⟨h1, h2⟩]
theorem wrd_at {k : Nat} (h : At T L p (bytST k ++ l)) (hk0 : k < 6) (h1 : 1 ≤ k) (hn : Nk 1 l) : wdB T L k p = true ∧ te T L p = p + wl k ∧ At T L (p + wl k) l ∧ tk T L p = 1 := by
  have hal : ∀ k, k < 6 → 1 ≤ k → (1 ≤ (bytST k).length ∧ ∀ j, j < 8 → j < (bytST k).length → kd ((bytST k).getD j 0) = 1) ∧ (bytST k).length ≤ 8 := by decide +kernel
  obtain ⟨⟨c1, c2⟩, c3⟩ := hal k hk0 h1
  obtain ⟨b1, b2, b3, -⟩ := run_at h (fun j hj => c2 j (by omega) hj) c1 (Or.inl rfl) hn
  obtain ⟨a1, -, -⟩ := h.app
  refine ⟨?_, b2, b3, b1⟩
  have hff : ff (fun j => !decide (T (p + j) = wc k j)) (wl k) = none := by
    cases hf : ff (fun j => !decide (T (p + j) = wc k j)) (wl k) with
    | none => rfl
    | some j =>
      obtain ⟨j1, j2, -⟩ := ff_some hf
      have := a1 j j1
      simp [show T (p + j) = wc k j from this] at j2
  unfold wdB
  rw [b1, b2, hff]
  simp [wl]
def stP (p : Nat) (rs : List Nat) : Nat := match rs with
  | [] => p
  | _ :: _ => p + 1
theorem row_next {q : Nat} {rs : List Nat} (e : te T L q = p) (h : At T L p (RW rs ++ (59 :: l))) (hb : ∀ v, v ∈ rs → v ≤ 99) : nx T L q = stP p rs := by
  match rs, h, hb with
  | [], h, _ =>
    rw [nx_no (l := 59 :: l) (by rw [e]; exact h) (show kd 59 ≠ 4 by decide), e]
    rfl
  | v :: rs, h, hb =>
    rw [nx_sp (l := DG v ++ RW rs ++ (59 :: l)) (by rw [e]; exact h) (by rw [List.append_assoc]; exact nk_DG (hb v (List.mem_cons_self ..)) (by decide)), e]
    rfl
theorem nk_row {rs : List Nat} {k : Nat} (h : k = 1 ∨ k = 2) : Nk k (RW rs ++ (59 :: l)) := by
  match rs with
  | [] => rcases h with rfl | rfl <;> (show kd 59 ≠ _; decide)
  | v :: rs => rcases h with rfl | rfl <;> (show kd 32 ≠ _; decide)
theorem row_ok {lo hi least : Nat} (hh : hi ≤ 99) (hn : Nk 4 l) : ∀ (rs vs : List Nat) (n p : Nat), At T L p (RW rs ++ (59 :: l)) → rs.length < n → vs.length + rs.length ≤ 12 → (∀ v, v ∈ rs → lo ≤ v ∧ v ≤ hi) → least ≤ vs.length + rs.length → rowS T L lo hi least n vs (stP p rs) = .inl (vs ++ rs, p + (RW rs).length + 1) ∧ At T L (p + (RW rs).length + 1) l := by
  intro rs
  induction rs with
  | nil =>
    intro vs n p h hl _ _ hle
    match n, hl with
    | n + 1, _ =>
      obtain ⟨b1, b2, b3⟩ := semi_at (l := l) h hn
      rw [List.length_nil, Nat.add_zero] at hle
      rw [rowS, show stP p [] = p from rfl, if_neg (fun hc => by rcases hc with h1 | h1; exact absurd hle (by omega); exact h1 b1), b2, List.append_nil]
      exact ⟨rfl, b3⟩
  | cons v rs ih =>
    intro vs n p h hl hlen hb hle
    rw [List.length_cons] at hl hlen hle
    match n, hl with
    | n + 1, hl =>
      have hv := hb v (List.mem_cons_self ..)
      have hb' : ∀ x, x ∈ rs → lo ≤ x ∧ x ≤ hi := fun x hx => hb x (List.mem_cons_of_mem _ hx)
      obtain ⟨a1, a2, a3⟩ := At.head (l := (DG v ++ RW rs) ++ (59 :: l)) h
      rw [List.append_assoc] at a3
      obtain ⟨b1, b2, b3, b4⟩ := num_at a3 (by omega) (nk_row (Or.inr rfl))
      have e := nuE_at a3 (by omega) (nk_row (Or.inr rfl)) hv.1 hv.2
      have enx := row_next b3 b4 (fun x hx => by have := hb' x hx; omega)
      obtain ⟨i1, i2⟩ := ih (vs ++ [v]) n (p + 1 + (DG v).length) b4 (by omega) (by rw [List.length_append, List.length_singleton]; omega) hb' (by rw [List.length_append, List.length_singleton]; omega)
      have el : p + (RW (v :: rs)).length + 1 = p + 1 + (DG v).length + (RW rs).length + 1 := by
        show p + (32 :: (DG v ++ RW rs)).length + 1 = _
        rw [List.length_cons, List.length_append]
        omega
      rw [rowS, show stP p (v :: rs) = p + 1 from rfl, if_pos (Or.inr (by rw [b1]; decide)), if_pos e, if_neg (by omega), b2, enx, i1, el, List.append_assoc]
      exact ⟨rfl, i2⟩
theorem nk_H {hs : List H3} {k : Nat} (h : k ≠ 1) : Nk k (HW hs) := by
  match hs with
  | [] => trivial
  | t :: hs =>
    show kd 104 ≠ k
    exact fun hc => h (hc.symm.trans (by decide))
theorem hk_ok : ∀ (rs hs : List H3) (n p : Nat), At T L p (HW rs) → rs.length < n → hs.length + rs.length ≤ 10 → 1 ≤ hs.length + rs.length → (∀ t, t ∈ rs → (1 ≤ t.1 ∧ t.1 ≤ 30) ∧ t.2.1 ≤ 9 ∧ t.2.2 ≤ 99) → hksS T L n hs p = .inl (hs ++ rs) := by
  intro rs
  induction rs with
  | nil =>
    intro hs n p h hl _ h1 _
    match n, hl with
    | n + 1, _ =>
      have hp : ¬ p < L := by have := h.2; rw [show (HW []).length = 0 from rfl] at this; omega
      rw [hksS, if_pos ⟨h1, by unfold tk; rw [if_neg hp]⟩, List.append_nil]
  | cons t rs ih =>
    intro hs n p h hl hlen _ hb
    rw [List.length_cons] at hl hlen
    match n, hl with
    | n + 1, hl =>
      obtain ⟨⟨v1, v2⟩, v3, v4⟩ := hb t (List.mem_cons_self ..)
      have hb' : ∀ x, x ∈ rs → (1 ≤ x.1 ∧ x.1 ≤ 30) ∧ x.2.1 ≤ 9 ∧ x.2.2 ≤ 99 := fun x hx => hb x (List.mem_cons_of_mem _ hx)
      obtain ⟨a1, a2, a3, a4⟩ := wrd_at (k := 5) (l := 32 :: (DG t.1 ++ (32 :: (DG t.2.1 ++ (32 :: (DG t.2.2 ++ (59 :: HW rs))))))) h (by decide) (by decide) (show kd 32 ≠ 1 by decide)
      have n1 : nx T L p = p + wl 5 + 1 := by rw [nx_sp (by rw [a2]; exact a3) (nk_DG (by omega) (by decide)), a2]
      have c1 := a3.head.2.2
      obtain ⟨b1, b2, b3, b4⟩ := num_at c1 (by omega) (show kd 32 ≠ 2 by decide)
      have u1 := nuE_at c1 (by omega) (show kd 32 ≠ 2 by decide) v1 v2
      have n2 : nx T L (p + wl 5 + 1) = p + wl 5 + 1 + (DG t.1).length + 1 := by rw [nx_sp (by rw [b3]; exact b4) (nk_DG (by omega) (by decide)), b3]
      have c2 := b4.head.2.2
      obtain ⟨d1, d2, d3, d4⟩ := num_at c2 (by omega) (show kd 32 ≠ 2 by decide)
      have u2 := nuE_at c2 (by omega) (show kd 32 ≠ 2 by decide) (Nat.zero_le _) v3
      have n3 : nx T L (p + wl 5 + 1 + (DG t.1).length + 1) = p + wl 5 + 1 + (DG t.1).length + 1 + (DG t.2.1).length + 1 := by rw [nx_sp (by rw [d3]; exact d4) (nk_DG (by omega) (by decide)), d3]
      have c3 := d4.head.2.2
      obtain ⟨e1, e2, e3, e4⟩ := num_at c3 (by omega) (show kd 59 ≠ 2 by decide)
      have u3 := nuE_at c3 (by omega) (show kd 59 ≠ 2 by decide) (Nat.zero_le _) v4
      have n4 : nx T L (p + wl 5 + 1 + (DG t.1).length + 1 + (DG t.2.1).length + 1) = p + wl 5 + 1 + (DG t.1).length + 1 + (DG t.2.1).length + 1 + (DG t.2.2).length := by rw [nx_no (by rw [e3]; exact e4) (show Nk 4 (59 :: _) from (by decide : kd 59 ≠ 4)), e3]
      obtain ⟨f1, f2, f3⟩ := semi_at e4 (nk_H (by decide))
      have ehk : hkN T L (p + wl 5 + 1) = .inl ((t.1, t.2.1, t.2.2), p + wl 5 + 1 + (DG t.1).length + 1 + (DG t.2.1).length + 1 + (DG t.2.2).length + 1) := by
        unfold hkN
        rw [if_pos u1, n2, if_pos u2, n3, if_pos u3, n4, if_pos f1, b2, d2, e2, f2]
      have := ih (hs ++ [t]) n _ f3 (by omega) (by rw [List.length_append, List.length_singleton]; omega) (by rw [List.length_append, List.length_singleton]; omega) hb'
      rw [hksS, if_neg (fun hc => by rw [a4] at hc; exact absurd hc.2 (by decide)), if_pos a1, if_neg (by omega), n1, ehk]
      show hksS T L n (hs ++ [t]) _ = _
      rw [this, List.append_assoc]
      rfl
/-- what the law writes of u is read as u -/
theorem suS_txt {u : Su} (b : suB u) (hb : ∀ t, t ∈ u.2.2.2.2 → 1 ≤ t.1) (h : At T L 0 (txt u)) : suS T L = .inl u := by
  obtain ⟨b0, ⟨b1, b2, b3⟩, ⟨b4, b5⟩, ⟨b6, b7, b8⟩, b9, b10, b11⟩ := b
  unfold txt at h
  have r0 : rn T L 4 0 = 0 := rn_eq (Nat.le_refl _) (fun i i1 i2 => by omega) (h.nk (show kd 104 ≠ 4 by decide))
  obtain ⟨a1, a2, a3, a4⟩ := wrd_at h (by decide) (by decide) (show kd 32 ≠ 1 by decide)
  have n1 : nx T L 0 = 0 + wl 1 + 1 := by rw [nx_sp (by rw [a2]; exact a3) (nk_DG b0 (by decide)), a2]
  have c1 := a3.head.2.2
  obtain ⟨d1, d2, d3, d4⟩ := num_at c1 b0 (show kd 59 ≠ 2 by decide)
  have u1 := nuE_at c1 b0 (show kd 59 ≠ 2 by decide) (Nat.zero_le _) b0
  have n2 : nx T L (0 + wl 1 + 1) = 0 + wl 1 + 1 + (DG u.1).length := by rw [nx_no (by rw [d3]; exact d4) (show Nk 4 (59 :: _) from (by decide : kd 59 ≠ 4)), d3]
  obtain ⟨e1, e2, e3⟩ := semi_at d4 (show kd 98 ≠ 4 by decide)
  have s1 : spLogs T L (rn T L 4 0) = .inl (u.1, 0 + wl 1 + 1 + (DG u.1).length + 1) := by
    unfold spLogs
    rw [r0, if_pos a1, n1, if_pos u1, n2, if_pos e1, d2, e2]
  have row : ∀ {k lo hi least : Nat} {rs : List Nat} {q : Nat} {l : List Int32}, 1 ≤ k → k < 6 → hi ≤ 99 → At T L q (bytST k ++ (RW rs ++ (59 :: l))) → Nk 4 l → rs.length ≤ 12 → (∀ v, v ∈ rs → lo ≤ v ∧ v ≤ hi) → least ≤ rs.length → spRow T L k lo hi least q = .inl (rs, q + wl k + (RW rs).length + 1) ∧ At T L (q + wl k + (RW rs).length + 1) l := by
    intro k lo hi least rs q l k1 k2 hh hq hn hlen hbd hle
    obtain ⟨g1, g2, g3, -⟩ := wrd_at hq k2 k1 (nk_row (Or.inl rfl))
    have enx := row_next g2 g3 (fun v hv => by have := hbd v hv; omega)
    obtain ⟨i1, i2⟩ := row_ok (least := least) hh hn rs [] 13 _ g3 (by omega) (by rw [List.length_nil]; omega) hbd (by rw [List.length_nil]; omega)
    unfold spRow
    rw [if_pos g1, enx, i1]
    exact ⟨rfl, i2⟩
  obtain ⟨s2, t2⟩ := row (k := 2) (lo := 0) (hi := 5) (least := 1) (by decide) (by decide) (by decide) e3 (show kd 98 ≠ 4 by decide) b2 (fun v hv => ⟨Nat.zero_le _, b3 v hv⟩) b1
  obtain ⟨s3, t3⟩ := row (k := 3) (lo := 1) (hi := 9) (least := 0) (by decide) (by decide) (by decide) t2 (show kd 102 ≠ 4 by decide) b4 b5 (Nat.zero_le _)
  obtain ⟨s4, t4⟩ := row (k := 4) (lo := 0) (hi := 20) (least := 1) (by decide) (by decide) (by decide) t3 (nk_H (by decide)) b7 (fun v hv => ⟨Nat.zero_le _, b8 v hv⟩) b6
  have s5 := hk_ok u.2.2.2.2 [] 11 _ t4 (by omega) (by rw [List.length_nil]; omega) (by rw [List.length_nil]; omega) (fun t ht => by
    obtain ⟨x1, x2, x3⟩ := b11 t ht
    exact ⟨⟨hb t ht, x1⟩, x2, x3⟩)
  unfold suS
  rw [s1]
  dsimp only
  rw [s2]
  dsimp only
  rw [s3]
  dsimp only
  rw [s4]
  dsimp only
  rw [s5]
  rfl
end Text
