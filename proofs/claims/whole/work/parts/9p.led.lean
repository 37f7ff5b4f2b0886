/-! the ledger is written by both -/
def dbt (st : St) (i : Nat) : List Nat := if hk st i 3 ≤ 0 then [] else [45] ++ dgs 12 (kN (hk st i 3))
def acc (st : St) (i : Nat) : List Nat := [97 + i] ++ [61] ++ dgs 12 (kN (hk st i 2)) ++ dbt st i ++ [47] ++ dgs 12 (kN (hk st i 8))
def led (st : St) : Nat → List Nat
  | 0 => []
  | n + 1 => led st n ++ (if n = 0 then [] else [32]) ++ acc st n
theorem dgs_k {k v : Nat} (hk0 : k ≤ 12) (h0 : 0 < k) (hv : v < 10 ^ k) : (dgs 12 v).length ≤ k := by
  rcases dgs_fuel k (12 - k) v hv with e | e
  · rw [show k + (12 - k) = 12 by omega] at e
    rw [e]
    exact dgs_len _ _
  · omega
section Led
variable {g : AH} {n m : Nat} {w : WS} {st : St} {l : List Nat} {r : RS}
theorem Gd_fld (G : Gd st) {i : Nat} (hi : i < 10) : (hk st i 2 = I (kN (hk st i 2)) ∧ kN (hk st i 2) < 10 ^ 7) ∧ (hk st i 3 = I (kN (hk st i 3)) ∧ kN (hk st i 3) < 10 ^ 7) ∧ (hk st i 8 = I (kN (hk st i 8)) ∧ kN (hk st i 8) < 10 ^ 4) := by
  obtain ⟨-, -, ⟨-, B, -⟩, hT⟩ := G
  have a := (B.fld (i := i) (f := 2) hi (by decide) rfl).nat (by omega)
  have b := (B.fld (i := i) (f := 3) hi (by decide) rfl).nat (by omega)
  have c := (B.fld (i := i) (f := 8) hi (by decide) rfl).nat (by omega)
  exact ⟨⟨a.1, by omega⟩, ⟨b.1, by omega⟩, ⟨c.1, by omega⟩⟩
theorem acc_len (G : Gd st) {i : Nat} (hi : i < 10) : (acc st i).length ≤ 22 := by
  obtain ⟨⟨-, a⟩, ⟨-, b⟩, ⟨-, c⟩⟩ := Gd_fld G hi
  have a1 := dgs_k (k := 7) (by decide) (by decide) a
  have b1' := dgs_k (k := 7) (by decide) (by decide) b
  have c1 := dgs_k (k := 4) (by decide) (by decide) c
  unfold acc dbt
  split
  · simp only [List.length_append, List.length_singleton, List.length_nil]; omega
  · simp only [List.length_append, List.length_singleton]; omega
theorem led_len (G : Gd st) : ∀ k, k ≤ 10 → (led st k).length ≤ 23 * k := by
  intro k
  induction k with
  | zero => intro _; exact Nat.le_refl _
  | succ k ih =>
    intro hk0
    have h1 := ih (by omega)
    have h2 := acc_len G (show k < 10 by omega)
    rw [led, List.length_append, List.length_append]
    split
    · rw [List.length_nil]; omega
    · rw [List.length_singleton]; omega
/-- writing in the world -/
theorem W_put {b : Nat} {x : Int32} (h : OC w.2.2.2.2.2.1 l) (hl : l.length < 400) (hx : x = I b) : ∃ s1, x4_put (n + 310) x (putW g n w) = some ((), putW g n (wO w s1)) ∧ OC s1 (l ++ [b]) := by
  obtain ⟨s1, e1, e2⟩ := O_put (g := putW g n w) (p := n + 310) h hl hx
  rw [W_O, W_setO] at e1
  exact ⟨s1, e1, e2⟩
theorem W_number {v : Nat} {x : Int32} (h : OC w.2.2.2.2.2.1 l) (hv : v < 1000000000) (hl : l.length + 12 < 400) (hx : x = I v) : ∃ s1, x4_putNumber (n + 310) x (putW g n w) = some ((), putW g n (wO w s1)) ∧ OC s1 (l ++ dgs 12 v) := by
  obtain ⟨s1, e1, e2⟩ := O_number (g := putW g n w) (p := n + 310) h hv hl hx
  rw [W_O, W_setO] at e1
  exact ⟨s1, e1, e2⟩
theorem W_isO4 : isO 4 (putW g n w) (n + 310) = some () := by rw [← W_O (g := g) (n := n) (w := w)]; exact O_isO
theorem W_cnt : getI 4 (putW g n w) (n + 310) 1 = some w.2.2.2.2.2.1.1 := by
  have := O_getI (g := putW g n w) (p := n + 310) (s := w.2.2.2.2.2.1)
  rw [W_O] at this
  exact this
theorem W_kI {i f : Nat} (hi : i < 10) (hf : f < 8) : getI 1 (putW g n w) (n + hp 0 + (7 + 2 * i)) f = some ((w.1 0).2.2.1 i f) := by
  have := K_getI (g := putW g n w) (p := n + hp 0) (h := w.1 0) hi hf
  rw [W_H (by decide)] at this
  exact this
theorem W_kR {i : Nat} (hi : i < 10) : getR 1 (putW g n w) (n + hp 0 + (7 + 2 * i)) 8 = some (n + hp 0 + (8 + 2 * i)) := by
  have := K_getR (g := putW g n w) (p := n + hp 0) (h := w.1 0) hi
  rw [W_H (by decide)] at this
  exact this
theorem W_kA {i j : Nat} {x : Int32} (hi : i < 10) (hx : x = I j) (hj : j < 4) : aldI 0 (putW g n w) (n + hp 0 + (8 + 2 * i)) x = some ((w.1 0).2.2.2 i j) := by
  have := K_ald (g := putW g n w) (p := n + hp 0) (h := w.1 0) hi hx hj
  rw [W_H (by decide)] at this
  exact this
theorem W_hI {k : Nat} (hk0 : k < 13) : getI 3 (putW g n w) (n + hp 0) k = some ((w.1 0).1 k) := by
  have := H_getI (g := putW g n w) (p := n + hp 0) (h := w.1 0) hk0
  rw [W_H (by decide)] at this
  exact this
theorem W_hks {i : Nat} (hi : i < 10) : (gb (getR 3 (putW g n w) (n + hp 0) 18) fun x3 => aldR 4 (putW g n w) x3 (I i)) = some (n + hp 0 + (7 + 2 * i)) := by
  have h1 := H_getR (g := putW g n w) (p := n + hp 0) (h := w.1 0) (k := 18) (d := 6) rfl (by decide) (by decide)
  have h2 := H_hik (g := putW g n w) (p := n + hp 0) (h := w.1 0) hi
  rw [W_H (by decide)] at h1 h2
  rw [h1, gb_s, h2]
theorem W_h18 : getR 3 (putW g n w) (n + hp 0) 18 = some (n + hp 0 + 6) := by
  have h1 := H_getR (g := putW g n w) (p := n + hp 0) (h := w.1 0) (k := 18) (d := 6) rfl (by decide) (by decide)
  rw [W_H (by decide)] at h1
  exact h1
theorem W_hik {i : Nat} (hi : i < 10) : aldR 4 (putW g n w) (n + hp 0 + 6) (I i) = some (n + hp 0 + (7 + 2 * i)) := by
  have h2 := H_hik (g := putW g n w) (p := n + hp 0) (h := w.1 0) hi
  rw [W_H (by decide)] at h2
  exact h2
theorem W_8o : getR 8 (putW g n w) n 8 = some (n + 310) := W_o8 rfl
theorem W_80 : getR 8 (putW g n w) n 0 = some (n + hp 0) := W_o8 rfl
theorem Wo_put {s : OS} {b : Nat} {x : Int32} (h : OC s l) (hl : l.length < 400) (hx : x = I b) : ∃ s1, x4_put (n + 310) x (putW g n (wO w s)) = some ((), putW g n (wO w s1)) ∧ OC s1 (l ++ [b]) := W_put (w := wO w s) h hl hx
theorem Wo_number {s : OS} {v : Nat} {x : Int32} (h : OC s l) (hv : v < 1000000000) (hl : l.length + 12 < 400) (hx : x = I v) : ∃ s1, x4_putNumber (n + 310) x (putW g n (wO w s)) = some ((), putW g n (wO w s1)) ∧ OC s1 (l ++ dgs 12 v) := W_number (w := wO w s) h hv hl hx
/-- one hiker's account, the class -/
theorem c_account {s : OS} (G : Gm st (w.1 0)) {i : Nat} (hi : i < nH st) (h : OC s l) (hl : l.length ≤ 240) : ∃ s1, x8_writeHiker n (I i) (n + hp 0 + (7 + 2 * i)) (putW g n (wO w s)) = some ((), putW g n (wO w s1)) ∧ OC s1 (l ++ acc st i) := by
  obtain ⟨G1, R, -⟩ := G
  have hi0 : i < 10 := by have := G1.1.h.2; omega
  obtain ⟨⟨a1, a2⟩, ⟨b1', b2⟩, ⟨c1, c2⟩⟩ := Gd_fld G1 hi0
  have l1 := dgs_k (k := 7) (by decide) (by decide) a2
  have l2 := dgs_k (k := 7) (by decide) (by decide) b2
  have r2 : ∀ s, getI 1 (putW g n (wO w s)) (n + hp 0 + (7 + 2 * i)) 2 = some (I (kN (hk st i 2))) := fun s => (W_kI (w := wO w s) hi0 (by decide)).trans (congrArg some ((R.2.2.1 i hi 2 (by decide)).trans a1))
  have r3 : ∀ s, getI 1 (putW g n (wO w s)) (n + hp 0 + (7 + 2 * i)) 3 = some (hk st i 3) := fun s => (W_kI (w := wO w s) hi0 (by decide)).trans (congrArg some (R.2.2.1 i hi 3 (by decide)))
  have r8 : ∀ s, aldI 0 (putW g n (wO w s)) (n + hp 0 + (8 + 2 * i)) 2 = some (I (kN (hk st i 8))) := fun s => (W_kA (w := wO w s) (j := 2) (x := 2) hi0 rfl (by decide)).trans (congrArg some ((R.2.2.2.1 i hi 2 (by decide)).trans c1))
  obtain ⟨s1, e1, e2⟩ := Wo_put (g := g) (n := n) (w := w) (b := 97 + i) (x := 97 + I i) h (by omega) (I_add 97 i)
  obtain ⟨s2, f1, f2⟩ := Wo_put (g := g) (n := n) (w := w) (b := 61) (x := 61) e2 (by rw [List.length_append, List.length_singleton]; omega) rfl
  obtain ⟨s3, g1, g2⟩ := Wo_number (g := g) (n := n) (w := w) (x := I (kN (hk st i 2))) f2 (by omega) (by simp only [List.length_append, List.length_singleton]; omega) rfl
  have tail : ∀ s4 l4, OC s4 l4 → l4.length ≤ 280 → ∃ s5, x8_writeHiker_j58 n (n + hp 0 + (7 + 2 * i)) (putW g n (wO w s4)) = some ((), putW g n (wO w s5)) ∧ OC s5 (l4 ++ [47] ++ dgs 12 (kN (hk st i 8))) := by
    intro s4 l4 h4 hl4
    obtain ⟨s5, p1, p2⟩ := Wo_put (g := g) (n := n) (w := w) (b := 47) (x := 47) h4 (by omega) rfl
    obtain ⟨s6, q1, q2⟩ := Wo_number (g := g) (n := n) (w := w) (x := I (kN (hk st i 8))) p2 (by omega) (by simp only [List.length_append, List.length_singleton]; omega) rfl
    refine ⟨s6, ?_, q2⟩
    unfold x8_writeHiker_j58
    rw [W_8o, gb_s, W_isO4, gb_s, p1, cb_s, W_8o, gb_s, W_kR hi0, gb_s, r8, gb_s, W_isO4, gb_s, q1, cb_s]
  unfold x8_writeHiker
  rw [W_8o, gb_s, W_isO4, gb_s, e1, cb_s, W_8o, gb_s, W_isO4, gb_s, f1, cb_s, W_8o, gb_s, r2, gb_s, W_isO4, gb_s, g1, cb_s, r3, gb_s]
  by_cases hd : hk st i 3 ≤ 0
  · obtain ⟨s5, p1, p2⟩ := tail s3 _ g2 (by simp only [List.length_append, List.length_singleton]; omega)
    rw [if_pos hd, p1]
    refine ⟨s5, rfl, ?_⟩
    unfold acc dbt
    rw [if_pos hd, List.append_nil]
    simp only [← List.append_assoc] at p2 ⊢
    exact p2
  · obtain ⟨s4, m1, m2⟩ := Wo_put (g := g) (n := n) (w := w) (b := 45) (x := 45) g2 (by simp only [List.length_append, List.length_singleton]; omega) rfl
    obtain ⟨s5, q1, q2⟩ := Wo_number (g := g) (n := n) (w := w) (x := hk st i 3) m2 (by omega) (by simp only [List.length_append, List.length_singleton]; omega) b1'
    obtain ⟨s6, p1, p2⟩ := tail s5 _ q2 (by simp only [List.length_append, List.length_singleton]; omega)
    rw [if_neg hd, W_8o, gb_s, W_isO4, gb_s, m1, cb_s, W_8o, gb_s, r3, gb_s, W_isO4, gb_s, q1, cb_s, p1]
    refine ⟨s6, rfl, ?_⟩
    unfold acc dbt
    rw [if_neg hd]
    simp only [← List.append_assoc] at p2 ⊢
    exact p2
theorem Wo_clear {s : OS} : ∃ s1, x4_clear (n + 310) (putW g n (wO w s)) = some ((), putW g n (wO w s1)) ∧ OC s1 [] := by
  obtain ⟨s1, e1, e2⟩ := O_clear (g := putW g n (wO w s)) (p := n + 310) (s := s)
  rw [show putO (putW g n (wO w s)) (n + 310) s = putW g n (wO w s) from W_O (w := wO w s), W_setO] at e1
  exact ⟨s1, e1, e2⟩
/-- the class writes the ledger -/
theorem c_writeLedger {s : OS} (G : Gm st (w.1 0)) : ∃ s1, x8_writeLedger n (putW g n (wO w s)) = some (I (led st (nH st)).length, putW g n (wO w s1)) ∧ OC s1 (led st (nH st)) := by
  have hh := G.1.1.h
  have r12 : ∀ s, getI 3 (putW g n (wO w s)) (n + hp 0) 12 = some (I (nH st)) := fun s => (W_hI (w := wO w s) (by decide)).trans (congrArg some ((Rel_at G.2.1 12 (by decide)).trans hh.1))
  obtain ⟨s0, c1, c2⟩ := Wo_clear (g := g) (n := n) (w := w) (s := s)
  obtain ⟨t, g1, e1, s1, rfl, e2⟩ := loop_inv (body := x8_writeLedger_l9 n) (n := nH st) (fuel := 1000) (s := (0 : Int32)) (g := putW g n (wO w s0)) (fun i x g1 => x = I i ∧ ∃ s1, g1 = putW g n (wO w s1) ∧ OC s1 (led st i)) (fun _ g1 => ∃ s1, g1 = putW g n (wO w s1) ∧ OC s1 (led st (nH st))) (fun i x g1 hi h0 => by
    obtain ⟨rfl, s1, rfl, h1⟩ := h0
    have hi0 : i < 10 := by omega
    have hln := led_len G.1 i (by omega)
    have e33 : ∀ s2 l2, OC s2 l2 → l2.length ≤ 240 → ∃ s3, x8_writeLedger_j33_9 n (I i) (putW g n (wO w s2)) = some (.inl (I (i + 1)), putW g n (wO w s3)) ∧ OC s3 (l2 ++ acc st i) := fun s2 l2 h2 hl2 => by
      obtain ⟨s3, p1, p2⟩ := c_account (g := g) (n := n) (w := w) G hi h2 hl2
      unfold x8_writeLedger_j33_9
      rw [W_80, gb_s, W_h18, gb_s, W_hik hi0, gb_s, W_isO, gb_s, p1, cb_s, I_succ]
      exact ⟨s3, rfl, p2⟩
    unfold x8_writeLedger_l9
    rw [W_80, gb_s, r12, gb_s, if_neg (show ¬ I (nH st) ≤ I i by rw [I_le (by omega) (by omega)]; omega)]
    by_cases h0 : i = 0
    · obtain ⟨s3, p1, p2⟩ := e33 s1 _ h1 (by omega)
      rw [if_pos (show I i ≤ 0 by rw [h0]; exact Int32.le_refl 0), p1]
      refine ⟨_, _, rfl, rfl, s3, rfl, ?_⟩
      rw [led, if_pos h0, List.append_nil]
      exact p2
    · obtain ⟨s2, m1, m2⟩ := Wo_put (g := g) (n := n) (w := w) (b := 32) (x := 32) h1 (by omega) rfl
      obtain ⟨s3, p1, p2⟩ := e33 s2 _ m2 (by rw [List.length_append, List.length_singleton]; omega)
      rw [if_neg (show ¬ I i ≤ 0 by rw [show (0 : Int32) = I 0 from rfl, I_le (by omega) (by decide)]; omega), W_8o, gb_s, W_isO4, gb_s, m1, cb_s, p1]
      refine ⟨_, _, rfl, rfl, s3, rfl, ?_⟩
      rw [led, if_neg h0]
      exact p2) (fun x g1 h0 => by
    obtain ⟨rfl, s1, rfl, h1⟩ := h0
    unfold x8_writeLedger_l9
    rw [W_80, gb_s, r12, gb_s, if_pos (Int32.le_refl _)]
    exact ⟨_, _, rfl, s1, rfl, h1⟩) (by omega) ⟨rfl, s0, rfl, c2⟩
  unfold x8_writeLedger
  rw [W_8o, gb_s, W_isO4, gb_s, c1, cb_s, e1, cb_s, W_8o, gb_s, show getI 4 (putW g n (wO w s1)) (n + 310) 1 = some s1.1 from W_cnt (w := wO w s1), gb_s, e2.1]
  exact ⟨s1, rfl, e2⟩
/-- the reference writes the ledger -/
theorem s_account (G : Gd (r.2 1)) {i : Nat} (hi : i < nH (r.2 1)) (h : OR r l) (hl : l.length ≤ 240) : ∃ r1, x9_writeAccount m (I i) (putR g m r) = some ((), putR g m r1) ∧ OR r1 (l ++ acc (r.2 1) i) ∧ Ro r r1 := by
  have hi0 : i < 10 := by have := G.1.h.2; omega
  obtain ⟨⟨a1, a2⟩, ⟨b1', b2⟩, ⟨c1, c2⟩⟩ := Gd_fld G hi0
  have l1 := dgs_k (k := 7) (by decide) (by decide) a2
  have l2 := dgs_k (k := 7) (by decide) (by decide) b2
  have get : ∀ r1, Ro r r1 → ∀ f x, f < 10 → x = I f → x9_get m (I i) x (putR g m r1) = some (hk (r.2 1) i f, putR g m r1) := fun r1 q f x hf hx => by
    have := s_get (g := g) (m := m) (r := r1) hx hi0 hf
    rw [q.2 1 (by decide)] at this
    exact this
  obtain ⟨r1, e1, e2, e3⟩ := s_put (g := g) (m := m) (b := 97 + i) (x := 97 + I i) h (by omega) (by omega) (I_add 97 i)
  obtain ⟨r2, f1, f2, f3⟩ := s_put (g := g) (m := m) (b := 61) (x := 61) e2 (by rw [List.length_append, List.length_singleton]; omega) (by decide) rfl
  obtain ⟨r3, g1, g2, g3⟩ := s_number (g := g) (m := m) 12 (kN (hk (r.2 1) i 2)) r2 _ f2 (by omega) (by omega) (by decide) (by simp only [List.length_append, List.length_singleton]; omega)
  have q3 := (e3.trans f3).trans g3
  have tail : ∀ r4 l4, OR r4 l4 → Ro r r4 → l4.length ≤ 280 → ∃ r5, x9_writeAccount_j49 m (I i) (putR g m r4) = some ((), putR g m r5) ∧ OR r5 (l4 ++ [47] ++ dgs 12 (kN (hk (r.2 1) i 8))) ∧ Ro r r5 := by
    intro r4 l4 h4 q4 hl4
    obtain ⟨r5, p1, p2, p3⟩ := s_put (g := g) (m := m) (b := 47) (x := 47) h4 (by omega) (by decide) rfl
    obtain ⟨r6, n1, n2, n3⟩ := s_number (g := g) (m := m) 12 (kN (hk (r.2 1) i 8)) r5 _ p2 (by omega) (by omega) (by decide) (by simp only [List.length_append, List.length_singleton]; omega)
    rw [← c1] at n1
    unfold x9_writeAccount_j49
    rw [R_isO, gb_s, p1, cb_s, R_isO, gb_s, get r5 (q4.trans p3) 8 8 (by decide) rfl, cb_s, R_isO, gb_s, n1, cb_s]
    exact ⟨r6, rfl, n2, (q4.trans p3).trans n3⟩
  unfold x9_writeAccount
  rw [R_isO, gb_s, e1, cb_s, R_isO, gb_s, f1, cb_s, R_isO, gb_s, get r2 (e3.trans f3) 2 2 (by decide) rfl, cb_s, R_isO, gb_s, a1, g1, cb_s, R_isO, gb_s, get r3 q3 3 3 (by decide) rfl, cb_s]
  by_cases hd : hk (r.2 1) i 3 ≤ 0
  · obtain ⟨r5, p1, p2, p3⟩ := tail r3 _ g2 q3 (by simp only [List.length_append, List.length_singleton]; omega)
    rw [if_pos hd, p1]
    refine ⟨r5, rfl, ?_, p3⟩
    unfold acc dbt
    rw [if_pos hd, List.append_nil]
    simp only [← List.append_assoc] at p2 ⊢
    exact p2
  · obtain ⟨r4, m1, m2, m3⟩ := s_put (g := g) (m := m) (b := 45) (x := 45) g2 (by simp only [List.length_append, List.length_singleton]; omega) (by decide) rfl
    obtain ⟨r5, n1, n2, n3⟩ := s_number (g := g) (m := m) 12 (kN (hk (r.2 1) i 3)) r4 _ m2 (by omega) (by omega) (by decide) (by simp only [List.length_append, List.length_singleton]; omega)
    obtain ⟨r6, p1, p2, p3⟩ := tail r5 _ n2 ((q3.trans m3).trans n3) (by simp only [List.length_append, List.length_singleton]; omega)
    rw [if_neg hd, R_isO, gb_s, m1, cb_s, R_isO, gb_s, get r4 (q3.trans m3) 3 3 (by decide) rfl, cb_s, R_isO, gb_s, b1', n1, cb_s, p1]
    refine ⟨r6, rfl, ?_, p3⟩
    unfold acc dbt
    rw [if_neg hd]
    simp only [← List.append_assoc] at p2 ⊢
    exact p2
theorem s_writeLedger (G : Gd (r.2 1)) : ∃ r1, x9_writeLedger m (putR g m r) = some (I (led (r.2 1) (nH (r.2 1))).length, putR g m r1) ∧ OR r1 (led (r.2 1) (nH (r.2 1))) ∧ Ro (RS_setF r 6 0) r1 := by
  have hh := G.1.h
  generalize hst : r.2 1 = st at G hh ⊢
  obtain ⟨t, g1, e1, r1, rfl, e2, e3⟩ := loop_inv (body := x9_writeLedger_l12 m) (n := nH st) (fuel := 1000) (s := (0 : Int32)) (g := putR g m (RS_setF (RS_setF r 6 0) 20 0)) (fun i x g1 => x = I i ∧ ∃ r1, g1 = putR g m r1 ∧ OR r1 (led st i) ∧ Ro (RS_setF r 6 0) r1) (fun _ g1 => ∃ r1, g1 = putR g m r1 ∧ OR r1 (led st (nH st)) ∧ Ro (RS_setF r 6 0) r1) (fun i x g1 hi h0 => by
    obtain ⟨rfl, r1, rfl, h1, q1⟩ := h0
    have hi0 : i < 10 := by omega
    have hln := led_len G i (by omega)
    have est : ∀ r2, Ro (RS_setF r 6 0) r2 → r2.2 1 = st := fun r2 q => (q.2 1 (by decide)).trans hst
    have e33 : ∀ r2 l2, OR r2 l2 → Ro (RS_setF r 6 0) r2 → l2.length ≤ 240 → ∃ r3, x9_writeLedger_j33_12 m (I i) (putR g m r2) = some (.inl (I (i + 1)), putR g m r3) ∧ OR r3 (l2 ++ acc st i) ∧ Ro (RS_setF r 6 0) r3 := fun r2 l2 h2 q2 hl2 => by
      have := s_account (g := g) (m := m) (r := r2) (l := l2) (by rw [est r2 q2]; exact G) (i := i) (by rw [est r2 q2]; exact hi) h2 hl2
      rw [est r2 q2] at this
      obtain ⟨r3, p1, p2, p3⟩ := this
      unfold x9_writeLedger_j33_12
      rw [R_isO, gb_s, p1, cb_s, I_succ]
      exact ⟨r3, rfl, p2, q2.trans p3⟩
    unfold x9_writeLedger_l12
    rw [R_getR (d := 1) rfl, gb_s, R_s (k := 12) (x := 12) rfl (by decide), gb_s, est r1 q1, hh.1, if_neg (show ¬ I (nH st) ≤ I i by rw [I_le (by omega) (by omega)]; omega)]
    by_cases h0 : i = 0
    · obtain ⟨r3, p1, p2, p3⟩ := e33 r1 _ h1 q1 (by omega)
      rw [if_pos (show I i ≤ 0 by rw [h0]; exact Int32.le_refl 0), p1]
      refine ⟨_, _, rfl, rfl, r3, rfl, ?_, p3⟩
      rw [led, if_pos h0, List.append_nil]
      exact p2
    · obtain ⟨r2, m1, m2, m3⟩ := s_put (g := g) (m := m) (b := 32) (x := 32) h1 (by omega) (by decide) rfl
      obtain ⟨r3, p1, p2, p3⟩ := e33 r2 _ m2 (q1.trans m3) (by rw [List.length_append, List.length_singleton]; omega)
      rw [if_neg (show ¬ I i ≤ 0 by rw [show (0 : Int32) = I 0 from rfl, I_le (by omega) (by decide)]; omega), R_isO, gb_s, m1, cb_s, p1]
      refine ⟨_, _, rfl, rfl, r3, rfl, ?_, p3⟩
      rw [led, if_neg h0]
      exact p2) (fun x g1 h0 => by
    obtain ⟨rfl, r1, rfl, h1, q1⟩ := h0
    unfold x9_writeLedger_l12
    rw [R_getR (d := 1) rfl, gb_s, R_s (k := 12) (x := 12) rfl (by decide), gb_s, (q1.2 1 (by decide)).trans hst, hh.1, if_pos (Int32.le_refl _)]
    exact ⟨_, _, rfl, r1, rfl, h1, q1⟩) (by omega) ⟨rfl, _, rfl, ⟨RSF_at _ _ _, fun i hi => absurd hi (Nat.not_lt_zero _)⟩, fun k hk0 => RSF_ne hk0, fun d _ => rfl⟩
  unfold x9_writeLedger
  rw [R_putI rfl, gb_s, R_putI rfl, gb_s, e1, cb_s, R_getI rfl, gb_s, e2.1]
  exact ⟨r1, rfl, e2, e3⟩
end Led
