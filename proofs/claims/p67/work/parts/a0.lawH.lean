/-! THE LAW'S SIDE. Its own cells: its object, the list, the rows, the hikers; they hold what the array z holds. -/
theorem getI_of {ci : Nat} {g : AH} {a k : Nat} {V : Nat → Value} {x : Int32} (e : g.1 a = some (.inl (ci, V))) (hv : V k = .int x) : getI ci g a k = some x := by
  unfold getI
  rw [e]
  dsimp only
  rw [if_pos rfl, hv]
theorem getR_of {ci : Nat} {g : AH} {a k : Nat} {V : Nat → Value} {x : Nat} (e : g.1 a = some (.inl (ci, V))) (hv : V k = .ref x) : getR ci g a k = some x := by
  unfold getR
  rw [e]
  dsimp only
  rw [if_pos rfl, hv]
theorem isO_of {ci : Nat} {g : AH} {a : Nat} {V : Nat → Value} (e : g.1 a = some (.inl (ci, V))) : isO ci g a = some () := by
  unfold isO
  rw [e]
  dsimp only
  rw [if_pos rfl]
theorem putV_of {ci : Nat} {g : AH} {a k : Nat} {V : Nat → Value} {v : Value} (e : g.1 a = some (.inl (ci, V))) : putV ci g a k v = some (hset g a (.inl (ci, updV V k v))) := by
  unfold putV
  rw [e]
  dsimp only
  rw [if_pos rfl]
theorem out_I {j N : Nat} (h : j < N) (hN : N < 2 ^ 31) : ¬ outI (I j) N := by
  rintro (h1 | h1)
  · rw [show (0 : Int32) = I 0 from rfl, I_lt (by omega) (by omega)] at h1
    omega
  · rw [I_nat (by omega)] at h1
    omega
theorem aldI_of {t : Nat} {g : AH} {a N j : Nat} {f : Nat → Int32} (e : g.1 a = some (.inr (t, N, .inl f))) (h : j < N) (hN : N < 2 ^ 31) : aldI t g a (I j) = some (f j) := by
  unfold aldI
  rw [e]
  dsimp only
  rw [if_pos rfl, if_neg (out_I h hN), I_nat (by omega)]
theorem astI_of {t : Nat} {g : AH} {a N j : Nat} {f : Nat → Int32} {x : Int32} (e : g.1 a = some (.inr (t, N, .inl f))) (h : j < N) (hN : N < 2 ^ 31) : astI t g a (I j) x = some (hset g a (.inr (t, N, .inl (upd f j x)))) := by
  unfold astI
  rw [e]
  dsimp only
  rw [if_pos rfl, if_neg (out_I h hN), I_nat (by omega)]
theorem aldR_of {t : Nat} {g : AH} {a N j x : Nat} {f : Nat → Option Nat} (e : g.1 a = some (.inr (t, N, .inr (.inr f)))) (h : j < N) (hN : N < 2 ^ 31) (hf : f j = some x) : aldR t g a (I j) = some x := by
  unfold aldR
  rw [e]
  dsimp only
  rw [if_pos rfl, if_neg (out_I h hN), I_nat (by omega), hf]
theorem hset_ne {g : AH} {a q : Nat} {e : hE} (h : q ≠ a) : (hset g a e).1 q = g.1 q := if_neg h
theorem hset_at {g : AH} {a : Nat} {e : hE} : (hset g a e).1 a = some e := if_pos rfl
theorem hset_out {g : AH} {p L a : Nat} {b : Nat → hE} {e : hE} (h : a < p ∨ p + L ≤ a) : hset (put g p L b) a e = put (hset g a e) p L b := by
  refine Prod.ext (funext fun x => ?_) rfl
  show (if x = a then some e else if p ≤ x ∧ x < p + L then some (b (x - p)) else g.1 x) = if p ≤ x ∧ x < p + L then some (b (x - p)) else if x = a then some e else g.1 x
  by_cases h1 : x = a
  · subst h1
    rw [if_pos rfl, if_neg (by omega), if_pos rfl]
  · rw [if_neg h1, if_neg h1]
theorem hk_ne {z : St} {i f q : Nat} {v : Int32} (h : 49 + 10 * i + f ≠ q) : hk (upd z q v) i f = hk z i f := upd_ne h
def zi (k : Nat) : Nat := if k < 10 then k + 2 else k - 10
def okC (A : Nat → Nat) (n s9 : Nat) (nx : Int32) (z : St) : Nat → hE → Prop
  | 0, e => ∃ V, e = .inl (10, V) ∧ V 0 = .ref n ∧ V 1 = .ref s9 ∧ V 2 = .int nx ∧ (V 3 = .ref (A 1) ∧ V 4 = .ref (A 2) ∧ V 5 = .ref (A 3) ∧ V 6 = .ref (A 4)) ∧ ∀ k, 7 ≤ k → k < 17 → V k = .int (z (zi k))
  | 1, e => ∃ V mc, e = .inl (12, V) ∧ V 0 = .int mc ∧ V 1 = .ref (A 5) ∧ V 2 = .int (z 12)
  | 2, e => ∃ f, e = .inr (0, 12, .inl f) ∧ ∀ j, j < nB z → f j = z (13 + j)
  | 3, e => ∃ f, e = .inr (0, 12, .inl f) ∧ ∀ j, j < nL z → f j = z (25 + j)
  | 4, e => ∃ f, e = .inr (0, 12, .inl f) ∧ ∀ j, j < nF z → f j = z (37 + j)
  | 5, e => ∃ E, e = .inr (6, 10, .inr (.inr E)) ∧ ∀ k, k < nH z → E k = some (A (2 * k + 6))
  | i + 6, e => if i % 2 = 0 then ∃ V, e = .inl (9, V) ∧ V 0 = .int (I (i / 2)) ∧ (∀ k, 1 ≤ k → k < 7 → V k = .int (hk z (i / 2) (k - 1))) ∧ V 7 = .ref (A (i + 7)) else ∃ f, e = .inr (0, 4, .inl f) ∧ ∀ j, j < 4 → f j = hk z (i / 2) (6 + j)
theorem okC_h {A : Nat → Nat} {n s9 : Nat} {nx : Int32} {z : St} {i : Nat} {e : hE} : okC A n s9 nx z (i + 6) e = (if i % 2 = 0 then ∃ V, e = .inl (9, V) ∧ V 0 = .int (I (i / 2)) ∧ (∀ k, 1 ≤ k → k < 7 → V k = .int (hk z (i / 2) (k - 1))) ∧ V 7 = .ref (A (i + 7)) else ∃ f, e = .inr (0, 4, .inl f) ∧ ∀ j, j < 4 → f j = hk z (i / 2) (6 + j)) := rfl
def LQ (g : AH) (A : Nat → Nat) (n s9 : Nat) (nx : Int32) (z : St) (w : WS) : Prop :=
  (∃ g0, g = putW g0 n w) ∧ (∀ i j, i < 2 * nH z + 6 → j < 2 * nH z + 6 → A i = A j → i = j) ∧ (∀ i, i < 2 * nH z + 6 → A i < n ∨ n + 312 ≤ A i) ∧ (z 12 = I (nH z) ∧ nH z ≤ 10) ∧ ∀ i, i < 2 * nH z + 6 → ∃ e, g.1 (A i) = some e ∧ okC A n s9 nx z i e
section LawH
variable {g : AH} {A : Nat → Nat} {n s9 : Nat} {nx : Int32} {z : St} {w : WS}
theorem okC.keep {z1 : St} {i : Nat} {e : hE} (h : okC A n s9 nx z i e) (h0 : i ≠ 0) (c : ∀ k, 9 ≤ k → k < 49 → z1 k = z k) (c1 : 6 ≤ i → ∀ f, f < 10 → z1 (49 + 10 * ((i - 6) / 2) + f) = z (49 + 10 * ((i - 6) / 2) + f)) {nx1 : Int32} (hb : nB z ≤ 12) (hl : nL z ≤ 12) (hf : nF z ≤ 12) : okC A n s9 nx1 z1 i e := by
  have e9 : nB z1 = nB z := congrArg Int32.toNatClampNeg (c 9 (by decide) (by decide))
  have e10 : nL z1 = nL z := congrArg Int32.toNatClampNeg (c 10 (by decide) (by decide))
  have e11 : nF z1 = nF z := congrArg Int32.toNatClampNeg (c 11 (by decide) (by decide))
  have e12 : nH z1 = nH z := congrArg Int32.toNatClampNeg (c 12 (by decide) (by decide))
  match i, h, h0, c1 with
  | 1, h, _, _ =>
    obtain ⟨V, mc, q1, q2, q3, q4⟩ := h
    exact ⟨V, mc, q1, q2, q3, by rw [q4, c 12 (by decide) (by decide)]⟩
  | 2, h, _, _ =>
    obtain ⟨f, q1, q2⟩ := h
    exact ⟨f, q1, fun j hj => by rw [e9] at hj; rw [q2 j hj, c (13 + j) (by omega) (by omega)]⟩
  | 3, h, _, _ =>
    obtain ⟨f, q1, q2⟩ := h
    exact ⟨f, q1, fun j hj => by rw [e10] at hj; rw [q2 j hj, c (25 + j) (by omega) (by omega)]⟩
  | 4, h, _, _ =>
    obtain ⟨f, q1, q2⟩ := h
    exact ⟨f, q1, fun j hj => by rw [e11] at hj; rw [q2 j hj, c (37 + j) (by omega) (by omega)]⟩
  | 5, h, _, _ =>
    obtain ⟨E, q1, q2⟩ := h
    exact ⟨E, q1, fun k hk1 => q2 k (by rw [e12] at hk1; exact hk1)⟩
  | i + 6, h, _, c1 =>
    have c2 := c1 (by omega)
    rw [show i + 6 - 6 = i by omega] at c2
    rw [okC_h] at h ⊢
    by_cases h2 : i % 2 = 0
    · rw [if_pos h2] at h ⊢
      obtain ⟨V, q1, q2, q3, q4⟩ := h
      exact ⟨V, q1, q2, fun k k1 k2 => by rw [q3 k k1 k2]; exact congrArg Value.int (c2 (k - 1) (by omega)).symm, q4⟩
    · rw [if_neg h2] at h ⊢
      obtain ⟨f, q1, q2⟩ := h
      exact ⟨f, q1, fun j hj => by rw [q2 j hj]; exact (c2 (6 + j) (by omega)).symm⟩
/-- a cell is replaced -/
theorem LQ.set (H : LQ g A n s9 nx z w) {z1 : St} {nx1 : Int32} {i : Nat} (hi : i < 2 * nH z + 6) {e : hE} (h12 : z1 12 = z 12) (he : okC A n s9 nx1 z1 i e) (ho : ∀ j e, j < 2 * nH z + 6 → j ≠ i → okC A n s9 nx z j e → okC A n s9 nx1 z1 j e) : LQ (hset g (A i) e) A n s9 nx1 z1 w := by
  obtain ⟨⟨g0, h1⟩, h2, h3, h4, h5⟩ := H
  have e12 : nH z1 = nH z := congrArg Int32.toNatClampNeg h12
  refine ⟨⟨hset g0 (A i) e, ?_⟩, ?_, ?_, ?_, ?_⟩
  · rw [h1]
    exact hset_out (h3 i hi)
  · rw [e12]; exact h2
  · rw [e12]; exact h3
  · rw [e12, h12]; exact h4
  · intro j hj
    rw [e12] at hj
    by_cases hij : j = i
    · subst hij
      exact ⟨e, hset_at, he⟩
    · obtain ⟨e1, q1, q2⟩ := h5 j hj
      exact ⟨e1, by rw [hset_ne (fun hc => hij (h2 j i hj hi hc))]; exact q1, ho j e1 hj hij q2⟩
/-- the same numbers -/
theorem LQ.congr (H : LQ g A n s9 nx z w) (W : Ws z) {z1 : St} (h : ∀ j, j < 149 → z1 j = z j) : LQ g A n s9 nx z1 w := by
  obtain ⟨h1, h2, h3, h4, h5⟩ := H
  have e12 : nH z1 = nH z := congrArg Int32.toNatClampNeg (h 12 (by decide))
  refine ⟨h1, by rw [e12]; exact h2, by rw [e12]; exact h3, by rw [e12, h 12 (by decide)]; exact h4, fun i hi => ?_⟩
  rw [e12] at hi
  obtain ⟨e, q1, q2⟩ := h5 i hi
  refine ⟨e, q1, ?_⟩
  by_cases h0 : i = 0
  · subst h0
    obtain ⟨V, r1, r2, r3, r4, r5, r6⟩ := q2
    exact ⟨V, r1, r2, r3, r4, r5, fun k k1 k2 => by rw [r6 k k1 k2, h (zi k) (by unfold zi; split <;> omega)]⟩
  · exact q2.keep h0 (fun k k1 k2 => h k (by omega)) (fun h6 f hf => h _ (by omega)) W.b.2 W.l.2 W.f.2.2
/-- the class has acted -/
theorem LQ.world (H : LQ g A n s9 nx z w) : ∃ g0, g = putW g0 n w ∧ ∀ w1, LQ (putW g0 n w1) A n s9 nx z w1 := by
  obtain ⟨⟨g0, h1⟩, h2, h3, h4, h5⟩ := H
  refine ⟨g0, h1, fun w1 => ⟨⟨g0, rfl⟩, h2, h3, h4, fun i hi => ?_⟩⟩
  obtain ⟨e, q1, q2⟩ := h5 i hi
  refine ⟨e, ?_, q2⟩
  rw [h1] at q1
  rw [put_out (h3 i hi)] at q1 ⊢
  exact q1
theorem put_cut {p L : Nat} {b : Nat → hE} {o : Option Nat} : ((put g p L b).1, o) = put (g.1, o) p L b := rfl
theorem LQ.cut (H : LQ g A n s9 nx z w) {o : Option Nat} : LQ (g.1, o) A n s9 nx z w := by
  obtain ⟨⟨g0, h1⟩, h2, h3, h4, h5⟩ := H
  exact ⟨⟨(g0.1, o), by rw [h1]; rfl⟩, h2, h3, h4, h5⟩
theorem LQ.o (H : LQ g A n s9 nx z w) : ∃ V, g.1 (A 0) = some (.inl (10, V)) ∧ V 0 = .ref n ∧ V 1 = .ref s9 ∧ V 2 = .int nx ∧ (V 3 = .ref (A 1) ∧ V 4 = .ref (A 2) ∧ V 5 = .ref (A 3) ∧ V 6 = .ref (A 4)) ∧ ∀ k, 7 ≤ k → k < 17 → V k = .int (z (zi k)) := by
  obtain ⟨e, q1, V, q2, r⟩ := H.2.2.2.2 0 (by omega)
  exact ⟨V, by rw [q1, q2], r⟩
theorem LQ.h (H : LQ g A n s9 nx z w) {i : Nat} (hi : i < nH z) : ∃ V, g.1 (A (2 * i + 6)) = some (.inl (9, V)) ∧ V 0 = .int (I i) ∧ (∀ k, 1 ≤ k → k < 7 → V k = .int (hk z i (k - 1))) ∧ V 7 = .ref (A (2 * i + 7)) := by
  obtain ⟨e, q1, q2⟩ := H.2.2.2.2 (2 * i + 6) (by omega)
  rw [okC_h] at q2
  rw [if_pos (by omega), show 2 * i / 2 = i by omega] at q2
  obtain ⟨V, q2, r⟩ := q2
  exact ⟨V, by rw [q1, q2], r⟩
theorem LQ.u (H : LQ g A n s9 nx z w) {i : Nat} (hi : i < nH z) : ∃ f, g.1 (A (2 * i + 7)) = some (.inr (0, 4, .inl f)) ∧ ∀ j, j < 4 → f j = hk z i (6 + j) := by
  obtain ⟨e, q1, q2⟩ := H.2.2.2.2 (2 * i + 1 + 6) (by omega)
  rw [okC_h] at q2
  rw [if_neg (by omega), show (2 * i + 1) / 2 = i by omega] at q2
  obtain ⟨f, q2, r⟩ := q2
  exact ⟨f, by rw [show 2 * i + 7 = 2 * i + 1 + 6 from rfl, q1, q2], r⟩
theorem LQ.iO (H : LQ g A n s9 nx z w) : isO 10 g (A 0) = some () := by
  obtain ⟨V, e, -⟩ := H.o
  exact isO_of e
theorem LQ.gI (H : LQ g A n s9 nx z w) {k : Nat} (h1 : 7 ≤ k) (h2 : k < 17) : getI 10 g (A 0) k = some (z (zi k)) := by
  obtain ⟨V, e, -, -, -, -, hV⟩ := H.o
  exact getI_of e (hV k h1 h2)
theorem LQ.gN (H : LQ g A n s9 nx z w) : getI 10 g (A 0) 2 = some nx := by
  obtain ⟨V, e, -, -, hV, -⟩ := H.o
  exact getI_of e hV
theorem LQ.gx (H : LQ g A n s9 nx z w) : getR 10 g (A 0) 0 = some n := by
  obtain ⟨V, e, hV, -⟩ := H.o
  exact getR_of e hV
theorem LQ.gs (H : LQ g A n s9 nx z w) : getR 10 g (A 0) 1 = some s9 := by
  obtain ⟨V, e, -, hV, -⟩ := H.o
  exact getR_of e hV
theorem LQ.gl (H : LQ g A n s9 nx z w) : getR 10 g (A 0) 3 = some (A 1) := by
  obtain ⟨V, e, -, -, -, hV, -⟩ := H.o
  exact getR_of e hV.1
theorem LQ.g4 (H : LQ g A n s9 nx z w) : getR 10 g (A 0) 4 = some (A 2) := by
  obtain ⟨V, e, -, -, -, hV, -⟩ := H.o
  exact getR_of e hV.2.1
theorem LQ.g5 (H : LQ g A n s9 nx z w) : getR 10 g (A 0) 5 = some (A 3) := by
  obtain ⟨V, e, -, -, -, hV, -⟩ := H.o
  exact getR_of e hV.2.2.1
theorem LQ.g6 (H : LQ g A n s9 nx z w) : getR 10 g (A 0) 6 = some (A 4) := by
  obtain ⟨V, e, -, -, -, hV, -⟩ := H.o
  exact getR_of e hV.2.2.2
theorem LQ.l (H : LQ g A n s9 nx z w) : ∃ V mc, g.1 (A 1) = some (.inl (12, V)) ∧ V 0 = .int mc ∧ V 1 = .ref (A 5) ∧ V 2 = .int (z 12) := by
  obtain ⟨e, q1, V, mc, q2, r⟩ := H.2.2.2.2 1 (by omega)
  exact ⟨V, mc, by rw [q1, q2], r⟩
theorem LQ.isL (H : LQ g A n s9 nx z w) : isO 12 g (A 1) = some () := by
  obtain ⟨V, mc, e, -⟩ := H.l
  exact isO_of e
theorem LQ.size (H : LQ g A n s9 nx z w) : jx4a65c_size_8abf5 (A 1) g = some (I (nH z), g) := by
  obtain ⟨V, mc, e, -, -, h2⟩ := H.l
  unfold jx4a65c_size_8abf5
  rw [getI_of e h2, gb_s, H.2.2.2.1.1]
theorem chk_I {a b : Nat} (h : a < b) (hb : b < 2 ^ 31) : chkI (I a) (I b) = some () := by
  unfold chkI
  rw [if_neg (by rw [show (0 : Int32) = I 0 from rfl, I_lt (by omega) (by omega)]; omega), if_pos (by rw [I_lt (by omega) hb]; exact h)]
theorem LQ.get (H : LQ g A n s9 nx z w) {i : Nat} (hi : i < nH z) : jx4a65c_get_915e3 (A 1) (I i) g = some (A (2 * i + 6), g) := by
  obtain ⟨V, mc, e, -, h1, h2⟩ := H.l
  have hN := H.2.2.2.1
  obtain ⟨e5, q1, E, q2, q3⟩ := H.2.2.2.2 5 (by omega)
  have e5' : g.1 (A 5) = some (.inr (6, 10, .inr (.inr E))) := by rw [q1, q2]
  unfold jx4a65c_get_915e3 jx4a65c_elementData_915e3
  rw [getI_of e h2, gb_s, hN.1, chk_I hi (by omega), gb_s, H.isL, gb_s, getR_of e h1, gb_s, aldR_of e5' (by omega) (by decide) (q3 i hi), gb_s, cb_s]
theorem LQ.isK (H : LQ g A n s9 nx z w) {i : Nat} (hi : i < nH z) : isO 9 g (A (2 * i + 6)) = some () := by
  obtain ⟨V, e, -⟩ := H.h hi
  exact isO_of e
theorem LQ.k0 (H : LQ g A n s9 nx z w) {i : Nat} (hi : i < nH z) : getI 9 g (A (2 * i + 6)) 0 = some (I i) := by
  obtain ⟨V, e, hV, -⟩ := H.h hi
  exact getI_of e hV
theorem LQ.k (H : LQ g A n s9 nx z w) {i k : Nat} (hi : i < nH z) (h1 : 1 ≤ k) (h2 : k < 7) : getI 9 g (A (2 * i + 6)) k = some (hk z i (k - 1)) := by
  obtain ⟨V, e, -, hV, -⟩ := H.h hi
  exact getI_of e (hV k h1 h2)
theorem LQ.k7 (H : LQ g A n s9 nx z w) {i : Nat} (hi : i < nH z) : getR 9 g (A (2 * i + 6)) 7 = some (A (2 * i + 7)) := by
  obtain ⟨V, e, -, -, hV⟩ := H.h hi
  exact getR_of e hV
theorem LQ.hr (H : LQ g A n s9 nx z w) {i j : Nat} (hi : i < nH z) (hj : j < 4) : aldI 0 g (A (2 * i + 7)) (I j) = some (hk z i (6 + j)) := by
  obtain ⟨f, e, hf⟩ := H.u hi
  rw [aldI_of e hj (by decide), hf j hj]
theorem LQ.a2 (H : LQ g A n s9 nx z w) {j : Nat} (hj : j < nB z) (h : nB z ≤ 12) : aldI 0 g (A 2) (I j) = some (z (13 + j)) := by
  obtain ⟨e, q1, f, q2, q3⟩ := H.2.2.2.2 2 (by omega)
  have e5' : g.1 (A 2) = some (.inr (0, 12, .inl f)) := by rw [q1, q2]
  rw [aldI_of e5' (by omega) (by decide), q3 j hj]
theorem LQ.a3 (H : LQ g A n s9 nx z w) {j : Nat} (hj : j < nL z) (h : nL z ≤ 12) : aldI 0 g (A 3) (I j) = some (z (25 + j)) := by
  obtain ⟨e, q1, f, q2, q3⟩ := H.2.2.2.2 3 (by omega)
  have e5' : g.1 (A 3) = some (.inr (0, 12, .inl f)) := by rw [q1, q2]
  rw [aldI_of e5' (by omega) (by decide), q3 j hj]
theorem LQ.a4 (H : LQ g A n s9 nx z w) {j : Nat} (hj : j < nF z) (h : nF z ≤ 12) : aldI 0 g (A 4) (I j) = some (z (37 + j)) := by
  obtain ⟨e, q1, f, q2, q3⟩ := H.2.2.2.2 4 (by omega)
  have e5' : g.1 (A 4) = some (.inr (0, 12, .inl f)) := by rw [q1, q2]
  rw [aldI_of e5' (by omega) (by decide), q3 j hj]
/-! writing -/
theorem LQ.putL (H : LQ g A n s9 nx z w) (W : Ws z) {k : Nat} (h1 : 10 ≤ k) (h2 : k < 17) (v : Int32) : ∃ g1, putV 10 g (A 0) k (.int v) = some g1 ∧ LQ g1 A n s9 nx (upd z (zi k) v) w := by
  obtain ⟨V, e, q0, q1, q2, q3, q4⟩ := H.o
  have hz : zi k ≤ 6 := by unfold zi; rw [if_neg (by omega)]; omega
  refine ⟨_, putV_of e, H.set (by omega) (upd_ne (by omega)) ⟨_, rfl, ?_, ?_, ?_, ?_, ?_⟩ (fun j e hj hj0 ho => ho.keep hj0 (fun x x1 x2 => upd_ne (by omega)) (fun h6 f hf => upd_ne (by omega)) W.b.2 W.l.2 W.f.2.2)⟩
  · exact (if_neg (by omega)).trans q0
  · exact (if_neg (by omega)).trans q1
  · exact (if_neg (by omega)).trans q2
  · exact ⟨(if_neg (by omega)).trans q3.1, (if_neg (by omega)).trans q3.2.1, (if_neg (by omega)).trans q3.2.2.1, (if_neg (by omega)).trans q3.2.2.2⟩
  · intro j j1 j2
    by_cases hj : j = k
    · subst hj
      show (if j = j then Value.int v else V j) = .int (if zi j = zi j then v else z (zi j))
      rw [if_pos rfl, if_pos rfl]
    · have hne : zi j ≠ zi k := by
        unfold zi
        split <;> split <;> omega
      show (if j = k then Value.int v else V j) = .int (if zi j = zi k then v else z (zi j))
      rw [if_neg hj, if_neg hne]
      exact q4 j j1 j2
theorem LQ.putN (H : LQ g A n s9 nx z w) (W : Ws z) (v : Int32) : ∃ g1, putV 10 g (A 0) 2 (.int v) = some g1 ∧ LQ g1 A n s9 v z w ∧ g1.2 = g.2 := by
  obtain ⟨V, e, q0, q1, q2, q3, q4⟩ := H.o
  refine ⟨_, putV_of e, H.set (by omega) rfl ⟨_, rfl, ?_, ?_, ?_, ?_, ?_⟩ (fun j e hj hj0 ho => ho.keep hj0 (fun x x1 x2 => rfl) (fun h6 f hf => rfl) W.b.2 W.l.2 W.f.2.2), rfl⟩
  · exact (if_neg (by omega)).trans q0
  · exact (if_neg (by omega)).trans q1
  · exact if_pos rfl
  · exact ⟨(if_neg (by omega)).trans q3.1, (if_neg (by omega)).trans q3.2.1, (if_neg (by omega)).trans q3.2.2.1, (if_neg (by omega)).trans q3.2.2.2⟩
  · intro j j1 j2
    exact (if_neg (by omega)).trans (q4 j j1 j2)
theorem okC.hik {z1 : St} {i0 i : Nat} {e : hE} (h : okC A n s9 nx z i e) (W : Ws z) (c : ∀ k, k < 49 → z1 k = z k) (c1 : ∀ x f, x ≠ i0 → f < 10 → z1 (49 + 10 * x + f) = z (49 + 10 * x + f)) (hi : i ≠ 2 * i0 + 6 ∧ i ≠ 2 * i0 + 7) : okC A n s9 nx z1 i e := by
  by_cases h0 : i = 0
  · subst h0
    obtain ⟨V, r1, r2, r3, r4, r5, r6⟩ := h
    exact ⟨V, r1, r2, r3, r4, r5, fun k k1 k2 => by rw [r6 k k1 k2, c (zi k) (by unfold zi; split <;> omega)]⟩
  · exact h.keep h0 (fun k k1 k2 => c k (by omega)) (fun h6 f hf => c1 _ f (by omega) hf) W.b.2 W.l.2 W.f.2.2
theorem LQ.putK (H : LQ g A n s9 nx z w) (W : Ws z) {i k : Nat} (hi : i < nH z) (h1 : 1 ≤ k) (h2 : k < 7) (v : Int32) : ∃ g1, putV 9 g (A (2 * i + 6)) k (.int v) = some g1 ∧ LQ g1 A n s9 nx (upd z (49 + 10 * i + (k - 1)) v) w := by
  obtain ⟨V, e, q0, q1, q2⟩ := H.h hi
  refine ⟨_, putV_of e, H.set (by omega) (upd_ne (by omega)) ?_ (fun j e hj hj0 ho => ?_)⟩
  · rw [okC_h]
    rw [if_pos (by omega), show 2 * i / 2 = i by omega]
    refine ⟨_, rfl, (if_neg (by omega)).trans q0, fun j j1 j2 => ?_, (if_neg (by omega)).trans q2⟩
    by_cases hj : j = k
    · subst hj
      show (if j = j then Value.int v else V j) = .int (if 49 + 10 * i + (j - 1) = 49 + 10 * i + (j - 1) then v else z (49 + 10 * i + (j - 1)))
      rw [if_pos rfl, if_pos rfl]
    · show (if j = k then Value.int v else V j) = .int (if 49 + 10 * i + (j - 1) = 49 + 10 * i + (k - 1) then v else z (49 + 10 * i + (j - 1)))
      rw [if_neg hj, if_neg (by omega)]
      exact q1 j j1 j2
  · by_cases h7 : j = 2 * i + 7
    · subst h7
      show okC A n s9 nx _ (2 * i + 1 + 6) e
      have ho : okC A n s9 nx z (2 * i + 1 + 6) e := ho
      rw [okC_h] at ho ⊢
      rw [if_neg (by omega), show (2 * i + 1) / 2 = i by omega] at ho ⊢
      obtain ⟨f, r1, r2⟩ := ho
      exact ⟨f, r1, fun j hj => (r2 j hj).trans (hk_ne (by omega)).symm⟩
    · exact ho.hik W (i0 := i) (fun x hx => upd_ne (by omega)) (fun x f hx hf => upd_ne (by omega)) ⟨hj0, h7⟩
theorem LQ.putO (H : LQ g A n s9 nx z w) (W : Ws z) {i k : Nat} (hi : i < nH z) (h2 : k < 4) (v : Int32) : ∃ g1, astI 0 g (A (2 * i + 7)) (I k) v = some g1 ∧ LQ g1 A n s9 nx (upd z (49 + 10 * i + (6 + k)) v) w := by
  obtain ⟨f, e, q0⟩ := H.u hi
  refine ⟨_, astI_of e h2 (by decide), H.set (by omega) (upd_ne (by omega)) ?_ (fun j e hj hj0 ho => ?_)⟩
  · show okC A n s9 nx _ (2 * i + 1 + 6) _
    rw [okC_h]
    rw [if_neg (by omega), show (2 * i + 1) / 2 = i by omega]
    refine ⟨_, rfl, fun j j1 => ?_⟩
    by_cases hj : j = k
    · subst hj
      show (if j = j then v else f j) = if 49 + 10 * i + (6 + j) = 49 + 10 * i + (6 + j) then v else z (49 + 10 * i + (6 + j))
      rw [if_pos rfl, if_pos rfl]
    · show (if j = k then v else f j) = if 49 + 10 * i + (6 + j) = 49 + 10 * i + (6 + k) then v else z (49 + 10 * i + (6 + j))
      rw [if_neg hj, if_neg (by omega)]
      exact q0 j j1
  · by_cases h7 : j = 2 * i + 6
    · subst h7
      rw [okC_h] at ho ⊢
      rw [if_pos (by omega), show 2 * i / 2 = i by omega] at ho ⊢
      obtain ⟨V, r1, r2, r3, r4⟩ := ho
      exact ⟨V, r1, r2, fun k k1 k2 => (r3 k k1 k2).trans (congrArg Value.int (hk_ne (by omega)).symm), r4⟩
    · exact ho.hik W (i0 := i) (fun x hx => upd_ne (by omega)) (fun x f hx hf => upd_ne (by omega)) ⟨h7, hj0⟩
end LawH
