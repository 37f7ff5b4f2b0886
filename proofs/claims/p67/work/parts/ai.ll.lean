/-! the law while it loads -/
def hkI (t : H3) (f : Nat) : Int32 := match f with
  | 0 => I t.1
  | 1 => I t.2.1
  | 2 => I t.2.2
  | 3 => 0
  | _ => -1
abbrev Rw3 : Type := (Nat → Int32) × (Nat → Int32) × (Nat → Int32)
def okL (A : Nat → Nat) (k9 : KK) (n K : Nat) (F : Nat → Int32) (f : Rw3) (hs : List H3) (b : Bool) : Nat → hE → Prop
  | 0, e => ∃ V, e = .inl (10, V) ∧ V 0 = .ref n ∧ V 1 = .ref k9.2.1 ∧ V 2 = .int (I K) ∧ (V 3 = .ref (A 1) ∧ V 4 = .ref (A 2) ∧ V 5 = .ref (A 3) ∧ V 6 = .ref (A 4)) ∧ ∀ k, 7 ≤ k → k < 17 → V k = .int (F k)
  | 1, e => ∃ V mc, e = .inl (12, V) ∧ V 0 = .int mc ∧ V 1 = .ref (if b = true then A 5 else k9.1) ∧ V 2 = .int (I hs.length)
  | 2, e => e = .inr (0, 12, .inl f.1)
  | 3, e => e = .inr (0, 12, .inl f.2.1)
  | 4, e => e = .inr (0, 12, .inl f.2.2)
  | 5, e => ∃ E, e = .inr (6, 10, .inr (.inr E)) ∧ ∀ k, k < hs.length → E k = some (A (2 * k + 6))
  | i + 6, e => if i % 2 = 0 then ∃ V, e = .inl (9, V) ∧ V 0 = .int (I (i / 2)) ∧ (∀ k, 1 ≤ k → k < 7 → V k = .int (hkI (hs.getD (i / 2) (0, 0, 0)) (k - 1))) ∧ V 7 = .ref (A (i + 7)) else ∃ h, e = .inr (0, 4, .inl h) ∧ ∀ j, j < 4 → h j = (0 : Int32)
def DD (len : Nat) (b : Bool) (i : Nat) : Prop := i < 2 * len + 6 ∧ (i = 5 → b = true)
def LL (g : AH) (A : Nat → Nat) (k9 : KK) (n K : Nat) (F : Nat → Int32) (f : Rw3) (hs : List H3) (b : Bool) (w : WS) (N sb val : Nat) : Prop :=
  putW g n w = g ∧ (∀ i j, DD hs.length b i → DD hs.length b j → A i = A j → i = j) ∧ (∀ i, DD hs.length b i → (A i < n ∨ n + 312 ≤ A i) ∧ A i < N ∧ A i ≠ sb ∧ A i ≠ val) ∧ (n + 312 ≤ N ∧ n + 312 ≤ sb ∧ n + 312 ≤ val) ∧ (hs.length ≤ 7 ∧ (b = false → hs = []) ∧ (b = true → A 5 ≠ k9.1) ∧ k9.1 < n) ∧ ∀ i, DD hs.length b i → ∃ e, g.1 (A i) = some e ∧ okL A k9 n K F f hs b i e
theorem putW_iff {g : AH} {n : Nat} {w : WS} : putW g n w = g ↔ ∀ d, d < 312 → g.1 (n + d) = some (cellsW n w d) := by
  constructor
  · intro h d hd
    rw [← h]
    show (if n ≤ n + d ∧ n + d < n + 312 then some (cellsW n w (n + d - n)) else _) = _
    rw [if_pos (by omega), Nat.add_sub_cancel_left]
  · intro h
    refine Prod.ext (funext fun q => ?_) rfl
    show (if n ≤ q ∧ q < n + 312 then some (cellsW n w (q - n)) else g.1 q) = g.1 q
    by_cases hq : n ≤ q ∧ q < n + 312
    · rw [if_pos hq, ← h (q - n) (by omega), show n + (q - n) = q by omega]
    · rw [if_neg hq]
section LLs
variable {g : AH} {A : Nat → Nat} {k9 : KK} {n K : Nat} {F : Nat → Int32} {f : Rw3} {hs : List H3} {b : Bool} {w : WS} {N sb val : Nat}
theorem DD0 {len : Nat} {b : Bool} {i : Nat} (h : i < 5) : DD len b i := ⟨by omega, fun hc => by omega⟩
theorem LL.fr (H : LL g A k9 n K F f hs b w N sb val) {g1 : AH} {N1 sb1 val1 : Nat} (h : ∀ a, a < N → a ≠ sb → a ≠ val → g1.1 a = g.1 a) (hN : N ≤ N1) (hs1 : sb1 = sb ∨ N ≤ sb1) (hv1 : val1 = val ∨ N ≤ val1) : LL g1 A k9 n K F f hs b w N1 sb1 val1 := by
  obtain ⟨c1, c2, c3, c4, c5, c6⟩ := H
  refine ⟨putW_iff.mpr (fun d hd => ?_), c2, fun i hi => ?_, ⟨by omega, by omega, by omega⟩, c5, fun i hi => ?_⟩
  · rw [h (n + d) (by omega) (by omega) (by omega)]
    exact putW_iff.mp c1 d hd
  · obtain ⟨d1, d2, d3, d4⟩ := c3 i hi
    exact ⟨d1, by omega, by omega, by omega⟩
  · obtain ⟨d1, d2, d3, d4⟩ := c3 i hi
    obtain ⟨e, e1, e2⟩ := c6 i hi
    exact ⟨e, by rw [h _ d2 d3 d4]; exact e1, e2⟩
/-- a cell of the law's is replaced -/
theorem LL.set (H : LL g A k9 n K F f hs b w N sb val) {K1 : Nat} {F1 : Nat → Int32} {f1 : Rw3} {i : Nat} (hi : i < 5) {e : hE} (he : okL A k9 n K1 F1 f1 hs b i e) (ho : ∀ j e, j ≠ i → okL A k9 n K F f hs b j e → okL A k9 n K1 F1 f1 hs b j e) : LL (hset g (A i) e) A k9 n K1 F1 f1 hs b w N sb val := by
  obtain ⟨c1, c2, c3, c4, c5, c6⟩ := H
  refine ⟨putW_iff.mpr (fun d hd => ?_), c2, c3, c4, c5, fun j hj => ?_⟩
  · rw [hset_ne (by have := (c3 i (DD0 hi)).1; omega)]
    exact putW_iff.mp c1 d hd
  · by_cases hij : j = i
    · subst hij
      exact ⟨e, hset_at, he⟩
    · obtain ⟨e1, q1, q2⟩ := c6 j hj
      exact ⟨e1, by rw [hset_ne (fun hc => hij (c2 j i hj (DD0 hi) hc))]; exact q1, ho j e1 hij q2⟩
theorem LL.o (H : LL g A k9 n K F f hs b w N sb val) : ∃ V, g.1 (A 0) = some (.inl (10, V)) ∧ V 0 = .ref n ∧ V 1 = .ref k9.2.1 ∧ V 2 = .int (I K) ∧ (V 3 = .ref (A 1) ∧ V 4 = .ref (A 2) ∧ V 5 = .ref (A 3) ∧ V 6 = .ref (A 4)) ∧ ∀ k, 7 ≤ k → k < 17 → V k = .int (F k) := by
  obtain ⟨e, q1, V, q2, r⟩ := H.2.2.2.2.2 0 (DD0 (by decide))
  exact ⟨V, by rw [q1, q2], r⟩
theorem LL.iO (H : LL g A k9 n K F f hs b w N sb val) : isO 10 g (A 0) = some () := by
  obtain ⟨V, e, -⟩ := H.o
  exact isO_of e
theorem LL.gI (H : LL g A k9 n K F f hs b w N sb val) {k : Nat} (h1 : 7 ≤ k) (h2 : k < 17) : getI 10 g (A 0) k = some (F k) := by
  obtain ⟨V, e, -, -, -, -, hV⟩ := H.o
  exact getI_of e (hV k h1 h2)
theorem LL.gN (H : LL g A k9 n K F f hs b w N sb val) : getI 10 g (A 0) 2 = some (I K) := by
  obtain ⟨V, e, -, -, hV, -⟩ := H.o
  exact getI_of e hV
theorem LL.gx (H : LL g A k9 n K F f hs b w N sb val) : getR 10 g (A 0) 0 = some n := by
  obtain ⟨V, e, hV, -⟩ := H.o
  exact getR_of e hV
theorem LL.gs (H : LL g A k9 n K F f hs b w N sb val) : getR 10 g (A 0) 1 = some k9.2.1 := by
  obtain ⟨V, e, -, hV, -⟩ := H.o
  exact getR_of e hV
theorem LL.gl (H : LL g A k9 n K F f hs b w N sb val) : getR 10 g (A 0) 3 = some (A 1) := by
  obtain ⟨V, e, -, -, -, hV, -⟩ := H.o
  exact getR_of e hV.1
theorem LL.g4 (H : LL g A k9 n K F f hs b w N sb val) : getR 10 g (A 0) 4 = some (A 2) := by
  obtain ⟨V, e, -, -, -, hV, -⟩ := H.o
  exact getR_of e hV.2.1
theorem LL.g5 (H : LL g A k9 n K F f hs b w N sb val) : getR 10 g (A 0) 5 = some (A 3) := by
  obtain ⟨V, e, -, -, -, hV, -⟩ := H.o
  exact getR_of e hV.2.2.1
theorem LL.g6 (H : LL g A k9 n K F f hs b w N sb val) : getR 10 g (A 0) 6 = some (A 4) := by
  obtain ⟨V, e, -, -, -, hV, -⟩ := H.o
  exact getR_of e hV.2.2.2
theorem LL.l (H : LL g A k9 n K F f hs b w N sb val) : ∃ V mc, g.1 (A 1) = some (.inl (12, V)) ∧ V 0 = .int mc ∧ V 1 = .ref (if b = true then A 5 else k9.1) ∧ V 2 = .int (I hs.length) := by
  obtain ⟨e, q1, V, mc, q2, r⟩ := H.2.2.2.2.2 1 (DD0 (by decide))
  exact ⟨V, mc, by rw [q1, q2], r⟩
theorem LL.isL (H : LL g A k9 n K F f hs b w N sb val) : isO 12 g (A 1) = some () := by
  obtain ⟨V, mc, e, -⟩ := H.l
  exact isO_of e
theorem LL.size (H : LL g A k9 n K F f hs b w N sb val) : jx4a65c_size_8abf5 (A 1) g = some (I hs.length, g) := by
  obtain ⟨V, mc, e, -, -, h2⟩ := H.l
  unfold jx4a65c_size_8abf5
  rw [getI_of e h2, gb_s]
theorem okL.law {K1 : Nat} {F1 : Nat → Int32} {j : Nat} {e : hE} (h0 : j ≠ 0) (h : okL A k9 n K F f hs b j e) : okL A k9 n K1 F1 f hs b j e := by
  match j, h0, h with
  | 1, _, h => exact h
  | 2, _, h => exact h
  | 3, _, h => exact h
  | 4, _, h => exact h
  | 5, _, h => exact h
  | i + 6, _, h => exact h
theorem LL.put (H : LL g A k9 n K F f hs b w N sb val) {k : Nat} (h1 : 7 ≤ k) (h2 : k < 17) (v : Int32) : ∃ g1, putV 10 g (A 0) k (.int v) = some g1 ∧ LL g1 A k9 n K (upd F k v) f hs b w N sb val ∧ g1.2 = g.2 ∧ ∀ a, a ≠ A 0 → g1.1 a = g.1 a := by
  obtain ⟨V, e, q0, q1, q2, q3, q4⟩ := H.o
  refine ⟨_, putV_of e, H.set (by decide) ⟨_, rfl, (if_neg (by omega)).trans q0, (if_neg (by omega)).trans q1, (if_neg (by omega)).trans q2, ⟨(if_neg (by omega)).trans q3.1, (if_neg (by omega)).trans q3.2.1, (if_neg (by omega)).trans q3.2.2.1, (if_neg (by omega)).trans q3.2.2.2⟩, fun j j1 j2 => ?_⟩ (fun j e hj h => h.law hj), rfl, fun a ha => hset_ne ha⟩
  by_cases hj : j = k
  · subst hj
    show (if j = j then Value.int v else V j) = .int (if j = j then v else F j)
    rw [if_pos rfl, if_pos rfl]
  · show (if j = k then Value.int v else V j) = .int (if j = k then v else F j)
    rw [if_neg hj, if_neg hj]
    exact q4 j j1 j2
theorem LL.putN (H : LL g A k9 n K F f hs b w N sb val) (K1 : Nat) : ∃ g1, putV 10 g (A 0) 2 (.int (I K1)) = some g1 ∧ LL g1 A k9 n K1 F f hs b w N sb val ∧ g1.2 = g.2 ∧ ∀ a, a ≠ A 0 → g1.1 a = g.1 a := by
  obtain ⟨V, e, q0, q1, q2, q3, q4⟩ := H.o
  refine ⟨_, putV_of e, H.set (by decide) ⟨_, rfl, (if_neg (by omega)).trans q0, (if_neg (by omega)).trans q1, if_pos rfl, ⟨(if_neg (by omega)).trans q3.1, (if_neg (by omega)).trans q3.2.1, (if_neg (by omega)).trans q3.2.2.1, (if_neg (by omega)).trans q3.2.2.2⟩, fun j j1 j2 => (if_neg (by omega)).trans (q4 j j1 j2)⟩ (fun j e hj h => h.law hj), rfl, fun a ha => hset_ne ha⟩
theorem LL.r2 (H : LL g A k9 n K F f hs b w N sb val) {j : Nat} (hj : j < 12) (v : Int32) : ∃ g1, astI 0 g (A 2) (I j) v = some g1 ∧ LL g1 A k9 n K F (upd f.1 j v, f.2) hs b w N sb val ∧ g1.2 = g.2 ∧ ∀ a, a ≠ A 2 → g1.1 a = g.1 a := by
  obtain ⟨e, q1, q2⟩ := H.2.2.2.2.2 2 (DD0 (by decide))
  rw [show e = .inr (0, 12, .inl f.1) from q2] at q1
  refine ⟨_, astI_of q1 hj (by decide), H.set (i := 2) (by decide) rfl (fun j e hj h => ?_), rfl, fun a ha => hset_ne ha⟩
  match j, hj, h with
  | 0, _, h => exact h
  | 1, _, h => exact h
  | 3, _, h => exact h
  | 4, _, h => exact h
  | 5, _, h => exact h
  | i + 6, _, h => exact h
theorem LL.r3 (H : LL g A k9 n K F f hs b w N sb val) {j : Nat} (hj : j < 12) (v : Int32) : ∃ g1, astI 0 g (A 3) (I j) v = some g1 ∧ LL g1 A k9 n K F (f.1, upd f.2.1 j v, f.2.2) hs b w N sb val ∧ g1.2 = g.2 ∧ ∀ a, a ≠ A 3 → g1.1 a = g.1 a := by
  obtain ⟨e, q1, q2⟩ := H.2.2.2.2.2 3 (DD0 (by decide))
  rw [show e = .inr (0, 12, .inl f.2.1) from q2] at q1
  refine ⟨_, astI_of q1 hj (by decide), H.set (i := 3) (by decide) rfl (fun j e hj h => ?_), rfl, fun a ha => hset_ne ha⟩
  match j, hj, h with
  | 0, _, h => exact h
  | 1, _, h => exact h
  | 2, _, h => exact h
  | 4, _, h => exact h
  | 5, _, h => exact h
  | i + 6, _, h => exact h
theorem LL.r4 (H : LL g A k9 n K F f hs b w N sb val) {j : Nat} (hj : j < 12) (v : Int32) : ∃ g1, astI 0 g (A 4) (I j) v = some g1 ∧ LL g1 A k9 n K F (f.1, f.2.1, upd f.2.2 j v) hs b w N sb val ∧ g1.2 = g.2 ∧ ∀ a, a ≠ A 4 → g1.1 a = g.1 a := by
  obtain ⟨e, q1, q2⟩ := H.2.2.2.2.2 4 (DD0 (by decide))
  rw [show e = .inr (0, 12, .inl f.2.2) from q2] at q1
  refine ⟨_, astI_of q1 hj (by decide), H.set (i := 4) (by decide) rfl (fun j e hj h => ?_), rfl, fun a ha => hset_ne ha⟩
  match j, hj, h with
  | 0, _, h => exact h
  | 1, _, h => exact h
  | 2, _, h => exact h
  | 3, _, h => exact h
  | 5, _, h => exact h
  | i + 6, _, h => exact h
theorem LL.draw (H : LL g A k9 n K F f hs b w N sb val) (hK : K < 2 ^ 30) (hL : k9.2.2.1 < 2 ^ 30) {m : Nat} (h0 : 0 < m) (h2 : m < 2 ^ 31) : ∃ v g1, v < m ∧ l_draw k9 (A 0) (I m) g = some (I v, g1) ∧ LL g1 A k9 n (K + 1) F f hs b w N sb val ∧ g1.2 = g.2 ∧ ∀ a, a ≠ A 0 → g1.1 a = g.1 a := by
  obtain ⟨g1, p1, H1, p2, p3⟩ := H.putN (K + 1)
  have hl1 : (if 1 < Int32.ofNat k9.2.2.1 then Int32.ofNat k9.2.2.1 else 1) = I (max 1 k9.2.2.1) := by
    show (if I 1 < I k9.2.2.1 then I k9.2.2.1 else I 1) = _
    by_cases h : 1 < k9.2.2.1
    · rw [if_pos (by rw [I_lt (by decide) (by omega)]; exact h), Nat.max_eq_right (by omega)]
    · rw [if_neg (by rw [I_lt (by decide) (by omega)]; exact h), Nat.max_eq_left (by omega)]
  have hm1 : 0 < max 1 k9.2.2.1 := by omega
  have hm2 : max 1 k9.2.2.1 < 2 ^ 31 := by omega
  obtain ⟨x, ex⟩ := s_at (k9 := k9) (K % max 1 k9.2.2.1) (by have := Nat.mod_lt K hm1; omega) (by omega) g
  have hne : ¬ I m = 0 := fun hc => by
    have := (I_eq h2 (by decide)).mp (show I m = I 0 from hc)
    omega
  unfold l_draw
  rw [H.gs, gb_s, H.gN, gb_s, gb_s]
  unfold slenS
  rw [if_pos rfl, gb_s, hl1, if_neg (fun hc => by
    have := (I_eq hm2 (by decide)).mp (show I (max 1 k9.2.2.1) = I 0 from hc)
    omega), mod_I (by omega) hm2 hm1, ex, cb_s, H.gN, gb_s, gb_s, I_succ, p1, gb_s, if_neg hne]
  obtain ⟨v, v1, v2⟩ := mod_m ((((x + (I K * 668265263)) ^^^ (ushr (x + (I K * 668265263)) 15)) * 739982445) ^^^ (ushr (((x + (I K * 668265263)) ^^^ (ushr (x + (I K * 668265263)) 15)) * 739982445) 13)) h0 h2
  exact ⟨v, g1, v1, by rw [v2], H1, p2, p3⟩
theorem Bu.fr {m c : Nat} {l : List Int32} (B : Bu g m sb val N l c) {g1 : AH} (h2 : g1.2 = g.2) (hs : g1.1 sb = g.1 sb) (hv : g1.1 val = g.1 val) : Bu g1 m sb val N l c := by
  obtain ⟨h1, h3, V, cap, f, e1, v0, v1, v3, e2, r⟩ := B
  exact ⟨h2.trans h1, h3, V, cap, f, hs.trans e1, v0, v1, v3, hv.trans e2, r⟩
end LLs
