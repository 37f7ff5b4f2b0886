/-! the law's cases: what each looks like -/
/-- a case goes on to the next call -/
def Go (n : Nat) (a4 : Int32) (R : Option (((Int32) ⊕ ((Unit) ⊕ Int32)) × AH)) : Prop := ∃ g' w', R = some (.inl (a4 + 3), putW g' n w') ∧ Iv w'
theorem go_if {c : Prop} [Decidable c] {n : Nat} {a4 : Int32} {A B : Option (((Int32) ⊕ ((Unit) ⊕ Int32)) × AH)} (h1 : Go n a4 A) (h2 : Go n a4 B) : Go n a4 (if c then A else B) := by
  by_cases h : c
  · rw [if_pos h]; exact h1
  · rw [if_neg h]; exact h2
theorem lg_self (x : Int64) : lg_cmp x x = 0 := by
  unfold lg_cmp
  rw [if_neg (by simp), if_pos rfl]
section Cases
variable {n : Nat} {w : WS} {a4 : Int32}
theorem W_isO9 {g : AH} : isO 9 (putW g n w) (n + 312) = some () := by
  have := R_isO (g := putW g n w) (m := n + 312) (r := w.2.2.2.2.2.2.1)
  rw [W_R] at this
  exact this
theorem W_thrown {g : AH} : x9_thrown (n + 312) (putW g n w) = some ((wr w).1 6, putW g n w) := by
  have := R_getI (g := putW g n w) (m := n + 312) (r := w.2.2.2.2.2.2.1) (k := 6) rfl
  rw [W_R] at this
  unfold x9_thrown
  rw [this, gb_s]
theorem cs_K {α : Type} {K : Nat → AH → Option (α × AH)} {g : AH} {w1 : WS} {v : α} {r1 : RS} (e : wr w1 = wr w) (h : K (n + 312) (putR (putW g n w1) (n + 312) (wr w)) = some (v, putR (putW g n w1) (n + 312) r1)) : K (n + 312) (putW g n w1) = some (v, putW g n (wR w1 r1)) := by
  rw [← e, W_R, W_setR] at h
  exact h
theorem Iv_JR {w1 : WS} {z : Nat → Int64} {r1 : RS} (h : Iv (wR w1 r1)) : Iv (wR (wJ w1 z) r1) := h
theorem cs_B {E : Nat → String} {F : AH → Option ((Int32 ⊕ String) × AH)} {K : Nat → AH → Option (Int32 × AH)} {X : String → AH → Option (Int32 × AH)} (Q : Qt n w F K E) (hX : ∀ k, Kx E k → ∀ g2, X (E k) g2 = some (I k, g2)) (g : AH) : Go n a4 (cb (gb (isO 8 (putW g n w) n) fun _ => cb (F (putW g n w)) fun r1 g2 => Sum.elim (fun v6 => gb (astL g2 (n + 323) 0 (v6.toInt64)) fun g8 => some (0, g8)) (fun w7 => X w7 g2) r1) fun r3 g4 => gb (isO 9 g4 (n + 312)) fun _ => cb (K (n + 312) g4) fun r8 g9 => gb (isO 9 g9 (n + 312)) fun _ => cb (x9_thrown (n + 312) g9) fun r13 g14 => if r13 = r3 then
  if r3 = 0 then
  gb (aldL g14 (n + 323) 0) fun x20 => if (lg_cmp x20 (r8.toInt64)) = 0 then
  some (.inl (a4 + 3), g14)
  else
  some (.inr (.inr 0), g14)
  else
  some (.inl (a4 + 3), g14)
  else
  some (.inr (.inr 0), g14)) := by
  rw [W_isO, gb_s]
  rcases Q g with ⟨v, w1, e1, e2, e3⟩ | ⟨k, e1, e2, e3⟩
  · obtain ⟨r1, f1, f2, f3⟩ := e3 (putW g n (wJ w1 (vp_updL w1.2.2.2.2.2.2.2 0 v.toInt64))) (n + 312)
    have hK := cs_K (w1 := wJ w1 (vp_updL w1.2.2.2.2.2.2.2 0 v.toInt64)) e2 f1
    rw [e1, cb_s, Sum.elim_inl, W_astL, gb_s, cb_s, W_isO9, gb_s, hK, cb_s, W_isO9, gb_s, W_thrown, cb_s]
    show Go n a4 (if r1.1 6 = 0 then _ else _)
    rw [if_pos f2, if_pos (rfl : (0 : Int32) = 0), W_aldL, gb_s]
    show Go n a4 (if lg_cmp v.toInt64 v.toInt64 = 0 then _ else _)
    rw [if_pos (lg_self _)]
    exact ⟨g, wR (wJ w1 (vp_updL w1.2.2.2.2.2.2.2 0 v.toInt64)) r1, rfl, Iv_JR f3⟩
  · obtain ⟨v, r1, f1, f2, f3⟩ := e3 (putW (hcut g) n w) (n + 312)
    have hK := cs_K (w1 := w) rfl f1
    have hk : ¬ I k = 0 := by
      rcases e2 with h | h | h
      · rw [h]; decide
      · rw [h.1]; decide
      · rw [h.1]; decide
    rw [e1, cb_s, Sum.elim_inr, hX k e2, cb_s, W_cut, W_isO9, gb_s, hK, cb_s, W_isO9, gb_s, W_thrown, cb_s]
    show Go n a4 (if r1.1 6 = I k then _ else _)
    rw [if_pos f2, if_neg hk]
    exact ⟨_, _, rfl, f3⟩
theorem cs_U {E : Nat → String} {F : AH → Option ((Unit ⊕ String) × AH)} {K : Nat → AH → Option (Unit × AH)} {X : String → AH → Option (Int32 × AH)} (Q : Qu n w F K E) (hX : ∀ k, Kx E k → ∀ g2, X (E k) g2 = some (I k, g2)) (g : AH) : Go n a4 (cb (gb (isO 8 (putW g n w) n) fun _ => cb (F (putW g n w)) fun r1 g2 => Sum.elim (fun _ => some (0, g2)) (fun w7 => X w7 g2) r1) fun r3 g4 => gb (isO 9 g4 (n + 312)) fun _ => cb (K (n + 312) g4) fun _ g9 => gb (isO 9 g9 (n + 312)) fun _ => cb (x9_thrown (n + 312) g9) fun r13 g14 => if r13 = r3 then
  some (.inl (a4 + 3), g14)
  else
  some (.inr (.inr 0), g14)) := by
  rw [W_isO, gb_s]
  rcases Q g with ⟨w1, e1, e2, e3⟩ | ⟨k, e1, e2, e3⟩
  · obtain ⟨r1, f1, f2, f3⟩ := e3 (putW g n w1) (n + 312)
    have hK := cs_K (w1 := w1) e2 f1
    rw [e1, cb_s, Sum.elim_inl, cb_s, W_isO9, gb_s, hK, cb_s, W_isO9, gb_s, W_thrown, cb_s]
    show Go n a4 (if r1.1 6 = 0 then _ else _)
    rw [if_pos f2]
    exact ⟨_, _, rfl, f3⟩
  · obtain ⟨r1, f1, f2, f3⟩ := e3 (putW (hcut g) n w) (n + 312)
    have hK := cs_K (w1 := w) rfl f1
    rw [e1, cb_s, Sum.elim_inr, hX k e2, cb_s, W_cut, W_isO9, gb_s, hK, cb_s, W_isO9, gb_s, W_thrown, cb_s]
    show Go n a4 (if r1.1 6 = I k then _ else _)
    rw [if_pos f2]
    exact ⟨_, _, rfl, f3⟩
theorem cs_A {F : AH → Option (Int32 × AH)} {K : Nat → AH → Option (Int32 × AH)} (Q : Qr n w F K) (g : AH) : Go n a4 (gb (isO 8 (putW g n w) n) fun _ => cb (F (putW g n w)) fun r1 g2 => gb (isO 9 g2 (n + 312)) fun _ => cb (K (n + 312) g2) fun r6 g7 => if r1 = r6 then
  some (.inl (a4 + 3), g7)
  else
  some (.inr (.inr 0), g7)) := by
  obtain ⟨v, w1, e1, e2, e3⟩ := Q g
  obtain ⟨r1, f1, f2, f3⟩ := e3 (putW g n w1) (n + 312)
  have hK := cs_K (w1 := w1) e2 f1
  rw [W_isO, gb_s, e1, cb_s, W_isO9, gb_s, hK, cb_s, if_pos rfl]
  exact ⟨_, _, rfl, f3⟩
theorem cs_D {F : AH → Option (UInt64 × AH)} {K : Nat → AH → Option (UInt64 × AH)} {P : UInt64 → Prop} (Q : Qf P n w F K) (g : AH) : Go n a4 (gb (isO 8 (putW g n w) n) fun _ => cb (F (putW g n w)) fun r1 g2 => gb (isO 9 g2 (n + 312)) fun _ => cb (K (n + 312) g2) fun r6 g7 => if (Op.cmpValue (FP.dcmp r1 r6) .l) = 0 then
  some (.inl (a4 + 3), g7)
  else
  if (Op.cmpValue (FP.dcmp r1 r1) .l) = 0 then
  some (.inr (.inr 0), g7)
  else
  if (Op.cmpValue (FP.dcmp r6 r6) .l) = 0 then
  some (.inr (.inr 0), g7)
  else
  some (.inl (a4 + 3), g7)) := by
  obtain ⟨v, -, e1, e3⟩ := Q g
  obtain ⟨r1, f1, f3⟩ := e3 (putW g n w) (n + 312)
  have hK := cs_K (w1 := w) rfl f1
  rw [W_isO, gb_s, e1, cb_s, W_isO9, gb_s, hK, cb_s]
  by_cases h : (Op.cmpValue (FP.dcmp v v) .l) = 0
  · rw [if_pos h]
    exact ⟨_, _, rfl, f3⟩
  · rw [if_neg h, if_neg h, if_neg h]
    exact ⟨_, _, rfl, f3⟩
theorem cs_F {F : AH → Option (UInt32 × AH)} {K : Nat → AH → Option (UInt32 × AH)} (Q : Qf (fun v => n64 (FP.f2d v)) n w F K) (g : AH) : Go n a4 (gb (isO 8 (putW g n w) n) fun _ => cb (F (putW g n w)) fun r1 g2 => if n64 (FP.f2d r1) then gb (isO 9 g2 (n + 312)) fun _ => cb (K (n + 312) g2) fun r7 g8 => if n64 (FP.f2d r7) then if (Op.cmpValue (FP.dcmp (FP.f2d r1) (FP.f2d r7)) .l) = 0 then
  some (.inl (a4 + 3), g8)
  else
  if (Op.cmpValue (FP.dcmp (FP.f2d r1) (FP.f2d r1)) .l) = 0 then
  some (.inr (.inr 0), g8)
  else
  if (Op.cmpValue (FP.dcmp (FP.f2d r7) (FP.f2d r7)) .l) = 0 then
  some (.inr (.inr 0), g8)
  else
  some (.inl (a4 + 3), g8) else none else none) := by
  obtain ⟨v, hv, e1, e3⟩ := Q g
  obtain ⟨r1, f1, f3⟩ := e3 (putW g n w) (n + 312)
  have hK := cs_K (w1 := w) rfl f1
  rw [W_isO, gb_s, e1, cb_s, if_pos hv, W_isO9, gb_s, hK, cb_s, if_pos hv]
  by_cases h : (Op.cmpValue (FP.dcmp (FP.f2d v) (FP.f2d v)) .l) = 0
  · rw [if_pos h]
    exact ⟨_, _, rfl, f3⟩
  · rw [if_neg h, if_neg h, if_neg h]
    exact ⟨_, _, rfl, f3⟩
/-- the lists of exceptions -/
theorem hX_I (k : Nat) (h : Kx exI k) (g2 : AH) : (if exI k = "java/lang/IndexOutOfBoundsException" then some ((1 : Int32), g2) else none) = some (I k, g2) := by
  rcases h with h | h | h
  · subst h; exact if_pos rfl
  · exact absurd rfl h.2
  · exact absurd rfl h.2
theorem hX_N (k : Nat) (h : Kx exN k) (g2 : AH) : (if exN k = "java/util/NoSuchElementException" then some ((1 : Int32), g2) else none) = some (I k, g2) := by
  rcases h with h | h | h
  · subst h; exact if_pos rfl
  · exact absurd rfl h.2
  · exact absurd rfl h.2
theorem hX_S1 (k : Nat) (h : Kx exS1 k) (g2 : AH) : (if exS1 k = "java/lang/IllegalStateException" then some ((1 : Int32), g2) else none) = some (I k, g2) := by
  rcases h with h | h | h
  · subst h; exact if_pos rfl
  · exact absurd rfl h.2
  · exact absurd rfl h.2
theorem hX_A1 (k : Nat) (h : Kx exA1 k) (g2 : AH) : (if exA1 k = "java/lang/IllegalArgumentException" then some ((1 : Int32), g2) else none) = some (I k, g2) := by
  rcases h with h | h | h
  · subst h; exact if_pos rfl
  · exact absurd rfl h.2
  · exact absurd rfl h.2
theorem hX_J (k : Nat) (h : Kx exJ k) (g2 : AH) : (if exJ k = "java/lang/IndexOutOfBoundsException" then some ((1 : Int32), g2) else if exJ k = "java/lang/IllegalArgumentException" then some (2, g2) else none) = some (I k, g2) := by
  rcases h with h | h | h
  · subst h; exact if_pos rfl
  · rw [h.1]; exact (if_neg (by decide)).trans (if_pos rfl)
  · exact absurd rfl h.2
theorem hX_A (k : Nat) (h : Kx exA k) (g2 : AH) : (if exA k = "java/lang/IndexOutOfBoundsException" then some ((1 : Int32), g2) else if exA k = "java/lang/IllegalStateException" then some (2, g2) else none) = some (I k, g2) := by
  rcases h with h | h | h
  · subst h; exact if_pos rfl
  · rw [h.1]; exact (if_neg (by decide)).trans (if_pos rfl)
  · exact absurd rfl h.2
theorem hX_B (k : Nat) (h : Kx exB k) (g2 : AH) : (if exB k = "java/lang/IllegalArgumentException" then some ((1 : Int32), g2) else if exB k = "java/lang/IllegalStateException" then some (2, g2) else none) = some (I k, g2) := by
  rcases h with h | h | h
  · subst h; exact if_pos rfl
  · rw [h.1]; exact (if_neg (by decide)).trans (if_pos rfl)
  · exact absurd rfl h.2
theorem hX_C (k : Nat) (h : Kx exC k) (g2 : AH) : (if exC k = "java/lang/IndexOutOfBoundsException" then some ((1 : Int32), g2) else if exC k = "java/lang/IllegalArgumentException" then some (2, g2) else if exC k = "java/lang/IllegalStateException" then some (3, g2) else none) = some (I k, g2) := by
  rcases h with h | h | h
  · subst h; exact if_pos rfl
  · rw [h.1]; exact (if_neg (by decide)).trans (if_pos rfl)
  · rw [h.1]; exact (if_neg (by decide)).trans ((if_neg (by decide)).trans (if_pos rfl))
end Cases
