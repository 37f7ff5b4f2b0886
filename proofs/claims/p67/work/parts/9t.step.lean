/-! one action in both -/
theorem Hi_pfS {s : St × St} (G : Gd s.1) {c a b : Int32} (hf : ftOf s.1 c a b = 0) : Hi s.1 (pfS s c a b) := by
  have w := G.1
  unfold ftOf at hf
  unfold pfS
  by_cases c0 : c = 0
  · rw [if_pos c0] at hf ⊢
    unfold ftTake at hf
    obtain ⟨f1, -⟩ := ft_one hf (by decide)
    obtain ⟨i, i1, i2, i3, i4⟩ := isH_ex w f1
    exact Hi.refl.up (by omega)
  rw [if_neg c0] at hf ⊢
  by_cases c1 : c = 1
  · rw [if_pos c1] at hf ⊢
    unfold ftReturn at hf
    obtain ⟨f1, -⟩ := ft_one hf (by decide)
    obtain ⟨i, i1, i2, i3, i4⟩ := isH_ex w f1
    exact Hi.refl.up (by omega)
  rw [if_neg c1] at hf ⊢
  by_cases c2 : c = 2
  · rw [if_pos c2] at hf ⊢
    unfold ftSwap at hf
    obtain ⟨f1, hf⟩ := ft_one hf (by decide)
    obtain ⟨f2, -⟩ := ft_one hf (by decide)
    obtain ⟨i, i1, i2, i3, i4⟩ := isH_ex w f1
    obtain ⟨j, j1, j2, j3, j4⟩ := isH_ex w f2
    exact (Hi.refl.up (by omega)).up (by omega)
  rw [if_neg c2] at hf ⊢
  by_cases c3 : c = 3
  · rw [if_pos c3] at hf ⊢
    unfold ftLie at hf
    obtain ⟨f1, -⟩ := ft_one hf (by decide)
    obtain ⟨i, i1, i2, i3, i4⟩ := isH_ex w f1
    exact Hi.refl.up (by omega)
  rw [if_neg c3] at hf ⊢
  by_cases c4 : c = 4
  · rw [if_pos c4] at hf ⊢
    unfold ftRise at hf
    obtain ⟨f1, -⟩ := ft_one hf (by decide)
    obtain ⟨i, i1, i2, i3, i4⟩ := isH_ex w f1
    exact Hi.refl.up (by omega)
  rw [if_neg c4] at hf ⊢
  by_cases c5 : c = 5
  · rw [if_pos c5] at hf ⊢
    exact Hi.refl.up (by decide)
  rw [if_neg c5] at hf ⊢
  by_cases c6 : c = 6
  · rw [if_pos c6] at hf ⊢
    exact (Hi.refl.up (by decide)).up (by decide)
  rw [if_neg c6] at hf ⊢
  by_cases c7 : c = 7
  · rw [if_pos c7] at hf ⊢
    unfold ftPay at hf
    obtain ⟨f1, -⟩ := ft_one hf (by decide)
    obtain ⟨i, i1, i2, i3, i4⟩ := isH_ex w f1
    exact ((Hi.refl.up (by omega)).up (by omega)).up (by decide)
  rw [if_neg c7] at hf ⊢
  unfold ftPass at hf
  obtain ⟨f1, -⟩ := ft_one hf (by decide)
  obtain ⟨k, k1, k2, k3, k4⟩ := bt_ex (lo := 1) (hi := 48) (by decide) (by decide) f1
  exact Hi.many w _ (by have := G.2.2.2; omega)
/-- the class's ledger and its past against the reference -/
def J (w : WS) (r : RS) : Prop := Gm (r.2 1) (w.1 0) ∧ Hz (r.2 1) ∧ ∃ a x, r.1 5 = I a ∧ w.2.1 = (I x, I a) ∧ Hs (r.2 3) a x (fun j => w.1 (3 + j))
/-- what acting leaves alone of the world -/
def Wd (w w1 : WS) : Prop := w1.2.2 = w.2.2 ∧ ∀ k, k = 1 ∨ k = 2 ∨ 9 ≤ k → w1.1 k = w.1 k
theorem Wd.refl {w : WS} : Wd w w := ⟨rfl, fun _ _ => rfl⟩
theorem Wd.trans {w w1 w2 : WS} (h : Wd w w1) (h1 : Wd w1 w2) : Wd w w2 := ⟨h1.1.trans h.1, fun k hk0 => (h1.2 k hk0).trans (h.2 k hk0)⟩
section Step
variable {g : AH} {n : Nat} {w : WS} {r : RS}
theorem J_step (H : J w r) {c a b : Int32} (du : St) {v6 : Int32} (hf : ftOf (r.2 1) c a b = 0) : ∃ w0 w1, x2_keep (n + 83) (n + hp 0) (putW g n w) = some ((), putW g n w0) ∧ x3_perform (n + hp 0) c a b (putW g n w0) = some (pfV (r.2 1, r.2 6) c a b, putW g n w1) ∧ J w1 (RD (recS (RS_setF r 6 v6)) (pfS (r.2 1, r.2 6) c a b) du) ∧ Wd w w1 := by
  obtain ⟨G, hz, k, x, h5, e, hs⟩ := H
  obtain ⟨h1, e1, G1⟩ := W_keep (g := g) (n := n) hs.1 hs.2.1 e G
  have hs' : Hs ((RS_setF r 6 v6).2 3) k x (fun j => w.1 (3 + j)) := hs
  obtain ⟨k5, k3⟩ := Hs_keep (r := RS_setF r 6 v6) ((RSF_ne (by decide)).trans h5) hs' G1 hz
  generalize hw0 : wI (wH w (3 + x) h1) (I ((x + 1) % 6), I (min 6 (k + 1))) = w0 at e1
  have w00 : w0.1 0 = w.1 0 := by rw [← hw0]; exact if_neg (by omega)
  obtain ⟨h2, p1, p2, p3, p4⟩ := c_perform (g := putW g n w0) (p := n + hp 0) (h := w0.1 0) (s := (r.2 1, r.2 6)) (c := c) (a := a) (b := b) G.1 (by rw [w00]; exact G.2.1) (by rw [w00]; exact G.2.2) hf
  rw [W_H (by decide), W_setH (by decide)] at p1
  have e22 : w0.2.1 = (I ((x + 1) % 6), I (min 6 (k + 1))) := by rw [← hw0]; rfl
  have wb : ∀ j, (wH w0 0 h2).1 (3 + j) = if j = x then h1 else w.1 (3 + j) := fun j => by
    rw [wH_ne (by omega), ← hw0]
    show (if 3 + j = 3 + x then h1 else w.1 (3 + j)) = _
    by_cases hj : j = x
    · rw [if_pos hj, if_pos (by omega)]
    · rw [if_neg hj, if_neg (by omega)]
  refine ⟨w0, wH w0 0 h2, e1, p1, ⟨⟨p4, ?_, ?_⟩, hz.hi (Hi_pfS (s := (r.2 1, r.2 6)) G.1 hf), min 6 (k + 1), (x + 1) % 6, k5, e22, ?_⟩, ?_, fun j hj => ?_⟩
  · rw [wH_at]; exact p2
  · rw [wH_at]; exact p3
  · have : (fun j => (wH w0 0 h2).1 (3 + j)) = fun j => if j = x then h1 else w.1 (3 + j) := funext wb
    rw [this]
    exact k3
  · show w0.2.2 = w.2.2
    rw [← hw0]
    rfl
  · rw [wH_ne (by omega), ← hw0]
    exact if_neg (by have := hs.2.1; omega)
theorem W_fault (H : J w r) (c a b : Int32) : x3_faultOf (n + hp 0) c a b (putW g n w) = some (ftOf (r.2 1) c a b, putW g n w) := by
  have := c_faultOf (g := putW g n w) (p := n + hp 0) H.1.1.1 H.1.2.1 c a b
  rw [W_H (by decide)] at this
  exact this
end Step


