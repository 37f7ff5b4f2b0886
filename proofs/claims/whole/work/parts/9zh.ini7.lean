/-! the start of the world; the row of longs -/
def wJ (w : WS) (z : Nat → Int64) : WS := (w.1, w.2.1, w.2.2.1, w.2.2.2.1, w.2.2.2.2.1, w.2.2.2.2.2.1, w.2.2.2.2.2.2.1, z)
section Ini8
variable {g : AH} {n : Nat} {w : WS}
theorem W_setJ {z : Nat → Int64} : put g n 324 (sC (cellsW n w) 323 (.inr (3, 1, .inr (.inl z)))) = putW g n (wJ w z) := by
  refine put_congr fun d hd => ?_
  by_cases h : d = 323
  · rw [h, sC_at]
    rfl
  · rw [sC_ne h]
    unfold cellsW
    have e1 : (wJ w z).1 = w.1 := rfl
    have e2 : (wJ w z).2.1 = w.2.1 := rfl
    have e3 : (wJ w z).2.2.1 = w.2.2.1 := rfl
    have e4 : (wJ w z).2.2.2.1 = w.2.2.2.1 := rfl
    have e5 : (wJ w z).2.2.2.2.1 = w.2.2.2.2.1 := rfl
    have e6 : (wJ w z).2.2.2.2.2.1 = w.2.2.2.2.2.1 := rfl
    have e7 : (wJ w z).2.2.2.2.2.2.1 = w.2.2.2.2.2.2.1 := rfl
    rw [e1, e2, e3, e4, e5, e6, e7]
    have c : d < 323 := by omega
    simp only [c, if_true]
theorem W_astL {v : Int64} : astL (putW g n w) (n + 323) 0 v = some (putW g n (wJ w (vp_updL w.2.2.2.2.2.2.2 0 v))) := by
  unfold astL
  rw [B_at (d := 323) (by decide), show cellsW n w 323 = .inr (3, 1, .inr (.inl w.2.2.2.2.2.2.2)) from rfl]
  show (if 3 = 3 then (if outI 0 1 then none else some (hset (putW g n w) (n + 323) (.inr (3, 1, .inr (.inl (vp_updL w.2.2.2.2.2.2.2 (0 : Int32).toNatClampNeg v)))))) else none) = _
  rw [if_pos rfl, if_neg (show ¬ outI (0 : Int32) 1 from I_out (a := 0) (by decide) (by decide)), hset_put (by decide)]
  exact congrArg some W_setJ
theorem W_aldL : aldL (putW g n w) (n + 323) 0 = some (w.2.2.2.2.2.2.2 0) := by
  unfold aldL
  rw [B_at (d := 323) (by decide), show cellsW n w 323 = .inr (3, 1, .inr (.inl w.2.2.2.2.2.2.2)) from rfl]
  show (if 3 = 3 then (if outI 0 1 then none else some (w.2.2.2.2.2.2.2 (0 : Int32).toNatClampNeg)) else none) = _
  rw [if_pos rfl, if_neg (show ¬ outI (0 : Int32) 1 from I_out (a := 0) (by decide) (by decide))]
  rfl
theorem Iv_J {z : Nat → Int64} (H : Iv w) : Iv (wJ w z) := H
theorem start_w {n : Nat} : ∃ w, Iv w ∧ ∀ Ln xs, l_law Ln xs ((fun _ => none), some n) = cb (loopX (l_law_l23 Ln xs n (n + 312) (n + 323)) 600 0 (putW ((fun _ => none), some (n + 324)) n w)) fun t16 g17 => Sum.elim (fun _ => some (1, g17)) (fun t20 => some (t20, g17)) t16 := by
  obtain ⟨h1, cnt, s', q1, q2⟩ := ini8 (f := fun _ => none) (n := n) r00
  obtain ⟨G, p1, p2⟩ := ini9 (f := fun _ => none) (n := n) (w := wP (wH (w00 r00) 0 h1) (pT (pK cnt (tT (wl 0)) (wl 0) s') 1 0)) rfl
  refine ⟨wR (wP (wH (w00 r00) 0 h1) (pT (pK cnt (tT (wl 0)) (wl 0) s') 1 0)) (RS_setA r00 1 st00), ⟨⟨q2, fun j hj => if_neg (by omega), 0, 0, rfl, rfl, Hs_none (by decide)⟩, hut0_dr, fun j hj => ⟨rfl, fun h => absurd rfl h⟩, ⟨0, 0, -1, cnt, _, _, _, tT (wl 0), pT_z, by decide, rfl, fun i hi => absurd hi (Nat.not_lt_zero i), rfl, rfl⟩, [], ⟨rfl, fun i hi => absurd hi (Nat.not_lt_zero i)⟩, ⟨rfl, fun i hi => absurd hi (Nat.not_lt_zero i)⟩, by decide⟩, fun Ln xs => ?_⟩
  unfold l_law
  rw [new8 r00, cb_s, q1, cb_s, p1, cb_s, p2, cb_s]
  have e : newA 3 (.inr (.inl (fun _ => 0))) (Xw (fun _ => none) n 323 (wR (wP (wH (w00 r00) 0 h1) (pT (pK cnt (tT (wl 0)) (wl 0) s') 1 0)) (RS_setA r00 1 st00))) 1 = some (n + 323, putW ((fun _ => none), some (n + 324)) n (wR (wP (wH (w00 r00) 0 h1) (pT (pK cnt (tT (wl 0)) (wl 0) s') 1 0)) (RS_setA r00 1 st00))) := newA_i (K := 1) rfl (by decide) rfl
  rw [e, cb_s]
end Ini8
