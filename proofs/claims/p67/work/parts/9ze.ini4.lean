/-! the start: the class's object -/
def rst (f : Nat → Option hE) (n M : Nat) (G : AH) : AH := (fun q => if n + M ≤ q ∧ q < n + 312 then f q else G.1 q, G.2)
def Xw (f : Nat → Option hE) (n M : Nat) (w : WS) : AH := put (f, some (n + M)) n M (cellsW n w)
section Ini4
variable {f : Nat → Option hE} {n M : Nat} {w : WS}
theorem X_cut {s : Option Nat} {e : Nat → hE} (hM : M ≤ 312) : put (f, s) n M e = rst f n M (put (f, s) n 312 e) := by
  refine Prod.ext (funext fun q => ?_) rfl
  show (if n ≤ q ∧ q < n + M then some (e (q - n)) else f q) = if n + M ≤ q ∧ q < n + 312 then f q else if n ≤ q ∧ q < n + 312 then some (e (q - n)) else f q
  by_cases h : n ≤ q ∧ q < n + M
  · rw [if_pos h, if_neg (by omega), if_pos (by omega)]
  · rw [if_neg h]
    by_cases h2 : n + M ≤ q ∧ q < n + 312
    · rw [if_pos h2]
    · rw [if_neg h2, if_neg (by omega)]
theorem rst_put {G : AH} {p L : Nat} {b : Nat → hE} (h : p + L ≤ n + M) : put (rst f n M G) p L b = rst f n M (put G p L b) := by
  refine Prod.ext (funext fun q => ?_) rfl
  show (if p ≤ q ∧ q < p + L then some (b (q - p)) else if n + M ≤ q ∧ q < n + 312 then f q else G.1 q) = if n + M ≤ q ∧ q < n + 312 then f q else if p ≤ q ∧ q < p + L then some (b (q - p)) else G.1 q
  by_cases h2 : p ≤ q ∧ q < p + L
  · rw [if_pos h2, if_neg (by omega), if_pos h2]
  · rw [if_neg h2, if_neg h2]
theorem X_P {s : PS} (hM : 306 ≤ M ∧ M ≤ 312) : putP (Xw f n M w) (n + 303) s = Xw f n M (wP w s) := by
  unfold Xw
  rw [X_cut hM.2]
  refine (rst_put (by omega)).trans ?_
  refine (congrArg (rst f n M) W_setP).trans ?_
  exact (X_cut hM.2).symm
theorem X_H {k : Nat} {h : HS} (hk0 : k < 11) (hM : 302 ≤ M ∧ M ≤ 312) : putH (Xw f n M w) (n + hp k) h = Xw f n M (wH w k h) := by
  have := hp_lt hk0
  unfold Xw
  rw [X_cut hM.2]
  refine (rst_put (by omega)).trans ?_
  refine (congrArg (rst f n M) (W_setH hk0)).trans ?_
  exact (X_cut hM.2).symm
theorem X_p (hM : 306 ≤ M ∧ M ≤ 312) : putP (Xw f n M w) (n + 303) w.2.2.2.1 = Xw f n M w := X_P hM
theorem X_GG {sp : PS} {h : HS} (hM : 306 ≤ M ∧ M ≤ 312) : GG2 (Xw f n M w) (n + 303) sp (n + hp 0) h = Xw f n M (wP (wH w 0 h) sp) := by
  show putP (putH (Xw f n M w) (n + hp 0) h) (n + 303) sp = _
  rw [X_H (by decide) (by omega), X_P hM]
theorem X_60 (hM : 306 ≤ M ∧ M ≤ 312) : getR 0 (Xw f n M w) (n + 303) 0 = some (n + 304) := by
  have := P_getR0 (g := Xw f n M w) (p := n + 303) (s := w.2.2.2.1)
  rw [X_p hM] at this
  exact this
theorem X_isO7 (hM : 306 ≤ M ∧ M ≤ 312) : isO 7 (Xw f n M w) (n + 304) = some () := by
  have := P_isO7 (g := Xw f n M w) (p := n + 303) (s := w.2.2.2.1)
  rw [X_p hM] at this
  exact this
theorem X_isO0 (hM : 306 ≤ M ∧ M ≤ 312) : isO 0 (Xw f n M w) (n + 303) = some () := by
  have := P_isO0 (g := Xw f n M w) (p := n + 303) (s := w.2.2.2.1)
  rw [X_p hM] at this
  exact this
theorem X_o8 {k x : Nat} (hM : 0 < M) (h : o8 n k = .ref x) : getR 8 (Xw f n M w) n k = some x := B_getR (p := n) (d := 0) hM rfl h
theorem X_isO3 (hM : 306 ≤ M ∧ M ≤ 312) : isO 3 (Xw f n M w) (n + hp 0) = some () := by
  have := H_isO (g := Xw f n M w) (p := n + hp 0) (h := w.1 0)
  rw [X_H (by decide) (by omega), wH_self] at this
  exact this
theorem X_putT {k : Nat} {v : Int32} (hM : 306 ≤ M ∧ M ≤ 312) (h : k ≠ 0) : putV 7 (Xw f n M w) (n + 304) k (.int v) = some (Xw f n M (wP w (pT w.2.2.2.1 k v))) := by
  have := P_putT (g := Xw f n M w) (p := n + 303) (s := w.2.2.2.1) (k := k) (v := v) h
  rw [X_p hM, X_P hM] at this
  exact this
/-- the first text -/
def tT (t : Nat) (j : Nat) : Int32 := if j < t then wc 0 j &&& 255 else 0
theorem tT_0 : tT 0 = fun _ => 0 := by
  funext j
  exact if_neg (Nat.not_lt_zero j)
theorem tT_s {t : Nat} : upd (tT t) t (wc 0 t &&& 255) = tT (t + 1) := by
  funext j
  show (if j = t then wc 0 t &&& 255 else tT t j) = tT (t + 1) j
  unfold tT
  by_cases h : j = t
  · rw [if_pos h, if_pos (by omega), h]
  · rw [if_neg h]
    by_cases h1 : j < t
    · rw [if_pos h1, if_pos (by omega)]
    · rw [if_neg h1, if_neg (by omega)]
theorem X_put1 {gi : Nat → Int32} {L : Nat} {a b c : Int32} {T : Nat → Int32} (hM : 306 ≤ M ∧ M ≤ 312) (v : Int32) (hL : L < 500) : x7_put (n + 304) v (Xw f n M (wP w (gi, tiC (I L) a b c, T))) = some ((), Xw f n M (wP w (gi, tiC (I (L + 1)) a b c, upd T L (v &&& 255)))) := by
  have := c_put1 (g := Xw f n M w) (p := n + 303) (gi := gi) (a := a) (b := b) (c := c) (T := T) v hL
  rw [X_P hM, X_P hM] at this
  exact this
theorem X_putAll {gi : Nat → Int32} {a b c : Int32} (hM : 306 ≤ M ∧ M ≤ 312) : x7_putAll (n + 304) 0 (Xw f n M (wP w (gi, tiC (I 0) a b c, tT 0))) = some ((), Xw f n M (wP w (gi, tiC (I (wl 0)) a b c, tT (wl 0)))) := by
  have hw := wl_le (k := 0) (by decide)
  have H : loopX (x7_putAll_l2 (n + 304) 0) 1000 (I 0) (Xw f n M (wP w (gi, tiC (I 0) a b c, tT 0))) = some ((), Xw f n M (wP w (gi, tiC (I (wl 0)) a b c, tT (wl 0)))) := by
    refine loop_up (n := wl 0) (fun i => I i) (fun t => Xw f n M (wP w (gi, tiC (I t) a b c, tT t))) (fun t ht => ?_) ?_ (by omega)
    · unfold x7_putAll_l2
      rw [str_len (by decide), gb_s, if_neg (by rw [I_le (by omega) (by omega)]; omega), str_at (by decide) ht, gb_s, X_isO7 hM, gb_s, X_put1 hM _ (by omega), cb_s, tT_s, I_succ]
    · unfold x7_putAll_l2
      rw [str_len (by decide), gb_s, if_pos (Int32.le_refl _)]
  unfold x7_putAll
  rw [show (0 : Int32) = I 0 from rfl, H, cb_s]
/-- the first setup -/
def u00 : Su := (20, [0, 1, 3, 1, 0], [3, 5, 2], [6, 3, 1, 4], [(10, 8, 12), (7, 2, 5), (12, 0, 30), (9, 5, 1)])
def isU (x : Su ⊕ Er) : Bool := match x with
  | .inl u => decide (u.1 = u00.1) && (decide (u.2.1 = u00.2.1) && (decide (u.2.2.1 = u00.2.2.1) && (decide (u.2.2.2.1 = u00.2.2.2.1) && decide (u.2.2.2.2 = u00.2.2.2.2))))
  | .inr _ => false
theorem isU_eq {x : Su ⊕ Er} (h : isU x = true) : x = .inl u00 := by
  match x, h with
  | .inl u, h =>
    simp only [isU, Bool.and_eq_true, decide_eq_true_eq] at h
    obtain ⟨h1, h2, h3, h4, h5⟩ := h
    exact congrArg Sum.inl (Prod.ext h1 (Prod.ext h2 (Prod.ext h3 (Prod.ext h4 h5))))
  | .inr _, h => cases h
theorem su0 : suS (tT (wl 0)) (wl 0) = .inl u00 := isU_eq (by decide +kernel)
def st00 : St := fun j => if j < 149 then zA u00 j else 0
theorem hut0_dr : Dr hut0 := by
  refine ⟨⟨rfl, rfl, rfl, rfl, rfl, rfl⟩, fun i _ => ⟨rfl, rfl, rfl⟩, fun i _ k _ => rfl, fun j hj => ?_⟩
  exact if_pos hj
/-- the world's parts, as the constructors leave them -/
def p00 : PS := (giC 0 (-1) 0, tiC 0 0 0 0, fun _ => 0)
def w00 (r : RS) : WS := ((fun _ => hut0), (0, 0), (fun _ => 0), p00, (0, fun _ _ => 0), (0, fun _ => 0), r, fun _ => 0)
theorem o2_z : o2 n (0, 0) = fun k => if k = 0 then .ref (n + 84) else .int 0 := by
  funext k
  match k with
  | 0 => rfl
  | 1 => rfl
  | 2 => rfl
  | k + 3 => rfl
theorem s6_z {p : Nat} : scrB p (0, fun _ _ => 0) 0 = .inl (6, fun k => if k = 0 then .ref (p + 1) else if k = 1 then .ref (p + 2) else if k = 2 then .ref (p + 3) else .int 0) := by
  refine congrArg (fun z => (Sum.inl (6, z) : hE)) (funext fun k => ?_)
  match k with
  | 0 => rfl
  | 1 => rfl
  | 2 => rfl
  | 3 => rfl
  | k + 4 => rfl
theorem o4_z {p : Nat} : outB p (0, fun _ => 0) 0 = .inl (4, fun k => if k = 0 then .ref (p + 1) else .int 0) := by
  refine congrArg (fun z => (Sum.inl (4, z) : hE)) (funext fun k => ?_)
  match k with
  | 0 => rfl
  | 1 => rfl
  | k + 2 => rfl
theorem T8_9 : T8 f n w 9 312 = Xw f n 312 w := by
  unfold T8
  rw [q8_9, sC_id (show cellsW n w 0 = .inl (8, o8 n) from rfl)]
  rfl
theorem new8 (r : RS) : newO 8 tyX8 (f, some n) = some (n, T8 f n (w00 r) 0 1) := by
  have : hnew (f, some n) n (.inl (8, fun k => defaultValue (tyX8 k))) = T8 f n (w00 r) 0 1 := by
    rw [q8_0 (n := n)]
    unfold T8
    refine Prod.ext (funext fun q => ?_) rfl
    show (if q = n then some (.inl (8, q8 n 0)) else f q) = if n ≤ q ∧ q < n + 1 then some (sC (cellsW n (w00 r)) 0 (.inl (8, q8 n 0)) (q - n)) else f q
    by_cases h : q = n
    · rw [if_pos h, if_pos (by omega), show q - n = 0 by omega, sC_at]
    · rw [if_neg h, if_neg (by omega)]
  rw [← this]
  rfl
theorem hp_hi {i : Nat} (h : i < 6) : hp (3 + i) = 85 + 27 * i := by
  unfold hp
  rw [if_neg (by omega), if_neg (by omega), if_pos (by omega)]
  omega
theorem hp_sn {i : Nat} : hp (9 + i) = 248 + 27 * i := by
  unfold hp
  rw [if_neg (by omega), if_neg (by omega), if_neg (by omega)]
  omega
end Ini4


