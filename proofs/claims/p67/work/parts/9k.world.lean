/-! the whole world as one block: the class's objects, then the reference's, then the row of longs -/
abbrev WS : Type := (Nat → HS) × (Int32 × Int32) × (Nat → Int32) × PS × SS × OS × RS × (Nat → Int64)
def hp (k : Nat) : Nat := 27 * k + (if k < 2 then 1 else if k = 2 then 2 else if k < 9 then 4 else 5)
def o8 (n k : Nat) : Value := match k with
  | 0 => .ref (n + 1)
  | 1 => .ref (n + 28)
  | 2 => .ref (n + 55)
  | 3 => .ref (n + 83)
  | 4 => .ref (n + 247)
  | 5 => .ref (n + 302)
  | 6 => .ref (n + 303)
  | 7 => .ref (n + 306)
  | 8 => .ref (n + 310)
  | _ => .null
def o5 (n k : Nat) : Value := if k = 0 then .ref (n + 56) else .null
def o2 (n : Nat) (i : Int32 × Int32) (k : Nat) : Value := if k = 0 then .ref (n + 84) else .int (if k = 1 then i.1 else if k = 2 then i.2 else 0)
def rHut (a l i : Nat) : Option Nat := if i < l then some (a + 27 * i) else none
def cellsW (n : Nat) (w : WS) (d : Nat) : hE := if d = 0 then .inl (8, o8 n) else if d < 55 then hutB (n + hp ((d - 1) / 27)) (w.1 ((d - 1) / 27)) ((d - 1) % 27) else if d = 55 then .inl (5, o5 n) else if d < 83 then hutB (n + hp 2) (w.1 2) (d - 56) else if d = 83 then .inl (2, o2 n w.2.1) else if d = 84 then .inr (5, 6, .inr (.inr (rHut (n + 85) 6))) else if d < 247 then hutB (n + hp (3 + (d - 85) / 27)) (w.1 (3 + (d - 85) / 27)) ((d - 85) % 27) else if d = 247 then .inr (5, 2, .inr (.inr (rHut (n + 248) 2))) else if d < 302 then hutB (n + hp (9 + (d - 248) / 27)) (w.1 (9 + (d - 248) / 27)) ((d - 248) % 27) else if d = 302 then .inr (2, 2, .inl w.2.2.1) else if d < 306 then parB (n + 303) w.2.2.2.1 (d - 303) else if d < 310 then scrB (n + 306) w.2.2.2.2.1 (d - 306) else if d < 312 then outB (n + 310) w.2.2.2.2.2.1 (d - 310) else if d < 323 then refB (n + 312) w.2.2.2.2.2.2.1 (d - 312) else .inr (3, 1, .inr (.inl w.2.2.2.2.2.2.2))
abbrev putW (g : AH) (n : Nat) (w : WS) : AH := put g n 312 (cellsW n w)
/-- other huts, and so on -/
def wH (w : WS) (k : Nat) (h : HS) : WS := ((fun j => if j = k then h else w.1 j), w.2)
def wI (w : WS) (i : Int32 × Int32) : WS := (w.1, i, w.2.2)
def wV (w : WS) (f : Nat → Int32) : WS := (w.1, w.2.1, f, w.2.2.2)
def wP (w : WS) (s : PS) : WS := (w.1, w.2.1, w.2.2.1, s, w.2.2.2.2)
def wS (w : WS) (s : SS) : WS := (w.1, w.2.1, w.2.2.1, w.2.2.2.1, s, w.2.2.2.2.2)
def wO (w : WS) (s : OS) : WS := (w.1, w.2.1, w.2.2.1, w.2.2.2.1, w.2.2.2.2.1, s, w.2.2.2.2.2.2)
def wR (w : WS) (r : RS) : WS := (w.1, w.2.1, w.2.2.1, w.2.2.2.1, w.2.2.2.2.1, w.2.2.2.2.2.1, r, w.2.2.2.2.2.2.2)
theorem put_sub {g : AH} {p L o K : Nat} {b c e : Nat → hE} (hoK : o + K ≤ L) (h : ∀ d, d < L → e d = if o ≤ d ∧ d < o + K then b (d - o) else c d) : put (put g p L c) (p + o) K b = put g p L e := by
  refine Prod.ext (funext fun x => ?_) rfl
  show (if p + o ≤ x ∧ x < p + o + K then some (b (x - (p + o))) else if p ≤ x ∧ x < p + L then some (c (x - p)) else g.1 x) = if p ≤ x ∧ x < p + L then some (e (x - p)) else g.1 x
  by_cases h1 : p ≤ x ∧ x < p + L
  · rw [if_pos h1, if_pos h1, h _ (by omega)]
    by_cases h2 : o ≤ x - p ∧ x - p < o + K
    · rw [if_pos (by omega), if_pos h2, show x - (p + o) = x - p - o by omega]
    · rw [if_neg (by omega), if_neg h2]
  · rw [if_neg h1, if_neg h1, if_neg (by omega)]
section World
variable {g : AH} {n : Nat} {w : WS}
theorem hp_lt {k : Nat} (hk0 : k < 11) : 0 < hp k ∧ hp k + 27 ≤ 302 := by
  unfold hp
  repeat' split
  all_goals omega
theorem cell_hut {k d : Nat} (hk0 : k < 11) (hd : d < 27) : cellsW n w (hp k + d) = hutB (n + hp k) (w.1 k) d := by
  have q : ∀ a b c : Nat, a = b → (fun x => hutB (n + hp x) (w.1 x) c) a = (fun x => hutB (n + hp x) (w.1 x) c) b := fun a b c h => by rw [h]
  unfold cellsW
  by_cases h2 : k < 2
  · have e : hp k = 27 * k + 1 := by unfold hp; rw [if_pos h2]
    rw [if_neg (by omega), if_pos (by omega), show (hp k + d - 1) / 27 = k by omega, show (hp k + d - 1) % 27 = d by omega]
  · by_cases h3 : k = 2
    · have e : hp k = 56 := by rw [h3]; rfl
      rw [if_neg (by omega), if_neg (by omega), if_neg (by omega), if_pos (by omega), show hp k + d - 56 = d by omega, h3]
    · by_cases h9 : k < 9
      · have e : hp k = 27 * k + 4 := by unfold hp; rw [if_neg h2, if_neg h3, if_pos h9]
        rw [if_neg (by omega), if_neg (by omega), if_neg (by omega), if_neg (by omega), if_neg (by omega), if_neg (by omega), if_pos (by omega), show 3 + (hp k + d - 85) / 27 = k by omega, show (hp k + d - 85) % 27 = d by omega]
      · have e : hp k = 27 * k + 5 := by unfold hp; rw [if_neg h2, if_neg h3, if_neg h9]
        rw [if_neg (by omega), if_neg (by omega), if_neg (by omega), if_neg (by omega), if_neg (by omega), if_neg (by omega), if_neg (by omega), if_neg (by omega), if_pos (by omega), show 9 + (hp k + d - 248) / 27 = k by omega, show (hp k + d - 248) % 27 = d by omega]
theorem cellH_ne {k d : Nat} {h : HS} (hk0 : k < 11) (hd : ¬ (hp k ≤ d ∧ d < hp k + 27)) : cellsW n (wH w k h) d = cellsW n w d := by
  have e : ∀ j, j ≠ k → (wH w k h).1 j = w.1 j := fun j hj => if_neg hj
  have e2 : (wH w k h).2 = w.2 := rfl
  unfold cellsW
  rw [e2]
  by_cases c0 : d = 0
  · rw [if_pos c0, if_pos c0]
  rw [if_neg c0, if_neg c0]
  by_cases c1 : d < 55
  · have hne : (d - 1) / 27 ≠ k := fun hc => hd (by
      have : hp k = 27 * k + 1 := by unfold hp; rw [if_pos (by omega)]
      omega)
    rw [if_pos c1, if_pos c1, e _ hne]
  rw [if_neg c1, if_neg c1]
  by_cases c2 : d = 55
  · rw [if_pos c2, if_pos c2]
  rw [if_neg c2, if_neg c2]
  by_cases c3 : d < 83
  · have hne : (2 : Nat) ≠ k := fun hc => hd (by
      have : hp k = 56 := by rw [← hc]; rfl
      omega)
    rw [if_pos c3, if_pos c3, e _ hne]
  rw [if_neg c3, if_neg c3]
  by_cases c4 : d = 83
  · rw [if_pos c4, if_pos c4]
  rw [if_neg c4, if_neg c4]
  by_cases c5 : d = 84
  · rw [if_pos c5, if_pos c5]
  rw [if_neg c5, if_neg c5]
  by_cases c6 : d < 247
  · have hne : 3 + (d - 85) / 27 ≠ k := fun hc => hd (by
      have : hp k = 27 * k + 4 := by unfold hp; rw [if_neg (by omega), if_neg (by omega), if_pos (by omega)]
      omega)
    rw [if_pos c6, if_pos c6, e _ hne]
  rw [if_neg c6, if_neg c6]
  by_cases c7 : d = 247
  · rw [if_pos c7, if_pos c7]
  rw [if_neg c7, if_neg c7]
  by_cases c8 : d < 302
  · have hne : 9 + (d - 248) / 27 ≠ k := fun hc => hd (by
      have : hp k = 27 * k + 5 := by unfold hp; rw [if_neg (by omega), if_neg (by omega), if_neg (by omega)]
      omega)
    rw [if_pos c8, if_pos c8, e _ hne]
  rw [if_neg c8, if_neg c8]
theorem wH_at {k : Nat} {h : HS} : (wH w k h).1 k = h := if_pos rfl
theorem wH_ne {k j : Nat} {h : HS} (hj : j ≠ k) : (wH w k h).1 j = w.1 j := if_neg hj
theorem wH_self {k : Nat} : wH w k (w.1 k) = w := by
  refine Prod.ext (funext fun j => ?_) rfl
  show (if j = k then w.1 k else w.1 j) = w.1 j
  by_cases hj : j = k
  · rw [if_pos hj, hj]
  · rw [if_neg hj]
/-- a hut of the world is replaced -/
theorem W_setH {k : Nat} {h : HS} (hk0 : k < 11) : putH (putW g n w) (n + hp k) h = putW g n (wH w k h) := by
  have := hp_lt hk0
  refine put_sub (by omega) (fun d hd => ?_)
  by_cases hin : hp k ≤ d ∧ d < hp k + 27
  · rw [if_pos hin]
    have := cell_hut (n := n) (w := wH w k h) hk0 (show d - hp k < 27 by omega)
    rw [show hp k + (d - hp k) = d by omega, wH_at] at this
    exact this
  · rw [if_neg hin]
    exact cellH_ne hk0 hin
theorem W_H {k : Nat} (hk0 : k < 11) : putH (putW g n w) (n + hp k) (w.1 k) = putW g n w := by rw [W_setH hk0, wH_self]
/-- the other parts -/
theorem W_setP {s : PS} : putP (putW g n w) (n + 303) s = putW g n (wP w s) := by
  refine put_sub (by decide) (fun d hd => ?_)
  unfold cellsW
  by_cases hin : 303 ≤ d ∧ d < 303 + 3
  · rw [if_pos hin, if_neg (by omega), if_neg (by omega), if_neg (by omega), if_neg (by omega), if_neg (by omega), if_neg (by omega), if_neg (by omega), if_neg (by omega), if_neg (by omega), if_neg (by omega), if_pos (by omega)]
    rfl
  · rw [if_neg hin]
    by_cases c : d < 303
    · simp only [show d < 306 by omega, show d < 310 by omega, if_true]
      have e1 : (wP w s).1 = w.1 := rfl
      have e2 : (wP w s).2.1 = w.2.1 := rfl
      have e3 : (wP w s).2.2.1 = w.2.2.1 := rfl
      rw [e1, e2, e3]
      by_cases c302 : d = 302
      · rw [if_neg (by omega), if_neg (by omega), if_neg (by omega), if_neg (by omega), if_neg (by omega), if_neg (by omega), if_neg (by omega), if_neg (by omega), if_neg (by omega), if_pos c302, if_neg (by omega), if_neg (by omega), if_neg (by omega), if_neg (by omega), if_neg (by omega), if_neg (by omega), if_neg (by omega), if_neg (by omega), if_neg (by omega), if_pos c302]
      · have c3 : d < 302 := by omega
        simp only [c3, if_true]
    · rw [if_neg (show ¬ d = 0 by omega), if_neg (show ¬ d = 0 by omega), if_neg (show ¬ d < 55 by omega), if_neg (show ¬ d < 55 by omega), if_neg (show ¬ d = 55 by omega), if_neg (show ¬ d = 55 by omega), if_neg (show ¬ d < 83 by omega), if_neg (show ¬ d < 83 by omega), if_neg (show ¬ d = 83 by omega), if_neg (show ¬ d = 83 by omega), if_neg (show ¬ d = 84 by omega), if_neg (show ¬ d = 84 by omega), if_neg (show ¬ d < 247 by omega), if_neg (show ¬ d < 247 by omega), if_neg (show ¬ d = 247 by omega), if_neg (show ¬ d = 247 by omega), if_neg (show ¬ d < 302 by omega), if_neg (show ¬ d < 302 by omega), if_neg (show ¬ d = 302 by omega), if_neg (show ¬ d = 302 by omega), if_neg (show ¬ d < 306 by omega), if_neg (show ¬ d < 306 by omega)]
      rfl
end World


