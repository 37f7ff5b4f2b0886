/-! the past: the class's ring, the reference's rows -/
def Gm (st : St) (h : HS) : Prop := Gd st ∧ Rel st h ∧ Meas st h
def Hz (st : St) : Prop := ∀ j, 149 ≤ j → st j = 0
def ent (Z : Nat → Int32) (k : Nat) : St := fun i => if i < 149 then Z (149 * k + i) else 0
/-- a entries, the next at x -/
def Hs (Z : Nat → Int32) (a x : Nat) (B : Nat → HS) : Prop := a ≤ 6 ∧ x < 6 ∧ ∀ k, k < a → Gm (ent Z k) (B ((x + 6 - a + k) % 6))
theorem Hz.hi {z z1 : St} (h : Hz z) (k : Hi z z1) : Hz z1 := fun j hj => (k j hj).trans (h j hj)
theorem ent_z (Z : Nat → Int32) (k : Nat) : Hz (ent Z k) := fun j hj => if_neg (by omega)
theorem ent_cp {st : St} {Z : Nat → Int32} {a k : Nat} (hz : Hz st) : ent (cpF st Z 0 (149 * a) 149) k = if k = a then st else ent Z k := by
  funext i
  show (if i < 149 then (if 149 * a ≤ 149 * k + i ∧ 149 * k + i < 149 * a + 149 then st (0 + (149 * k + i - 149 * a)) else Z (149 * k + i)) else 0) = (if k = a then st else ent Z k) i
  by_cases hi : i < 149
  · rw [if_pos hi]
    by_cases hk0 : k = a
    · rw [if_pos hk0, if_pos (by omega)]
      congr 1
      omega
    · rw [if_neg hk0, if_neg (by omega)]
      exact (if_pos hi).symm
  · rw [if_neg hi]
    by_cases hk0 : k = a
    · rw [if_pos hk0, hz i (by omega)]
    · rw [if_neg hk0]
      exact (if_neg hi).symm
theorem ent_sh {Z : Nat → Int32} {k : Nat} (hk0 : k < 5) : ent (shF Z 745) k = ent Z (k + 1) := by
  funext i
  show (if i < 149 then (if 149 * k + i < 745 then Z (149 * k + i + 149) else Z (149 * k + i)) else 0) = if i < 149 then Z (149 * (k + 1) + i) else 0
  by_cases hi : i < 149
  · rw [if_pos hi, if_pos hi, if_pos (by omega)]
    congr 1
    omega
  · rw [if_neg hi, if_neg hi]
/-- back from a row -/
theorem cp_ent {st : St} {Z : Nat → Int32} {a : Nat} (hz : Hz st) : cpF Z st (149 * a) 0 149 = ent Z a := by
  funext j
  show (if 0 ≤ j ∧ j < 0 + 149 then Z (149 * a + (j - 0)) else st j) = if j < 149 then Z (149 * a + j) else 0
  by_cases hj : j < 149
  · rw [if_pos ⟨by omega, by omega⟩, if_pos hj]
    rfl
  · rw [if_neg (by omega), if_neg hj, hz j (by omega)]
theorem Hs_keep {r : RS} {a x : Nat} {B : Nat → HS} {h1 : HS} (h5 : r.1 5 = I a) (H : Hs (r.2 3) a x B) (G : Gm (r.2 1) h1) (hz : Hz (r.2 1)) : (recS r).1 5 = I (min 6 (a + 1)) ∧ Hs ((recS r).2 3) (min 6 (a + 1)) ((x + 1) % 6) (fun j => if j = x then h1 else B j) := by
  obtain ⟨ha, hx, hk0⟩ := H
  have e3 : (recS r).2 3 = cpF (r.2 1) (recP r) 0 (149 * kN (recN r)) 149 := RS_at (r := r) (d := 3)
  have e5 : (recS r).1 5 = recN r + 1 := RSF_at _ _ _
  rw [e3, e5]
  unfold recP recN
  by_cases h6 : a = 6
  · have e6 : r.1 5 = 6 := by rw [h5, h6]; rfl
    rw [if_pos e6, if_pos e6, show kN 5 = 5 from rfl, Nat.min_eq_left (by omega)]
    refine ⟨rfl, by omega, by omega, fun k hk1 => ?_⟩
    rw [ent_cp hz]
    dsimp only
    by_cases k5 : k = 5
    · rw [if_pos k5, if_pos (by omega)]
      exact G
    · rw [if_neg k5, if_neg (by omega), ent_sh (by omega)]
      have := hk0 (k + 1) (by omega)
      rw [show (x + 6 - a + (k + 1)) % 6 = ((x + 1) % 6 + 6 - 6 + k) % 6 by omega] at this
      exact this
  · have e6 : ¬ r.1 5 = 6 := fun hc => h6 ((I_eq (by omega) (by decide)).mp (h5.symm.trans hc))
    rw [if_neg e6, if_neg e6, h5, show kN (I a) = a from I_nat (by omega), Nat.min_eq_right (by omega), I_succ]
    refine ⟨rfl, by omega, by omega, fun k hk1 => ?_⟩
    rw [ent_cp hz]
    dsimp only
    by_cases k5 : k = a
    · rw [if_pos k5, if_pos (by omega)]
      exact G
    · rw [if_neg k5, if_neg (by omega)]
      have := hk0 k (by omega)
      rw [show (x + 6 - a + k) % 6 = ((x + 1) % 6 + 6 - (a + 1) + k) % 6 by omega] at this
      exact this
theorem Hs_back {Z : Nat → Int32} {a x : Nat} {B : Nat → HS} (H : Hs Z (a + 1) x B) : Gm (ent Z a) (B ((x + 5) % 6)) ∧ Hs Z a ((x + 5) % 6) B := by
  obtain ⟨ha, hx, hk0⟩ := H
  refine ⟨?_, by omega, by omega, fun k hk1 => ?_⟩
  · have := hk0 a (by omega)
    rw [show (x + 6 - (a + 1) + a) % 6 = (x + 5) % 6 by omega] at this
    exact this
  · have := hk0 k (by omega)
    rw [show (x + 6 - (a + 1) + k) % 6 = ((x + 5) % 6 + 6 - a + k) % 6 by omega] at this
    exact this
theorem Hs_none {Z : Nat → Int32} {x : Nat} {B : Nat → HS} (hx : x < 6) : Hs Z 0 x B := ⟨by omega, hx, fun k hk0 => by omega⟩
theorem ring_n {x : Nat} (hx : x < 6) : (I x + 1) - (I x + 1) / 6 * 6 = I ((x + 1) % 6) := by
  match x, hx with
  | 0, _ => decide
  | 1, _ => decide
  | 2, _ => decide
  | 3, _ => decide
  | 4, _ => decide
  | 5, _ => decide
theorem ring_b {x : Nat} (hx : x < 6) : ((I x + 6) - 1) - ((I x + 6) - 1) / 6 * 6 = I ((x + 5) % 6) := by
  match x, hx with
  | 0, _ => decide
  | 1, _ => decide
  | 2, _ => decide
  | 3, _ => decide
  | 4, _ => decide
  | 5, _ => decide
theorem ring_c {a : Nat} (ha : a ≤ 6) : (if (6 : Int32) < I a + 1 then (6 : Int32) else I a + 1) = I (min 6 (a + 1)) := by
  rw [I_succ]
  by_cases h : 6 < a + 1
  · rw [if_pos (by rw [show (6 : Int32) = I 6 from rfl, I_lt (by decide) (by omega)]; exact h), Nat.min_eq_left (by omega)]
    rfl
  · rw [if_neg (by rw [show (6 : Int32) = I 6 from rfl, I_lt (by decide) (by omega)]; exact h), Nat.min_eq_right (by omega)]
section Hist
variable {g : AH} {n : Nat} {w : WS} {st : St}
theorem hp_ne {i j : Nat} (hi : i < 11) (hj : j < 11) (h : i ≠ j) : hp i + 27 ≤ hp j ∨ hp j + 27 ≤ hp i := by
  unfold hp
  repeat' split
  all_goals omega
theorem W_copy {i j : Nat} (hi : i < 11) (hj : j < 11) (hij : i ≠ j) (G : Gm st (w.1 j)) : ∃ h1, x3_copyFrom (n + hp i) (n + hp j) (putW g n w) = some ((), putW g n (wH w i h1)) ∧ Gm st h1 := by
  obtain ⟨G1, G2, G3⟩ := G
  have hd := hp_ne hi hj hij
  obtain ⟨h1, e1, e2⟩ := c_copyFrom (g := putW g n w) (p := n + hp i) (q := n + hp j) (h := w.1 i) (k := w.1 j) (W_H hj) (by omega) G1.1.h.2 (by rw [G2.1.2.2.2.2.2.2.2.2.2.2.2.2]; exact G1.1.h.1)
  rw [W_H hi, W_setH hi] at e1
  exact ⟨h1, e1, G1, Rel_cp G1.1 G2 e2, Meas_cp G3 e2⟩
theorem W_isH {k : Nat} (hk0 : k < 11) : isO 3 (putW g n w) (n + hp k) = some () := by rw [← W_H (g := g) (n := n) (w := w) hk0]; exact H_isO
theorem W_keep {a x : Nat} (ha : a ≤ 6) (hx : x < 6) (e : w.2.1 = (I x, I a)) (G : Gm st (w.1 0)) : ∃ h1, x2_keep (n + 83) (n + hp 0) (putW g n w) = some ((), putW g n (wI (wH w (3 + x) h1) (I ((x + 1) % 6), I (min 6 (a + 1))))) ∧ Gm st h1 := by
  obtain ⟨h1, e1, e2⟩ := W_copy (g := g) (n := n) (w := w) (i := 3 + x) (j := 0) (by omega) (by decide) (by omega) G
  refine ⟨h1, ?_, e2⟩
  have f1 : w.2.1.1 = I x := by rw [e]
  have f2 : w.2.1.2 = I a := by rw [e]
  unfold x2_keep
  rw [W_h2R, gb_s, W_h21, gb_s, f1, W_bef hx, gb_s, W_isH (by omega), gb_s, e1, cb_s, W_h21, gb_s, show (wH w (3 + x) h1).2.1.1 = I x from f1, ring_n hx, W_put1, gb_s, W_h22, gb_s, show (wI (wH w (3 + x) h1) (I ((x + 1) % 6), (wH w (3 + x) h1).2.1.2)).2.1.2 = I a from f2, ring_c ha, W_put2, gb_s]
  rfl
theorem W_back {a x : Nat} (ha : a < 6) (hx : x < 6) (e : w.2.1 = (I x, I (a + 1))) (G : Gm st (w.1 (3 + (x + 5) % 6))) : ∃ h1, x2_takeBack (n + 83) (n + hp 0) (putW g n w) = some ((), putW g n (wI (wH w 0 h1) (I ((x + 5) % 6), I a))) ∧ Gm st h1 := by
  have f1 : w.2.1.1 = I x := by rw [e]
  have f2 : w.2.1.2 = I (a + 1) := by rw [e]
  have f3 : I (a + 1) - 1 = I a := by rw [show (1 : Int32) = I 1 from rfl, I_sub (by omega)]; rfl
  obtain ⟨h1, e1, e2⟩ := W_copy (g := g) (n := n) (w := wI w (I ((x + 5) % 6), I a)) (i := 0) (j := 3 + (x + 5) % 6) (by decide) (by omega) (by omega) G
  refine ⟨h1, ?_, e2⟩
  unfold x2_takeBack
  rw [W_h21, gb_s, f1, ring_b hx, W_put1, gb_s, W_h22, gb_s, show (wI w (I ((x + 5) % 6), w.2.1.2)).2.1.2 = I (a + 1) from f2, f3, W_put2, gb_s, W_h2R, gb_s, W_h21, gb_s]
  show gb (aldR 5 (putW g n (wI w (I ((x + 5) % 6), I a))) (n + 84) (I ((x + 5) % 6))) _ = _
  rw [W_bef (by omega), gb_s, W_isH (by decide), gb_s]
  show cb (x3_copyFrom (n + hp 0) (n + hp (3 + (x + 5) % 6)) (putW g n (wI w (I ((x + 5) % 6), I a)))) _ = _
  rw [e1, cb_s]
  rfl
theorem W_forget : x2_forget (n + 83) (putW g n w) = some ((), putW g n (wI w (w.2.1.1, 0))) := by
  unfold x2_forget
  rw [W_put2, gb_s]
end Hist


