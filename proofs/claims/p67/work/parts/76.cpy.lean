/-! a hut copied -/
/-- h1 holds what k holds, for n hikers -/
def CpH (n : Nat) (k h1 : HS) : Prop := (∀ f, f < 13 → h1.1 f = k.1 f) ∧ (∀ d, 0 < d → d < 6 → ∀ j, j < hLen d → h1.2.1 d j = k.2.1 d j) ∧ (∀ i, i < n → ∀ f, f < 8 → h1.2.2.1 i f = k.2.2.1 i f) ∧ ∀ i, i < n → ∀ j, j < 4 → h1.2.2.2 i j = k.2.2.2 i j
theorem va_cpy_all {f f1 : Nat → Int32} {L j : Nat} (h : j < L) : va_cpy f f1 0 0 L j = f j := by
  unfold va_cpy
  rw [if_pos ⟨Nat.zero_le _, by omega⟩]
  congr 1
  omega
section Cpy
variable {g : AH} {p q : Nat} {h k : HS}
theorem Q_cpyA (hq : putH g q k = g) (hd : p + 27 ≤ q ∨ q + 27 ≤ p) {d : Nat} {n : Int32} (h0 : 0 < d) (h1 : d < 6) (hn : n = I (hLen d)) : acpy (putH g p h) (q + d) 0 (p + d) 0 n = some (putH g p (hAr h d (va_cpy (k.2.1 d) (h.2.1 d) 0 0 (hLen d)))) := by
  have hb : hLen d ≤ 16 := by unfold hLen; split <;> decide
  have hn2 : n.toNatClampNeg = hLen d := by rw [hn]; exact I_nat (by omega)
  have hn3 : ¬ n < 0 := by rw [hn]; exact Int32.not_lt.mpr (Int32.zero_le_ofNat_of_lt (by omega))
  unfold acpy
  rw [Q_arr hq hd h0 h1, put_in (d := d) (by omega), hutB_a h0 h1]
  show (if 0 = 0 ∧ 0 = 0 ∧ ¬ (0 : Int32) < 0 ∧ ¬ (0 : Int32) < 0 ∧ ¬ n < 0 ∧ (0 : Int32).toNatClampNeg + n.toNatClampNeg ≤ hLen d ∧ (0 : Int32).toNatClampNeg + n.toNatClampNeg ≤ hLen d then some (hset (putH g p h) (p + d) (.inr (0, hLen d, .inl (va_cpy (k.2.1 d) (h.2.1 d) (0 : Int32).toNatClampNeg (0 : Int32).toNatClampNeg n.toNatClampNeg)))) else none) = _
  rw [hn2, show (0 : Int32).toNatClampNeg = 0 from rfl, if_pos ⟨rfl, rfl, by decide, by decide, hn3, by omega, by omega⟩, hset_put (by omega)]
  refine congrArg some (put_hut ?_ (fun j hj hjd => ?_))
  · rw [hutB_a h0 h1]
    show _ = (Sum.inr (0, hLen d, .inl (if d = d then va_cpy (k.2.1 d) (h.2.1 d) 0 0 (hLen d) else h.2.1 d)) : hE)
    rw [if_pos rfl]
  · unfold hutB
    by_cases a0 : j = 0
    · rw [if_pos a0, if_pos a0]; rfl
    · rw [if_neg a0, if_neg a0]
      by_cases a1 : j < 6
      · rw [if_pos a1, if_pos a1]
        show _ = (Sum.inr (0, hLen j, .inl (if j = d then va_cpy (k.2.1 d) (h.2.1 d) 0 0 (hLen d) else h.2.1 j)) : hE)
        rw [if_neg hjd]
      · rw [if_neg a1, if_neg a1]
        rfl
theorem Q_cpyO (hq : putH g q k = g) (hd : p + 27 ≤ q ∨ q + 27 ≤ p) {i : Nat} (hi : i < 10) : acpy (putH g p h) (q + (8 + 2 * i)) 0 (p + (8 + 2 * i)) 0 4 = some (putH g p (hO h i (va_cpy (k.2.2.2 i) (h.2.2.2 i) 0 0 4))) := by
  unfold acpy
  rw [Q_hrs hq hd hi, put_in (d := 8 + 2 * i) (by omega), hutB_o]
  show (if 0 = 0 ∧ 0 = 0 ∧ ¬ (0 : Int32) < 0 ∧ ¬ (0 : Int32) < 0 ∧ ¬ (4 : Int32) < 0 ∧ (0 : Int32).toNatClampNeg + (4 : Int32).toNatClampNeg ≤ 4 ∧ (0 : Int32).toNatClampNeg + (4 : Int32).toNatClampNeg ≤ 4 then some (hset (putH g p h) (p + (8 + 2 * i)) (.inr (0, 4, .inl (va_cpy (k.2.2.2 i) (h.2.2.2 i) 0 0 4)))) else none) = _
  rw [if_pos (by decide), hset_put (by omega)]
  refine congrArg some (put_hut ?_ (fun j hj hjd => ?_))
  · rw [hutB_o]
    show _ = (Sum.inr (0, 4, .inl (if i = i then va_cpy (k.2.2.2 i) (h.2.2.2 i) 0 0 4 else h.2.2.2 i)) : hE)
    rw [if_pos rfl]
  · unfold hutB
    by_cases a0 : j = 0
    · rw [if_pos a0, if_pos a0]; rfl
    · rw [if_neg a0, if_neg a0]
      by_cases a1 : j < 6
      · rw [if_pos a1, if_pos a1]; rfl
      · rw [if_neg a1, if_neg a1]
        by_cases a2 : j = 6
        · rw [if_pos a2, if_pos a2]
        · rw [if_neg a2, if_neg a2]
          by_cases a3 : j % 2 = 1
          · rw [if_pos a3, if_pos a3]; rfl
          · rw [if_neg a3, if_neg a3]
            show _ = (Sum.inr (0, 4, .inl (if (j - 8) / 2 = i then va_cpy (k.2.2.2 i) (h.2.2.2 i) 0 0 4 else h.2.2.2 ((j - 8) / 2))) : hE)
            rw [if_neg (by omega)]
/-- one hiker copied -/
def cpK (h k : HS) (i : Nat) : HS := hO (hK (hK (hK (hK (hK (hK (hK (hK h i 0 (k.2.2.1 i 0)) i 1 (k.2.2.1 i 1)) i 2 (k.2.2.1 i 2)) i 3 (k.2.2.1 i 3)) i 4 (k.2.2.1 i 4)) i 5 (k.2.2.1 i 5)) i 6 (k.2.2.1 i 6)) i 7 (k.2.2.1 i 7)) i (va_cpy (k.2.2.2 i) (h.2.2.2 i) 0 0 4)
theorem c_copyHiker (hq : putH g q k = g) (hd : p + 27 ≤ q ∨ q + 27 ≤ p) {i : Nat} (hi : i < 10) : x1_copyFrom (p + (7 + 2 * i)) (q + (7 + 2 * i)) (putH g p h) = some ((), putH g p (cpK h k i)) := by
  unfold x1_copyFrom
  rw [Q_kI hq hd hi (by decide), gb_s, K_putI hi (by decide), gb_s, Q_kI hq hd hi (by decide), gb_s, K_putI hi (by decide), gb_s, Q_kI hq hd hi (by decide), gb_s, K_putI hi (by decide), gb_s, Q_kI hq hd hi (by decide), gb_s, K_putI hi (by decide), gb_s, Q_kI hq hd hi (by decide), gb_s, K_putI hi (by decide), gb_s, Q_kI hq hd hi (by decide), gb_s, K_putI hi (by decide), gb_s, Q_kI hq hd hi (by decide), gb_s, K_putI hi (by decide), gb_s, Q_kI hq hd hi (by decide), gb_s, K_putI hi (by decide), gb_s, Q_kR hq hd hi, gb_s, K_getR hi, gb_s, Q_cpyO hq hd hi, gb_s]
  rfl
theorem cpK_at {i f : Nat} (hf : f < 8) : (cpK h k i).2.2.1 i f = k.2.2.1 i f := by
  unfold cpK
  show (hK (hK (hK (hK (hK (hK (hK (hK h i 0 (k.2.2.1 i 0)) i 1 (k.2.2.1 i 1)) i 2 (k.2.2.1 i 2)) i 3 (k.2.2.1 i 3)) i 4 (k.2.2.1 i 4)) i 5 (k.2.2.1 i 5)) i 6 (k.2.2.1 i 6)) i 7 (k.2.2.1 i 7)).2.2.1 i f = _
  match f, hf with
  | 0, _ => rw [hK_ne (Or.inr (by decide)), hK_ne (Or.inr (by decide)), hK_ne (Or.inr (by decide)), hK_ne (Or.inr (by decide)), hK_ne (Or.inr (by decide)), hK_ne (Or.inr (by decide)), hK_ne (Or.inr (by decide)), hK_at]
  | 1, _ => rw [hK_ne (Or.inr (by decide)), hK_ne (Or.inr (by decide)), hK_ne (Or.inr (by decide)), hK_ne (Or.inr (by decide)), hK_ne (Or.inr (by decide)), hK_ne (Or.inr (by decide)), hK_at]
  | 2, _ => rw [hK_ne (Or.inr (by decide)), hK_ne (Or.inr (by decide)), hK_ne (Or.inr (by decide)), hK_ne (Or.inr (by decide)), hK_ne (Or.inr (by decide)), hK_at]
  | 3, _ => rw [hK_ne (Or.inr (by decide)), hK_ne (Or.inr (by decide)), hK_ne (Or.inr (by decide)), hK_ne (Or.inr (by decide)), hK_at]
  | 4, _ => rw [hK_ne (Or.inr (by decide)), hK_ne (Or.inr (by decide)), hK_ne (Or.inr (by decide)), hK_at]
  | 5, _ => rw [hK_ne (Or.inr (by decide)), hK_ne (Or.inr (by decide)), hK_at]
  | 6, _ => rw [hK_ne (Or.inr (by decide)), hK_at]
  | 7, _ => rw [hK_at]
theorem cpK_ne {i j f : Nat} (hj : j ≠ i) : (cpK h k i).2.2.1 j f = h.2.2.1 j f := by
  unfold cpK
  show (hK (hK (hK (hK (hK (hK (hK (hK h i 0 (k.2.2.1 i 0)) i 1 (k.2.2.1 i 1)) i 2 (k.2.2.1 i 2)) i 3 (k.2.2.1 i 3)) i 4 (k.2.2.1 i 4)) i 5 (k.2.2.1 i 5)) i 6 (k.2.2.1 i 6)) i 7 (k.2.2.1 i 7)).2.2.1 j f = _
  rw [hK_ne (Or.inl hj), hK_ne (Or.inl hj), hK_ne (Or.inl hj), hK_ne (Or.inl hj), hK_ne (Or.inl hj), hK_ne (Or.inl hj), hK_ne (Or.inl hj), hK_ne (Or.inl hj)]
theorem cpK_o {i j x : Nat} (hx : x < 4) : (cpK h k i).2.2.2 j x = if j = i then k.2.2.2 i x else h.2.2.2 j x := by
  show (if j = i then va_cpy (k.2.2.2 i) (h.2.2.2 i) 0 0 4 else h.2.2.2 j) x = _
  by_cases hj : j = i
  · rw [if_pos hj, if_pos hj, va_cpy_all hx]
  · rw [if_neg hj, if_neg hj]
def cpF13 (h k : HS) : HS := hF (hF (hF (hF (hF (hF (hF (hF (hF (hF (hF (hF (hF h 0 (k.1 0)) 1 (k.1 1)) 2 (k.1 2)) 3 (k.1 3)) 4 (k.1 4)) 5 (k.1 5)) 6 (k.1 6)) 7 (k.1 7)) 8 (k.1 8)) 9 (k.1 9)) 10 (k.1 10)) 11 (k.1 11)) 12 (k.1 12)
def cpA (h k : HS) (d : Nat) : HS := hAr h d (va_cpy (k.2.1 d) (h.2.1 d) 0 0 (hLen d))
theorem hF_ne {j f : Nat} {v : Int32} (hj : j ≠ f) : (hF h f v).1 j = h.1 j := upd_ne hj
theorem cpF13_at {f : Nat} (hf : f < 13) : (cpF13 h k).1 f = k.1 f := by
  unfold cpF13
  match f, hf with
  | 0, _ => rw [hF_ne (by decide), hF_ne (by decide), hF_ne (by decide), hF_ne (by decide), hF_ne (by decide), hF_ne (by decide), hF_ne (by decide), hF_ne (by decide), hF_ne (by decide), hF_ne (by decide), hF_ne (by decide), hF_ne (by decide), hF_at]
  | 1, _ => rw [hF_ne (by decide), hF_ne (by decide), hF_ne (by decide), hF_ne (by decide), hF_ne (by decide), hF_ne (by decide), hF_ne (by decide), hF_ne (by decide), hF_ne (by decide), hF_ne (by decide), hF_ne (by decide), hF_at]
  | 2, _ => rw [hF_ne (by decide), hF_ne (by decide), hF_ne (by decide), hF_ne (by decide), hF_ne (by decide), hF_ne (by decide), hF_ne (by decide), hF_ne (by decide), hF_ne (by decide), hF_ne (by decide), hF_at]
  | 3, _ => rw [hF_ne (by decide), hF_ne (by decide), hF_ne (by decide), hF_ne (by decide), hF_ne (by decide), hF_ne (by decide), hF_ne (by decide), hF_ne (by decide), hF_ne (by decide), hF_at]
  | 4, _ => rw [hF_ne (by decide), hF_ne (by decide), hF_ne (by decide), hF_ne (by decide), hF_ne (by decide), hF_ne (by decide), hF_ne (by decide), hF_ne (by decide), hF_at]
  | 5, _ => rw [hF_ne (by decide), hF_ne (by decide), hF_ne (by decide), hF_ne (by decide), hF_ne (by decide), hF_ne (by decide), hF_ne (by decide), hF_at]
  | 6, _ => rw [hF_ne (by decide), hF_ne (by decide), hF_ne (by decide), hF_ne (by decide), hF_ne (by decide), hF_ne (by decide), hF_at]
  | 7, _ => rw [hF_ne (by decide), hF_ne (by decide), hF_ne (by decide), hF_ne (by decide), hF_ne (by decide), hF_at]
  | 8, _ => rw [hF_ne (by decide), hF_ne (by decide), hF_ne (by decide), hF_ne (by decide), hF_at]
  | 9, _ => rw [hF_ne (by decide), hF_ne (by decide), hF_ne (by decide), hF_at]
  | 10, _ => rw [hF_ne (by decide), hF_ne (by decide), hF_at]
  | 11, _ => rw [hF_ne (by decide), hF_at]
  | 12, _ => rw [hF_at]
theorem c_copyFrom (hq : putH g q k = g) (hd : p + 27 ≤ q ∨ q + 27 ≤ p) {n : Nat} (hn : n ≤ 10) (hk12 : k.1 12 = I n) : ∃ h1, x3_copyFrom p q (putH g p h) = some ((), putH g p h1) ∧ CpH n k h1 := by
  unfold x3_copyFrom
  rw [Q_getI hq hd (by decide), gb_s, H_putI (by decide), gb_s, Q_getI hq hd (by decide), gb_s, H_putI (by decide), gb_s, Q_getI hq hd (by decide), gb_s, H_putI (by decide), gb_s, Q_getI hq hd (by decide), gb_s, H_putI (by decide), gb_s, Q_getI hq hd (by decide), gb_s, H_putI (by decide), gb_s, Q_getI hq hd (by decide), gb_s, H_putI (by decide), gb_s, Q_getI hq hd (by decide), gb_s, H_putI (by decide), gb_s, Q_getI hq hd (by decide), gb_s, H_putI (by decide), gb_s, Q_getI hq hd (by decide), gb_s, H_putI (by decide), gb_s, Q_getI hq hd (by decide), gb_s, H_putI (by decide), gb_s, Q_getI hq hd (by decide), gb_s, H_putI (by decide), gb_s, Q_getI hq hd (by decide), gb_s, H_putI (by decide), gb_s, Q_getI hq hd (by decide), gb_s, H_putI (by decide), gb_s]
  rw [Q_getR (d := 1) hq hd rfl (by decide) (by decide), gb_s, H_getR (d := 1) rfl (by decide) (by decide), gb_s, Q_cpyA (d := 1) (n := 12) hq hd (by decide) (by decide) rfl, gb_s, Q_getR (d := 2) hq hd rfl (by decide) (by decide), gb_s, H_getR (d := 2) rfl (by decide) (by decide), gb_s, Q_cpyA (d := 2) (n := 12) hq hd (by decide) (by decide) rfl, gb_s, Q_getR (d := 3) hq hd rfl (by decide) (by decide), gb_s, H_getR (d := 3) rfl (by decide) (by decide), gb_s, Q_cpyA (d := 3) (n := 12) hq hd (by decide) (by decide) rfl, gb_s, Q_getR (d := 4) hq hd rfl (by decide) (by decide), gb_s, H_getR (d := 4) rfl (by decide) (by decide), gb_s, Q_cpyA (d := 4) (n := 16) hq hd (by decide) (by decide) rfl, gb_s, Q_getR (d := 5) hq hd rfl (by decide) (by decide), gb_s, H_getR (d := 5) rfl (by decide) (by decide), gb_s, Q_cpyA (d := 5) (n := 16) hq hd (by decide) (by decide) rfl, gb_s]
  show ∃ h1, cb (loopX (x3_copyFrom_l181 p q) 1000 0 (putH g p (cpA (cpA (cpA (cpA (cpA (cpF13 h k) k 1) k 2) k 3) k 4) k 5))) _ = _ ∧ _
  have hA : ∀ d, 0 < d → d < 6 → ∀ j, j < hLen d → (cpA (cpA (cpA (cpA (cpA (cpF13 h k) k 1) k 2) k 3) k 4) k 5).2.1 d j = k.2.1 d j := by
    intro d h0 h1 j hj
    match d, h0, h1, hj with
    | 1, _, _, hj => exact va_cpy_all hj
    | 2, _, _, hj => exact va_cpy_all hj
    | 3, _, _, hj => exact va_cpy_all hj
    | 4, _, _, hj => exact va_cpy_all hj
    | 5, _, _, hj => exact va_cpy_all hj
  have hB : ∀ f, f < 13 → (cpA (cpA (cpA (cpA (cpA (cpF13 h k) k 1) k 2) k 3) k 4) k 5).1 f = k.1 f := fun f hf => cpF13_at (h := h) (k := k) hf
  generalize cpA (cpA (cpA (cpA (cpA (cpF13 h k) k 1) k 2) k 3) k 4) k 5 = h2 at hA hB ⊢
  have H := loop_inv (body := x3_copyFrom_l181 p q) (n := n) (fuel := 1000) (s := 0) (g := putH g p h2) (fun i s g1 => s = I i ∧ ∃ h1, g1 = putH g p h1 ∧ CpH i k h1) (fun _ g1 => ∃ h1, g1 = putH g p h1 ∧ CpH n k h1) (fun i s g1 hi h0 => by
      obtain ⟨rfl, h1, rfl, c1, c2, c3, c4⟩ := h0
      have hi0 : i < 10 := by omega
      unfold x3_copyFrom_l181
      rw [H_getI (by decide), gb_s, c1 12 (by decide), hk12, if_neg (by rw [I_le (by omega) (by omega)]; omega), H_getR (d := 6) rfl (by decide) (by decide), gb_s, H_hik hi0, gb_s, Q_getR (d := 6) hq hd rfl (by decide) (by decide), gb_s, Q_hik hq hd hi0, gb_s, K_isO hi0, gb_s, c_copyHiker hq hd hi0, cb_s, I_succ]
      refine ⟨_, _, rfl, rfl, _, rfl, fun f hf => c1 f hf, fun d d0 d1 j hj => c2 d d0 d1 j hj, fun j hj f hf => ?_, fun j hj x hx => ?_⟩
      · by_cases hji : j = i
        · rw [hji, cpK_at hf]
        · rw [cpK_ne hji]
          exact c3 j (by omega) f hf
      · rw [cpK_o hx]
        by_cases hji : j = i
        · rw [if_pos hji, hji]
        · rw [if_neg hji]
          exact c4 j (by omega) x hx) (fun s g1 h0 => by
      obtain ⟨rfl, h1, rfl, c⟩ := h0
      unfold x3_copyFrom_l181
      rw [H_getI (by decide), gb_s, c.1 12 (by decide), hk12, if_pos (by rw [I_le (by omega) (by omega)]; omega)]
      exact ⟨_, _, rfl, h1, rfl, c⟩) (by omega) ⟨rfl, h2, rfl, hB, hA, fun i hi => by omega, fun i hi => by omega⟩
  obtain ⟨t, g1, e1, h1, rfl, c⟩ := H
  rw [e1, cb_s]
  exact ⟨h1, rfl, c⟩
end Cpy
theorem Rel_cp {st : St} {k h : HS} (w : Ws st) (R : Rel st k) (c : CpH (nH st) k h) : Rel st h := by
  obtain ⟨c1, c2, c3, c4⟩ := c
  have := w.b.2
  have := w.l.2
  have := w.f.2
  refine ⟨Rel_fm fun j hj => by rw [c1 j hj]; exact Rel_at R j hj, ⟨fun b hb => ?_, fun b hb => ?_, fun b hb => ?_⟩, fun i hi f hf => ?_, fun i hi f hf => ?_, fun j hj => ?_⟩
  · rw [c2 1 (by decide) (by decide) b (by show b < 12; omega)]; exact R.2.1.1 b hb
  · rw [c2 2 (by decide) (by decide) b (by show b < 12; omega)]; exact R.2.1.2.1 b hb
  · rw [c2 3 (by decide) (by decide) b (by show b < 12; omega)]; exact R.2.1.2.2 b hb
  · rw [c3 i hi f (by omega)]; exact R.2.2.1 i hi f hf
  · rw [c4 i hi f hf]; exact R.2.2.2.1 i hi f hf
  · rw [c2 4 (by decide) (by decide) j hj]; exact R.2.2.2.2 j hj
theorem Meas_cp {st : St} {k h : HS} (M : Meas st k) (c : CpH (nH st) k h) : Meas st h := by
  obtain ⟨c1, c2, c3, c4⟩ := c
  refine ⟨fun i hi => ?_, fun j hj => ?_⟩
  · rw [c3 i hi 6 (by decide), c3 i hi 7 (by decide)]; exact M.1 i hi
  · rw [c2 5 (by decide) (by decide) j hj]; exact M.2 j hj


