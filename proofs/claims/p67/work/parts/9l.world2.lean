/-! the world's other parts -/
section World2
variable {g : AH} {n : Nat} {w w1 : WS}
theorem cell_hi {d : Nat} (h : 303 ≤ d) : cellsW n w d = if d < 306 then parB (n + 303) w.2.2.2.1 (d - 303) else if d < 310 then scrB (n + 306) w.2.2.2.2.1 (d - 306) else if d < 312 then outB (n + 310) w.2.2.2.2.2.1 (d - 310) else if d < 323 then refB (n + 312) w.2.2.2.2.2.2.1 (d - 312) else .inr (3, 1, .inr (.inl w.2.2.2.2.2.2.2)) := by
  unfold cellsW
  rw [if_neg (by omega), if_neg (by omega), if_neg (by omega), if_neg (by omega), if_neg (by omega), if_neg (by omega), if_neg (by omega), if_neg (by omega), if_neg (by omega), if_neg (by omega)]
theorem cell_lo {d : Nat} (h : d < 303) (e1 : w1.1 = w.1) (e2 : w1.2.1 = w.2.1) (e3 : w1.2.2.1 = w.2.2.1) : cellsW n w1 d = cellsW n w d := by
  have H : ∀ x : WS, cellsW n x d = if d = 0 then .inl (8, o8 n) else if d < 55 then hutB (n + hp ((d - 1) / 27)) (x.1 ((d - 1) / 27)) ((d - 1) % 27) else if d = 55 then .inl (5, o5 n) else if d < 83 then hutB (n + hp 2) (x.1 2) (d - 56) else if d = 83 then .inl (2, o2 n x.2.1) else if d = 84 then .inr (5, 6, .inr (.inr (rHut (n + 85) 6))) else if d < 247 then hutB (n + hp (3 + (d - 85) / 27)) (x.1 (3 + (d - 85) / 27)) ((d - 85) % 27) else if d = 247 then .inr (5, 2, .inr (.inr (rHut (n + 248) 2))) else if d < 302 then hutB (n + hp (9 + (d - 248) / 27)) (x.1 (9 + (d - 248) / 27)) ((d - 248) % 27) else .inr (2, 2, .inl x.2.2.1) := fun x => by
    unfold cellsW
    by_cases c : d < 302
    · simp only [c, if_true]
    · have e : d = 302 := by omega
      subst e
      rfl
  rw [H w1, H w, e1, e2, e3]
theorem W_setS {s : SS} : putS (putW g n w) (n + 306) s = putW g n (wS w s) := by
  refine put_sub (by decide) (fun d hd => ?_)
  by_cases c : d < 303
  · rw [if_neg (by omega)]
    exact cell_lo c rfl rfl rfl
  · rw [cell_hi (by omega), cell_hi (by omega)]
    by_cases c2 : d < 306
    · rw [if_pos c2, if_neg (by omega), if_pos c2]; rfl
    · by_cases c3 : d < 310
      · rw [if_neg c2, if_pos c3, if_pos (by omega)]; rfl
      · rw [if_neg c2, if_neg c3, if_neg (show ¬ (306 ≤ d ∧ d < 306 + 4) by omega), if_neg c2, if_neg c3]; rfl
theorem W_setO {s : OS} : putO (putW g n w) (n + 310) s = putW g n (wO w s) := by
  refine put_sub (by decide) (fun d hd => ?_)
  by_cases c : d < 303
  · rw [if_neg (by omega)]
    exact cell_lo c rfl rfl rfl
  · rw [cell_hi (by omega), cell_hi (by omega)]
    by_cases c2 : d < 306
    · rw [if_pos c2, if_neg (by omega), if_pos c2]; rfl
    · by_cases c3 : d < 310
      · rw [if_neg c2, if_pos c3, if_neg (by omega), if_neg c2, if_pos c3]; rfl
      · by_cases c4 : d < 312
        · rw [if_neg c2, if_neg c3, if_pos c4, if_pos (by omega)]; rfl
        · rw [if_neg c2, if_neg c3, if_neg c4, if_neg (show ¬ (310 ≤ d ∧ d < 310 + 2) by omega), if_neg c2, if_neg c3, if_neg c4]; rfl
theorem W_P : putP (putW g n w) (n + 303) w.2.2.2.1 = putW g n w := W_setP
theorem W_S : putS (putW g n w) (n + 306) w.2.2.2.2.1 = putW g n w := W_setS
theorem W_O : putO (putW g n w) (n + 310) w.2.2.2.2.2.1 = putW g n w := W_setO
/-- the ledger itself, the planner, the history -/
theorem W_o8 {k x : Nat} (h : o8 n k = .ref x) : getR 8 (putW g n w) n k = some x := B_getR (p := n) (d := 0) (by decide) rfl h
theorem W_isO : isO 8 (putW g n w) n = some () := B_isO (p := n) (d := 0) (by decide) rfl
theorem W_pl : getR 5 (putW g n w) (n + 55) 0 = some (n + hp 2) := B_getR (d := 55) (f := o5 n) (by decide) rfl rfl
theorem W_plO : isO 5 (putW g n w) (n + 55) = some () := B_isO (d := 55) (f := o5 n) (by decide) rfl
theorem W_h2O : isO 2 (putW g n w) (n + 83) = some () := B_isO (d := 83) (f := o2 n w.2.1) (by decide) rfl
theorem W_h2R : getR 2 (putW g n w) (n + 83) 0 = some (n + 84) := B_getR (d := 83) (f := o2 n w.2.1) (by decide) rfl rfl
theorem W_h21 : getI 2 (putW g n w) (n + 83) 1 = some w.2.1.1 := B_getI (d := 83) (f := o2 n w.2.1) (by decide) rfl rfl
theorem W_h22 : getI 2 (putW g n w) (n + 83) 2 = some w.2.1.2 := B_getI (d := 83) (f := o2 n w.2.1) (by decide) rfl rfl
theorem W_c83 {v : Int32 × Int32} {j : Nat} (h : j ≠ 83) : cellsW n (wI w v) j = cellsW n w j := by
  unfold cellsW
  have e1 : (wI w v).1 = w.1 := rfl
  have e2 : (wI w v).2.2 = w.2.2 := rfl
  rw [e1, e2]
  simp only [h, if_false]
theorem W_putI {k : Nat} {v : Int32} {i : Int32 × Int32} (h1 : updV (o2 n w.2.1) k (.int v) = o2 n i) : putV 2 (putW g n w) (n + 83) k (.int v) = some (putW g n (wI w i)) := by
  refine B_putV (d := 83) (f := o2 n w.2.1) (by decide) rfl ?_ (fun j hj hj0 => W_c83 hj0)
  rw [h1]
  rfl
theorem W_put1 {v : Int32} : putV 2 (putW g n w) (n + 83) 1 (.int v) = some (putW g n (wI w (v, w.2.1.2))) := by
  refine W_putI (funext fun k => ?_)
  show (if k = 1 then Value.int v else o2 n w.2.1 k) = o2 n (v, w.2.1.2) k
  unfold o2
  by_cases hk0 : k = 1
  · rw [if_pos hk0, if_neg (by omega), if_pos hk0]
  · rw [if_neg hk0, if_neg hk0, if_neg hk0]
theorem W_put2 {v : Int32} : putV 2 (putW g n w) (n + 83) 2 (.int v) = some (putW g n (wI w (w.2.1.1, v))) := by
  refine W_putI (funext fun k => ?_)
  show (if k = 2 then Value.int v else o2 n w.2.1 k) = o2 n (w.2.1.1, v) k
  unfold o2
  by_cases hk0 : k = 2
  · rw [if_pos hk0, if_neg (by omega), if_neg (by omega), if_pos hk0]
  · rw [if_neg hk0]
    show (if k = 0 then Value.ref (n + 84) else Value.int (if k = 1 then w.2.1.1 else if k = 2 then w.2.1.2 else 0)) = if k = 0 then Value.ref (n + 84) else Value.int (if k = 1 then w.2.1.1 else if k = 2 then v else 0)
    rw [if_neg hk0, if_neg hk0]
theorem W_bef {j : Nat} (hj : j < 6) : aldR 5 (putW g n w) (n + 84) (I j) = some (n + hp (3 + j)) := by
  unfold aldR
  rw [B_at (d := 84) (by decide), show cellsW n w 84 = .inr (5, 6, .inr (.inr (rHut (n + 85) 6))) from rfl]
  show (if 5 = 5 then (if outI (I j) 6 then none else rHut (n + 85) 6 (kN (I j))) else none) = _
  rw [if_pos rfl, if_neg (show ¬ outI (I j) 6 from fun h => h.elim (fun h => absurd h (Int32.not_lt.mpr (Int32.zero_le_ofNat_of_lt (by omega)))) (fun h => by
    rw [show (I j).toNatClampNeg = j from I_nat (by omega)] at h; omega)), show kN (I j) = j from I_nat (by omega)]
  unfold rHut
  rw [if_pos hj]
  have e : hp (3 + j) = 27 * (3 + j) + 4 := by unfold hp; rw [if_neg (by omega), if_neg (by omega), if_pos (by omega)]
  congr 1
  omega
theorem W_snp {j : Nat} (hj : j < 2) : aldR 5 (putW g n w) (n + 247) (I j) = some (n + hp (9 + j)) := by
  unfold aldR
  rw [B_at (d := 247) (by decide), show cellsW n w 247 = .inr (5, 2, .inr (.inr (rHut (n + 248) 2))) from rfl]
  show (if 5 = 5 then (if outI (I j) 2 then none else rHut (n + 248) 2 (kN (I j))) else none) = _
  rw [if_pos rfl, if_neg (show ¬ outI (I j) 2 from fun h => h.elim (fun h => absurd h (Int32.not_lt.mpr (Int32.zero_le_ofNat_of_lt (by omega)))) (fun h => by
    rw [show (I j).toNatClampNeg = j from I_nat (by omega)] at h; omega)), show kN (I j) = j from I_nat (by omega)]
  unfold rHut
  rw [if_pos hj]
  have e : hp (9 + j) = 27 * (9 + j) + 5 := by unfold hp; rw [if_neg (by omega), if_neg (by omega), if_neg (by omega)]
  congr 1
  omega
theorem W_c302 {v : Nat → Int32} {j : Nat} (h : j ≠ 302) : cellsW n (wV w v) j = cellsW n w j := by
  unfold cellsW
  have e1 : (wV w v).1 = w.1 := rfl
  have e2 : (wV w v).2.1 = w.2.1 := rfl
  have e3 : (wV w v).2.2.2 = w.2.2.2 := rfl
  rw [e1, e2, e3]
  simp only [h, if_false]
theorem W_sav {j : Nat} {x : Int32} (hx : x = I j) (hj : j < 2) : aldI 2 (putW g n w) (n + 302) x = some (w.2.2.1 j) := B_aldI (d := 302) (by decide) (f := w.2.2.1) rfl hx hj (by decide)
theorem W_putV {j : Nat} {x v : Int32} (hx : x = I j) (hj : j < 2) : astI 2 (putW g n w) (n + 302) x v = some (putW g n (wV w (upd w.2.2.1 j v))) := B_astI (d := 302) (by decide) (f := w.2.2.1) rfl hx hj (by decide) rfl (fun i _ hi0 => W_c302 hi0)
theorem W_cut : hcut (putW g n w) = putW (hcut g) n w := rfl
end World2


