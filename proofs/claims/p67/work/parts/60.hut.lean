/-! the class's hut as one block of 27 cells -/
abbrev HS : Type := (Nat → Int32) × (Nat → Nat → Int32) × (Nat → Nat → Int32) × (Nat → Nat → Int32)
def hLen (d : Nat) : Nat := if d < 4 then 12 else 16
def hVal (p : Nat) (h : HS) (k : Nat) : Value := if k < 13 then .int (h.1 k) else if k < 19 then .ref (p + (k - 12)) else .null
def kVal (p : Nat) (h : HS) (i k : Nat) : Value := if k < 8 then .int (h.2.2.1 i k) else if k = 8 then .ref (p + (8 + 2 * i)) else .null
def hiks (p : Nat) (i : Nat) : Option Nat := if i < 10 then some (p + (7 + 2 * i)) else none
def hutB (p : Nat) (h : HS) (d : Nat) : hE := if d = 0 then .inl (3, hVal p h) else if d < 6 then .inr (0, hLen d, .inl (h.2.1 d)) else if d = 6 then .inr (4, 10, .inr (.inr (hiks p))) else if d % 2 = 1 then .inl (1, kVal p h ((d - 7) / 2)) else .inr (0, 4, .inl (h.2.2.2 ((d - 8) / 2)))
abbrev putH (g : AH) (p : Nat) (h : HS) : AH := put g p 27 (hutB p h)
def hF (h : HS) (k : Nat) (v : Int32) : HS := (upd h.1 k v, h.2)
def hAr (h : HS) (d : Nat) (z : Nat → Int32) : HS := (h.1, (fun j => if j = d then z else h.2.1 j), h.2.2)
def hK (h : HS) (i k : Nat) (v : Int32) : HS := (h.1, h.2.1, (fun j => if j = i then upd (h.2.2.1 i) k v else h.2.2.1 j), h.2.2.2)
def hO (h : HS) (i : Nat) (z : Nat → Int32) : HS := (h.1, h.2.1, h.2.2.1, fun j => if j = i then z else h.2.2.2 j)
section Hut
variable {g : AH} {p : Nat} {h : HS}
theorem hutB_0 : hutB p h 0 = .inl (3, hVal p h) := if_pos rfl
theorem hutB_a {d : Nat} (h0 : 0 < d) (h1 : d < 6) : hutB p h d = .inr (0, hLen d, .inl (h.2.1 d)) := by
  unfold hutB
  rw [if_neg (by omega), if_pos h1]
theorem hutB_6 : hutB p h 6 = .inr (4, 10, .inr (.inr (hiks p))) := rfl
theorem hutB_k {i : Nat} : hutB p h (7 + 2 * i) = .inl (1, kVal p h i) := by
  unfold hutB
  rw [if_neg (by omega), if_neg (by omega), if_neg (by omega), if_pos (by omega), show (7 + 2 * i - 7) / 2 = i by omega]
theorem hutB_o {i : Nat} : hutB p h (8 + 2 * i) = .inr (0, 4, .inl (h.2.2.2 i)) := by
  unfold hutB
  rw [if_neg (by omega), if_neg (by omega), if_neg (by omega), if_neg (by omega), show (8 + 2 * i - 8) / 2 = i by omega]
theorem H_isO : isO 3 (putH g p h) p = some () := by
  unfold isO
  rw [put_in0 (by decide)]
  rfl
theorem K_isO {i : Nat} (hi : i < 10) : isO 1 (putH g p h) (p + (7 + 2 * i)) = some () := by
  unfold isO
  rw [put_in (by omega), hutB_k]
  rfl
theorem H_getR {k d : Nat} (hk0 : k = 12 + d) (h0 : 0 < d) (h1 : d < 7) : getR 3 (putH g p h) p k = some (p + d) := by
  unfold getR
  rw [put_in0 (by decide), hutB_0]
  show (if 3 = 3 then (match hVal p h k with | .ref x => some x | _ => none) else none) = _
  rw [if_pos rfl, show hVal p h k = .ref (p + d) by unfold hVal; rw [if_neg (by omega), if_pos (by omega), show k - 12 = d by omega]]
theorem H_getI {k : Nat} (h1 : k < 13) : getI 3 (putH g p h) p k = some (h.1 k) := by
  unfold getI
  rw [put_in0 (by decide), hutB_0]
  show (if 3 = 3 then (match hVal p h k with | .int x => some x | _ => none) else none) = _
  rw [if_pos rfl, show hVal p h k = .int (h.1 k) by unfold hVal; rw [if_pos h1]]
theorem K_getI {i k : Nat} (hi : i < 10) (h1 : k < 8) : getI 1 (putH g p h) (p + (7 + 2 * i)) k = some (h.2.2.1 i k) := by
  unfold getI
  rw [put_in (by omega), hutB_k]
  show (if 1 = 1 then (match kVal p h i k with | .int x => some x | _ => none) else none) = _
  rw [if_pos rfl, show kVal p h i k = .int (h.2.2.1 i k) by unfold kVal; rw [if_pos h1]]
theorem K_getR {i : Nat} (hi : i < 10) : getR 1 (putH g p h) (p + (7 + 2 * i)) 8 = some (p + (8 + 2 * i)) := by
  unfold getR
  rw [put_in (by omega), hutB_k]
  show (if 1 = 1 then (match kVal p h i 8 with | .ref x => some x | _ => none) else none) = _
  rw [if_pos rfl, show kVal p h i 8 = .ref (p + (8 + 2 * i)) by unfold kVal; rw [if_neg (by decide), if_pos rfl]]
theorem put_hut {h1 : HS} {d : Nat} {e : hE} (he : e = hutB p h1 d) (ho : ∀ j, j < 27 → j ≠ d → hutB p h j = hutB p h1 j) : put g p 27 (fun j => if j = d then e else hutB p h j) = putH g p h1 := by
  refine put_congr fun j hj => ?_
  by_cases hjd : j = d
  · rw [if_pos hjd, he, hjd]
  · rw [if_neg hjd]
    exact ho j hj hjd
theorem H_putI {k : Nat} {v : Int32} (h1 : k < 13) : putV 3 (putH g p h) p k (.int v) = some (putH g p (hF h k v)) := by
  unfold putV
  rw [put_in0 (by decide), hutB_0]
  show (if 3 = 3 then some (hset (putH g p h) (p + 0) (.inl (3, updV (hVal p h) k (.int v)))) else none) = _
  rw [if_pos rfl, hset_put (by decide)]
  refine congrArg some (put_hut ?_ (fun j hj hjd => ?_))
  · rw [hutB_0]
    refine congrArg (fun z => (Sum.inl (3, z) : hE)) (funext fun j => ?_)
    show (if j = k then Value.int v else hVal p h j) = (if j < 13 then .int (upd h.1 k v j) else if j < 19 then .ref (p + (j - 12)) else .null)
    by_cases hj : j = k
    · rw [if_pos hj, if_pos (by omega), hj, show upd h.1 k v k = v from if_pos rfl]
    · rw [if_neg hj, show upd h.1 k v j = h.1 j from if_neg hj]
      rfl
  · unfold hutB
    rw [if_neg hjd, if_neg hjd]
    rfl
theorem K_putI {i k : Nat} {v : Int32} (hi : i < 10) (h1 : k < 8) : putV 1 (putH g p h) (p + (7 + 2 * i)) k (.int v) = some (putH g p (hK h i k v)) := by
  unfold putV
  rw [put_in (by omega), hutB_k]
  show (if 1 = 1 then some (hset (putH g p h) (p + (7 + 2 * i)) (.inl (1, updV (kVal p h i) k (.int v)))) else none) = _
  rw [if_pos rfl, hset_put (by omega)]
  refine congrArg some (put_hut ?_ (fun j hj hjd => ?_))
  · rw [hutB_k]
    refine congrArg (fun z => (Sum.inl (1, z) : hE)) (funext fun j => ?_)
    show (if j = k then Value.int v else kVal p h i j) = (if j < 8 then .int ((if i = i then upd (h.2.2.1 i) k v else h.2.2.1 i) j) else if j = 8 then .ref (p + (8 + 2 * i)) else .null)
    rw [if_pos (rfl : i = i)]
    by_cases hj : j = k
    · rw [if_pos hj, if_pos (by omega), hj, show upd (h.2.2.1 i) k v k = v from if_pos rfl]
    · rw [if_neg hj, show upd (h.2.2.1 i) k v j = h.2.2.1 i j from if_neg hj]
      rfl
  · unfold hutB
    by_cases a0 : j = 0
    · rw [if_pos a0, if_pos a0]; rfl
    · rw [if_neg a0, if_neg a0]
      by_cases a1 : j < 6
      · rw [if_pos a1, if_pos a1]; rfl
      · rw [if_neg a1, if_neg a1]
        by_cases a2 : j = 6
        · rw [if_pos a2, if_pos a2]
        · rw [if_neg a2, if_neg a2]
          by_cases a3 : j % 2 = 1
          · rw [if_pos a3, if_pos a3]
            refine congrArg (fun z => (Sum.inl (1, z) : hE)) (funext fun q => ?_)
            unfold kVal hK
            dsimp only
            rw [if_neg (show ¬ (j - 7) / 2 = i by omega)]
          · rw [if_neg a3, if_neg a3]; rfl
theorem H_alen {d : Nat} (h0 : 0 < d) (h1 : d < 6) : alen 0 (putH g p h) (p + d) = some (I (hLen d)) := by
  unfold alen
  rw [put_in (by omega), hutB_a h0 h1]
  rfl
theorem H_alen6 : alen 4 (putH g p h) (p + 6) = some (I 10) := by
  unfold alen
  rw [put_in (by omega), hutB_6]
  rfl
theorem H_ald {d k : Nat} {x : Int32} (h0 : 0 < d) (h1 : d < 6) (hx : x = I k) (hk0 : k < hLen d) : aldI 0 (putH g p h) (p + d) x = some (h.2.1 d k) := by
  have hb : hLen d ≤ 16 := by unfold hLen; split <;> decide
  unfold aldI
  rw [put_in (by omega), hutB_a h0 h1]
  show (if 0 = 0 then (if outI x (hLen d) then none else some (h.2.1 d x.toNatClampNeg)) else none) = _
  rw [if_pos rfl, hx, if_neg (I_out hk0 (by omega)), I_nat (by omega)]
theorem H_ast {d k : Nat} {x v : Int32} (h0 : 0 < d) (h1 : d < 6) (hx : x = I k) (hk0 : k < hLen d) : astI 0 (putH g p h) (p + d) x v = some (putH g p (hAr h d (upd (h.2.1 d) k v))) := by
  have hb : hLen d ≤ 16 := by unfold hLen; split <;> decide
  unfold astI
  rw [put_in (by omega), hutB_a h0 h1]
  show (if 0 = 0 then (if outI x (hLen d) then none else some (hset (putH g p h) (p + d) (.inr (0, hLen d, .inl (upd (h.2.1 d) x.toNatClampNeg v))))) else none) = _
  rw [if_pos rfl, hx, if_neg (I_out hk0 (by omega)), I_nat (by omega), hset_put (by omega)]
  refine congrArg some (put_hut ?_ (fun j hj hjd => ?_))
  · rw [hutB_a h0 h1]
    show _ = (Sum.inr (0, hLen d, .inl (if d = d then upd (h.2.1 d) k v else h.2.1 d)) : hE)
    rw [if_pos rfl]
  · unfold hutB
    by_cases a0 : j = 0
    · rw [if_pos a0, if_pos a0]; rfl
    · rw [if_neg a0, if_neg a0]
      by_cases a1 : j < 6
      · rw [if_pos a1, if_pos a1]
        show _ = (Sum.inr (0, hLen j, .inl (if j = d then upd (h.2.1 d) k v else h.2.1 j)) : hE)
        rw [if_neg hjd]
      · rw [if_neg a1, if_neg a1]
        rfl
theorem H_hik {i : Nat} (hi : i < 10) : aldR 4 (putH g p h) (p + 6) (I i) = some (p + (7 + 2 * i)) := by
  unfold aldR
  rw [put_in (by omega), hutB_6]
  show (if 4 = 4 then (if outI (I i) 10 then none else hiks p (I i).toNatClampNeg) else none) = _
  rw [if_pos rfl, if_neg (I_out hi (by decide)), I_nat (by omega)]
  exact if_pos hi
theorem K_ald {i j : Nat} {x : Int32} (hi : i < 10) (hx : x = I j) (hj : j < 4) : aldI 0 (putH g p h) (p + (8 + 2 * i)) x = some (h.2.2.2 i j) := by
  unfold aldI
  rw [put_in (by omega), hutB_o]
  show (if 0 = 0 then (if outI x 4 then none else some (h.2.2.2 i x.toNatClampNeg)) else none) = _
  rw [if_pos rfl, hx, if_neg (I_out hj (by decide)), I_nat (by omega)]
theorem K_ast {i k : Nat} {x v : Int32} (hi : i < 10) (hx : x = I k) (hk0 : k < 4) : astI 0 (putH g p h) (p + (8 + 2 * i)) x v = some (putH g p (hO h i (upd (h.2.2.2 i) k v))) := by
  unfold astI
  rw [put_in (by omega), hutB_o]
  show (if 0 = 0 then (if outI x 4 then none else some (hset (putH g p h) (p + (8 + 2 * i)) (.inr (0, 4, .inl (upd (h.2.2.2 i) x.toNatClampNeg v))))) else none) = _
  rw [if_pos rfl, hx, if_neg (I_out hk0 (by decide)), I_nat (by omega), hset_put (by omega)]
  refine congrArg some (put_hut ?_ (fun j hj hjd => ?_))
  · rw [hutB_o]
    show _ = (Sum.inr (0, 4, .inl (if i = i then upd (h.2.2.2 i) k v else h.2.2.2 i)) : hE)
    rw [if_pos rfl]
  · unfold hutB
    by_cases a0 : j = 0
    · rw [if_pos a0, if_pos a0]; rfl
    · rw [if_neg a0, if_neg a0]
      by_cases a1 : j < 6
      · rw [if_pos a1, if_pos a1]; rfl
      · rw [if_neg a1, if_neg a1]
        by_cases a2 : j = 6
        · rw [if_pos a2, if_pos a2]
        · rw [if_neg a2, if_neg a2]
          by_cases a3 : j % 2 = 1
          · rw [if_pos a3, if_pos a3]; rfl
          · rw [if_neg a3, if_neg a3]
            show _ = (Sum.inr (0, 4, .inl (if (j - 8) / 2 = i then upd (h.2.2.2 i) k v else h.2.2.2 ((j - 8) / 2))) : hE)
            rw [if_neg (by omega)]
end Hut


