/-! the reference's object as one block of 11 cells -/
abbrev RS : Type := (Nat → Int32) × (Nat → Nat → Int32)
def rKind (d : Nat) : Nat := match d with
  | 5 => 2
  | 7 => 1
  | 9 => 2
  | 10 => 1
  | _ => 0
def rLen (d : Nat) : Nat := match d with
  | 1 => 149
  | 2 => 149
  | 3 => 894
  | 4 => 298
  | 5 => 2
  | 6 => 10
  | 7 => 500
  | 8 => 93
  | 9 => 12
  | _ => 300
def rSlot (k : Nat) : Option Nat := match k with
  | 0 => some 1
  | 1 => some 2
  | 2 => some 3
  | 3 => some 4
  | 4 => some 5
  | 7 => some 6
  | 8 => some 7
  | 16 => some 8
  | 18 => some 9
  | 19 => some 10
  | _ => none
def rVal (m : Nat) (r : RS) (k : Nat) : Value := match rSlot k with
  | some d => .ref (m + d)
  | none => .int (r.1 k)
def refB (m : Nat) (r : RS) (d : Nat) : hE := if d = 0 then .inl (9, rVal m r) else .inr (rKind d, rLen d, .inl (r.2 d))
abbrev putR (g : AH) (m : Nat) (r : RS) : AH := put g m 11 (refB m r)
def RS_setF (r : RS) (k : Nat) (v : Int32) : RS := (upd r.1 k v, r.2)
def RS_setA (r : RS) (d : Nat) (z : Nat → Int32) : RS := (r.1, fun j => if j = d then z else r.2 j)
theorem R_isO {g : AH} {m : Nat} {r : RS} : isO 9 (putR g m r) m = some () := by
  unfold isO
  rw [put_in0 (by decide)]
  rfl
theorem R_getR {g : AH} {m : Nat} {r : RS} {k d : Nat} (h : rSlot k = some d) : getR 9 (putR g m r) m k = some (m + d) := by
  unfold getR
  rw [put_in0 (by decide)]
  show (if 9 = 9 then (match rVal m r k with | .ref x => some x | _ => none) else none) = _
  rw [if_pos rfl, show rVal m r k = .ref (m + d) by unfold rVal; rw [h]]
theorem R_getI {g : AH} {m : Nat} {r : RS} {k : Nat} (h : rSlot k = none) : getI 9 (putR g m r) m k = some (r.1 k) := by
  unfold getI
  rw [put_in0 (by decide)]
  show (if 9 = 9 then (match rVal m r k with | .int x => some x | _ => none) else none) = _
  rw [if_pos rfl, show rVal m r k = .int (r.1 k) by unfold rVal; rw [h]]
theorem R_putI {g : AH} {m : Nat} {r : RS} {k : Nat} {v : Int32} (h : rSlot k = none) : putV 9 (putR g m r) m k (.int v) = some (putR g m (RS_setF r k v)) := by
  unfold putV
  rw [put_in0 (by decide)]
  show (if 9 = 9 then some (hset (putR g m r) (m + 0) (.inl (9, updV (rVal m r) k (.int v)))) else none) = _
  rw [if_pos rfl, hset_put (by decide)]
  refine congrArg some (put_congr fun d _ => ?_)
  by_cases hd : d = 0
  · subst hd
    rw [if_pos rfl]
    show (Sum.inl _ : hE) = refB m (RS_setF r k v) 0
    unfold refB
    rw [if_pos rfl]
    refine congrArg (fun z => (Sum.inl (9, z) : hE)) (funext fun j => ?_)
    show (if j = k then Value.int v else rVal m r j) = rVal m (RS_setF r k v) j
    by_cases hj : j = k
    · subst hj
      rw [if_pos rfl]
      unfold rVal
      rw [h]
      show _ = Value.int (if j = j then v else r.1 j)
      rw [if_pos rfl]
    · rw [if_neg hj]
      unfold rVal
      cases rSlot j with
      | some d => rfl
      | none =>
        show Value.int (r.1 j) = Value.int (if j = k then v else r.1 j)
        rw [if_neg hj]
  · rw [if_neg hd]
    unfold refB
    rw [if_neg hd, if_neg hd]
    rfl
theorem R_at {g : AH} {m : Nat} {r : RS} {d : Nat} (h0 : 0 < d) (h1 : d < 11) : (putR g m r).1 (m + d) = some (.inr (rKind d, rLen d, .inl (r.2 d))) := by
  rw [put_in h1]
  unfold refB
  rw [if_neg (by omega)]
theorem R_ald {g : AH} {m : Nat} {r : RS} {t d : Nat} {i : Int32} (h0 : 0 < d) (h1 : d < 11) (ht : rKind d = t) (hi : ¬ outI i (rLen d)) : aldI t (putR g m r) (m + d) i = some (r.2 d i.toNatClampNeg) := by
  unfold aldI
  rw [R_at h0 h1]
  show (if rKind d = t then (if outI i (rLen d) then none else some (r.2 d i.toNatClampNeg)) else none) = _
  rw [if_pos ht, if_neg hi]
theorem R_ast {g : AH} {m : Nat} {r : RS} {t d : Nat} {i x : Int32} (h0 : 0 < d) (h1 : d < 11) (ht : rKind d = t) (hi : ¬ outI i (rLen d)) : astI t (putR g m r) (m + d) i x = some (putR g m (RS_setA r d (upd (r.2 d) i.toNatClampNeg x))) := by
  unfold astI
  rw [R_at h0 h1]
  show (if rKind d = t then (if outI i (rLen d) then none else some (hset (putR g m r) (m + d) (.inr (t, rLen d, .inl (upd (r.2 d) i.toNatClampNeg x))))) else none) = _
  rw [if_pos ht, if_neg hi, hset_put h1]
  refine congrArg some (put_congr fun j _ => ?_)
  by_cases hj : j = d
  · subst hj
    rw [if_pos rfl]
    unfold refB
    rw [if_neg (by omega), ← ht]
    show _ = (Sum.inr (rKind j, rLen j, .inl (if j = j then upd (r.2 j) i.toNatClampNeg x else r.2 j)) : hE)
    rw [if_pos rfl]
  · rw [if_neg hj]
    unfold refB
    by_cases h2 : j = 0
    · rw [if_pos h2, if_pos h2]
      rfl
    · rw [if_neg h2, if_neg h2]
      show _ = (Sum.inr (rKind j, rLen j, .inl (if j = d then _ else r.2 j)) : hE)
      rw [if_neg hj]
theorem R_aldN {g : AH} {m : Nat} {r : RS} {t d k : Nat} (h0 : 0 < d) (h1 : d < 11) (ht : rKind d = t) (hi : k < rLen d) : aldI t (putR g m r) (m + d) (I k) = some (r.2 d k) := by
  have hb : rLen d < 2 ^ 31 := by unfold rLen; split <;> decide
  rw [R_ald h0 h1 ht (I_out hi hb), I_nat (by omega)]
theorem R_astN {g : AH} {m : Nat} {r : RS} {t d k : Nat} {x : Int32} (h0 : 0 < d) (h1 : d < 11) (ht : rKind d = t) (hi : k < rLen d) : astI t (putR g m r) (m + d) (I k) x = some (putR g m (RS_setA r d (upd (r.2 d) k x))) := by
  have hb : rLen d < 2 ^ 31 := by unfold rLen; split <;> decide
  rw [R_ast h0 h1 ht (I_out hi hb), I_nat (by omega)]


