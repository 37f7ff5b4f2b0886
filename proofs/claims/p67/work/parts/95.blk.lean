/-! blocks in general; the class's parser, script and output as blocks -/
section Blk
variable {g : AH} {p L d : Nat} {b : Nat → hE}
theorem B_at (hd : d < L) : (put g p L b).1 (p + d) = some (b d) := put_in hd
theorem B_isO {ci : Nat} {f : Nat → Value} (hd : d < L) (hb : b d = .inl (ci, f)) : isO ci (put g p L b) (p + d) = some () := by
  unfold isO
  rw [B_at hd, hb]
  exact if_pos rfl
theorem B_getI {ci k : Nat} {f : Nat → Value} {x : Int32} (hd : d < L) (hb : b d = .inl (ci, f)) (hf : f k = .int x) : getI ci (put g p L b) (p + d) k = some x := by
  unfold getI
  rw [B_at hd, hb]
  show (if ci = ci then (match f k with | .int x => some x | _ => none) else none) = _
  rw [if_pos rfl, hf]
theorem B_getR {ci k : Nat} {f : Nat → Value} {x : Nat} (hd : d < L) (hb : b d = .inl (ci, f)) (hf : f k = .ref x) : getR ci (put g p L b) (p + d) k = some x := by
  unfold getR
  rw [B_at hd, hb]
  show (if ci = ci then (match f k with | .ref x => some x | _ => none) else none) = _
  rw [if_pos rfl, hf]
theorem B_putV {ci k : Nat} {f : Nat → Value} {v : Value} {b1 : Nat → hE} (hd : d < L) (hb : b d = .inl (ci, f)) (h1 : b1 d = .inl (ci, updV f k v)) (h2 : ∀ j, j < L → j ≠ d → b1 j = b j) : putV ci (put g p L b) (p + d) k v = some (put g p L b1) := by
  unfold putV
  rw [B_at hd, hb]
  show (if ci = ci then some (hset (put g p L b) (p + d) (.inl (ci, updV f k v))) else none) = _
  rw [if_pos rfl, hset_put hd]
  refine congrArg some (put_congr fun j hj => ?_)
  by_cases hjd : j = d
  · rw [if_pos hjd, hjd, h1]
  · rw [if_neg hjd, h2 j hj hjd]
theorem B_aldI {t n k : Nat} {f : Nat → Int32} {x : Int32} (hd : d < L) (hb : b d = .inr (t, n, .inl f)) (hx : x = I k) (hk0 : k < n) (hn : n < 2 ^ 31) : aldI t (put g p L b) (p + d) x = some (f k) := by
  unfold aldI
  rw [B_at hd, hb]
  show (if t = t then (if outI x n then none else some (f x.toNatClampNeg)) else none) = _
  rw [if_pos rfl, hx, if_neg (I_out hk0 hn), I_nat (by omega)]
theorem B_astI {t n k : Nat} {f : Nat → Int32} {x v : Int32} {b1 : Nat → hE} (hd : d < L) (hb : b d = .inr (t, n, .inl f)) (hx : x = I k) (hk0 : k < n) (hn : n < 2 ^ 31) (h1 : b1 d = .inr (t, n, .inl (upd f k v))) (h2 : ∀ j, j < L → j ≠ d → b1 j = b j) : astI t (put g p L b) (p + d) x v = some (put g p L b1) := by
  unfold astI
  rw [B_at hd, hb]
  show (if t = t then (if outI x n then none else some (hset (put g p L b) (p + d) (.inr (t, n, .inl (upd f x.toNatClampNeg v))))) else none) = _
  rw [if_pos rfl, hx, if_neg (I_out hk0 hn), I_nat (by omega), hset_put hd]
  refine congrArg some (put_congr fun j hj => ?_)
  by_cases hjd : j = d
  · rw [if_pos hjd, hjd, h1]
  · rw [if_neg hjd, h2 j hj hjd]
theorem B_alen {t n : Nat} {c : (Nat → Int32) ⊕ (Nat → Int64) ⊕ (Nat → Option Nat)} (hd : d < L) (hb : b d = .inr (t, n, c)) : alen t (put g p L b) (p + d) = some (I n) := by
  unfold alen
  rw [B_at hd, hb]
  exact if_pos rfl
end Blk
/-- an object with one reference, in field 0, and ints -/
def oRI (a : Nat) (f : Nat → Int32) : Nat → Value := fun k => if k = 0 then .ref a else .int (f k)
theorem oRI_int {a k : Nat} {f : Nat → Int32} (h : k ≠ 0) : oRI a f k = .int (f k) := if_neg h
theorem oRI_upd {a k : Nat} {f : Nat → Int32} {v : Int32} (h : k ≠ 0) : updV (oRI a f) k (.int v) = oRI a (upd f k v) := by
  funext j
  show (if j = k then Value.int v else oRI a f j) = oRI a (upd f k v) j
  unfold oRI
  by_cases hj : j = k
  · rw [if_pos hj, hj, if_neg h, upd_at]
  · rw [if_neg hj, upd_ne hj]
/-! the parser: grammar, text, bytes -/
abbrev PS : Type := (Nat → Int32) × (Nat → Int32) × (Nat → Int32)
def parB (p : Nat) (s : PS) (d : Nat) : hE := if d = 0 then .inl (0, oRI (p + 1) s.1) else if d = 1 then .inl (7, oRI (p + 2) s.2.1) else .inr (0, 500, .inl s.2.2)
abbrev putP (g : AH) (p : Nat) (s : PS) : AH := put g p 3 (parB p s)
def pG (s : PS) (k : Nat) (v : Int32) : PS := (upd s.1 k v, s.2)
def pT (s : PS) (k : Nat) (v : Int32) : PS := (s.1, upd s.2.1 k v, s.2.2)
def pB (s : PS) (k : Nat) (v : Int32) : PS := (s.1, s.2.1, upd s.2.2 k v)
section Par
variable {g : AH} {p : Nat} {s : PS}
theorem P_isO0 : isO 0 (putP g p s) p = some () := B_isO (d := 0) (f := oRI (p + 1) s.1) (by decide) rfl
theorem P_isO7 : isO 7 (putP g p s) (p + 1) = some () := B_isO (d := 1) (f := oRI (p + 2) s.2.1) (by decide) rfl
theorem P_getR0 : getR 0 (putP g p s) p 0 = some (p + 1) := B_getR (d := 0) (f := oRI (p + 1) s.1) (by decide) rfl rfl
theorem P_getR7 : getR 7 (putP g p s) (p + 1) 0 = some (p + 2) := B_getR (d := 1) (f := oRI (p + 2) s.2.1) (by decide) rfl rfl
theorem P_gI {k : Nat} (h : k ≠ 0) : getI 0 (putP g p s) p k = some (s.1 k) := B_getI (d := 0) (f := oRI (p + 1) s.1) (by decide) rfl (oRI_int h)
theorem P_tI {k : Nat} (h : k ≠ 0) : getI 7 (putP g p s) (p + 1) k = some (s.2.1 k) := B_getI (d := 1) (f := oRI (p + 2) s.2.1) (by decide) rfl (oRI_int h)
theorem P_putG {k : Nat} {v : Int32} (h : k ≠ 0) : putV 0 (putP g p s) p k (.int v) = some (putP g p (pG s k v)) := by
  refine B_putV (d := 0) (f := oRI (p + 1) s.1) (by decide) rfl ?_ (fun j hj hj0 => ?_)
  · rw [oRI_upd h]; rfl
  · unfold parB
    rw [if_neg hj0, if_neg hj0]
    rfl
theorem P_putT {k : Nat} {v : Int32} (h : k ≠ 0) : putV 7 (putP g p s) (p + 1) k (.int v) = some (putP g p (pT s k v)) := by
  refine B_putV (d := 1) (f := oRI (p + 2) s.2.1) (by decide) rfl ?_ (fun j hj hj0 => ?_)
  · rw [oRI_upd h]; rfl
  · unfold parB
    rw [if_neg hj0, if_neg hj0]
    rfl
theorem P_ald {k : Nat} {x : Int32} (hx : x = I k) (hk0 : k < 500) : aldI 0 (putP g p s) (p + 2) x = some (s.2.2 k) := B_aldI (d := 2) (by decide) (f := s.2.2) rfl hx hk0 (by decide)
theorem P_ast {k : Nat} {x v : Int32} (hx : x = I k) (hk0 : k < 500) : astI 0 (putP g p s) (p + 2) x v = some (putP g p (pB s k v)) := by
  refine B_astI (d := 2) (by decide) (f := s.2.2) rfl hx hk0 (by decide) rfl (fun j hj hj0 => ?_)
  have : j = 0 ∨ j = 1 := by omega
  rcases this with rfl | rfl <;> rfl
end Par
/-! the script: an object and three rows of 30 -/
abbrev SS : Type := Int32 × (Nat → Nat → Int32)
def scrB (p : Nat) (s : SS) (d : Nat) : hE := if d = 0 then .inl (6, fun k => if k < 3 then .ref (p + (k + 1)) else .int (if k = 3 then s.1 else 0)) else .inr (0, 30, .inl (s.2 d))
abbrev putS (g : AH) (p : Nat) (s : SS) : AH := put g p 4 (scrB p s)
section Scr
variable {g : AH} {p : Nat} {s : SS}
theorem S_isO : isO 6 (putS g p s) p = some () := by
  have := B_isO (g := g) (p := p) (L := 4) (b := scrB p s) (d := 0) (ci := 6) (by decide) rfl
  exact this
theorem S_getR {k : Nat} (h : k < 3) : getR 6 (putS g p s) p k = some (p + (k + 1)) := by
  refine B_getR (d := 0) (by decide) rfl ?_
  exact if_pos h
theorem S_getI : getI 6 (putS g p s) p 3 = some s.1 := by
  refine B_getI (d := 0) (by decide) rfl ?_
  rfl
theorem S_putI {v : Int32} : putV 6 (putS g p s) p 3 (.int v) = some (putS g p (v, s.2)) := by
  refine B_putV (d := 0) (by decide) rfl ?_ (fun j hj hj0 => ?_)
  · show (Sum.inl (6, _) : hE) = Sum.inl (6, updV _ 3 (.int v))
    refine congrArg (fun z => (Sum.inl (6, z) : hE)) (funext fun k => ?_)
    show (if k < 3 then Value.ref (p + (k + 1)) else .int (if k = 3 then v else 0)) = if k = 3 then Value.int v else (if k < 3 then Value.ref (p + (k + 1)) else .int (if k = 3 then s.1 else 0))
    by_cases hk0 : k = 3
    · rw [hk0]; rfl
    · rw [if_neg hk0, if_neg hk0, if_neg hk0]
  · unfold scrB
    rw [if_neg hj0, if_neg hj0]
theorem S_ald {d k : Nat} {x : Int32} (h0 : 0 < d) (h1 : d < 4) (hx : x = I k) (hk0 : k < 30) : aldI 0 (putS g p s) (p + d) x = some (s.2 d k) :=
  B_aldI h1 (by unfold scrB; rw [if_neg (by omega)]) hx hk0 (by decide)
theorem S_ast {d k : Nat} {x v : Int32} (h0 : 0 < d) (h1 : d < 4) (hx : x = I k) (hk0 : k < 30) : astI 0 (putS g p s) (p + d) x v = some (putS g p (s.1, fun j => if j = d then upd (s.2 d) k v else s.2 j)) := by
  refine B_astI h1 (f := s.2 d) (by unfold scrB; rw [if_neg (by omega)]) hx hk0 (by decide) ?_ (fun j hj hj0 => ?_)
  · unfold scrB
    rw [if_neg (by omega)]
    dsimp only
    rw [if_pos rfl]
  · unfold scrB
    by_cases hj1 : j = 0
    · rw [if_pos hj1, if_pos hj1]
    · rw [if_neg hj1, if_neg hj1]
      dsimp only
      rw [if_neg hj0]
end Scr
/-! the output -/
abbrev OS : Type := Int32 × (Nat → Int32)
def outB (p : Nat) (s : OS) (d : Nat) : hE := if d = 0 then .inl (4, oRI (p + 1) (fun k => if k = 1 then s.1 else 0)) else .inr (0, 400, .inl s.2)
abbrev putO (g : AH) (p : Nat) (s : OS) : AH := put g p 2 (outB p s)
section Out
variable {g : AH} {p : Nat} {s : OS}
theorem O_isO : isO 4 (putO g p s) p = some () := by
  have := B_isO (g := g) (p := p) (L := 2) (b := outB p s) (d := 0) (ci := 4) (by decide) rfl
  exact this
theorem O_getR : getR 4 (putO g p s) p 0 = some (p + 1) := by
  refine B_getR (d := 0) (by decide) rfl ?_
  rfl
theorem O_getI : getI 4 (putO g p s) p 1 = some s.1 := by
  refine B_getI (d := 0) (by decide) rfl ?_
  rfl
theorem O_putI {v : Int32} : putV 4 (putO g p s) p 1 (.int v) = some (putO g p (v, s.2)) := by
  refine B_putV (d := 0) (by decide) rfl ?_ (fun j hj hj0 => ?_)
  · rw [oRI_upd (by decide)]
    show (Sum.inl (4, _) : hE) = Sum.inl (4, _)
    refine congrArg (fun z => (Sum.inl (4, oRI (p + 1) z) : hE)) (funext fun k => ?_)
    show (if k = 1 then v else 0) = if k = 1 then v else if k = 1 then s.1 else 0
    by_cases hk0 : k = 1
    · rw [if_pos hk0, if_pos hk0]
    · rw [if_neg hk0, if_neg hk0, if_neg hk0]
  · unfold outB
    rw [if_neg hj0, if_neg hj0]
theorem O_alen : alen 0 (putO g p s) (p + 1) = some (I 400) := B_alen (d := 1) (by decide) rfl
theorem O_ald {k : Nat} {x : Int32} (hx : x = I k) (hk0 : k < 400) : aldI 0 (putO g p s) (p + 1) x = some (s.2 k) := B_aldI (d := 1) (by decide) rfl hx hk0 (by decide)
theorem O_ast {k : Nat} {x v : Int32} (hx : x = I k) (hk0 : k < 400) : astI 0 (putO g p s) (p + 1) x v = some (putO g p (s.1, upd s.2 k v)) := by
  refine B_astI (d := 1) (by decide) (f := s.2) rfl hx hk0 (by decide) rfl (fun j hj hj0 => ?_)
  have : j = 0 := by omega
  rw [this]
  rfl
end Out


