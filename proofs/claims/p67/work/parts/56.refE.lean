/-! the reference: dawn, an hour, many hours -/
section RefE
variable {g : AH} {m : Nat} {r : RS} {st : St}
def shStep (part : Int32) (s : St × St) (i : Nat) : St × St := (upd s.1 (49 + 10 * i + 2) (hk s.1 i 2 + if hk s.1 i 5 = -1 then part else 0), s.2)
theorem shStep_kp (part : Int32) (s : St × St) (i : Nat) (hi : i < 10) : Kp s.1 (shStep part s i).1 := Kp.refl.up (by omega) (fun j hj => by omega)
def shPart (pot wo : Int32) : Int32 := if wo = 0 then 0 else pot / wo
def shS (pot : Int32) (s : St × St) : St × St :=
  let t := it (shStep (shPart pot (cntW s.1))) (nH s.1) s
  (upd t.1 6 (t.1 6 + (pot - shPart pot (cntW s.1) * cntW s.1)), t.2)
def d1Step (s : St × St) (i : Nat) : St × St := (upd (payS s.1 i 3) 6 (s.1 6 + payP s.1 i 3), upd (upd s.2 i 0) i (upd s.2 i 0 i + 3))
theorem d1Step_kp (s : St × St) (i : Nat) (hi : i < 10) : Kp s.1 (d1Step s i).1 := (pay_kp hi).up (by decide) (fun j hj => by omega)
def fee (st : St) (i : Nat) : Int32 := (thk st i + 2) / 3
def d3Step (s : St × St × Int32) (i : Nat) : St × St × Int32 := (payS s.1 i (fee s.1 i), upd s.2.1 i (s.2.1 i + fee s.1 i), s.2.2 + payP s.1 i (fee s.1 i))
def dawnS (s : St × St) : St × St :=
  let a := plS (it d1Step (nH s.1) s)
  let b := it d3Step (nH s.1) (a.1, a.2, 0)
  shS b.2.2 (b.1, b.2.1)
theorem d3_kp : ∀ n, n ≤ 10 → ∀ s : St × St × Int32, Kp s.1 (it d3Step n s).1 := by
  intro n
  induction n with
  | zero => intro _ s; exact Kp.refl
  | succ n ih => intro hn s; exact (ih (by omega) s).trans (pay_kp (by omega))
theorem plS_kp {s : St × St} (w : Ws s.1) : Kp s.1 (plS s).1 := (it_kp (plStep_kp _ _) _ w.h.2 s).up (by decide) (fun j hj => by omega)
theorem shS_kp {s : St × St} (w : Ws s.1) (pot : Int32) : Kp s.1 (shS pot s).1 := (it_kp (shStep_kp _) _ w.h.2 s).up (by decide) (fun j hj => by omega)
theorem Kp_nH {z z1 : St} (h : Kp z z1) : nH z1 = nH z := by
  unfold nH
  rw [h.1 12 (by decide)]
end RefE


