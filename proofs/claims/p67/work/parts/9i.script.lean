/-! the class reads a script -/
def hi2 (c : Nat) : Nat := if c = 2 then 9 else if c = 7 then 99 else 11
section CScr
variable {g : AH} {p q L s : Nat} {T : Nat → Int32} {t : SS} {sp : PS} {cnt : Int32}
/-- what reading arguments does to the script -/
def Sk (t t' : SS) (k : Nat) : Prop := t'.1 = t.1 ∧ t'.2 1 = t.2 1 ∧ ∀ j, j ≠ k → t'.2 2 j = t.2 2 j ∧ t'.2 3 j = t.2 3 j
theorem Sk.refl {k : Nat} : Sk t t k := ⟨rfl, rfl, fun _ _ => ⟨rfl, rfl⟩⟩
end CScr


