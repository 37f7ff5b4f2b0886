/-! the reference reads a setup -/
/-- one hiker of a setup -/
def hkW (T : Nat → Int32) (L n s : Nat) : (H3 × Nat) ⊕ Er := if wdB T L 5 s = true then (if 10 ≤ n then .inr (3, s) else hkN T L (nx T L s)) else .inr (1, s)
theorem hksS_W {T : Nat → Int32} {L n s : Nat} {hs : List H3} (h : ¬ (1 ≤ hs.length ∧ tk T L s = 0)) : hksS T L (n + 1) hs s = match hkW T L hs.length s with
    | .inl (t, s') => hksS T L n (hs ++ [t]) s'
    | .inr e => .inr e := by
  rw [hksS, if_neg h]
  unfold hkW
  by_cases h1 : wdB T L 5 s = true
  · rw [if_pos h1, if_pos h1]
    by_cases h2 : 10 ≤ hs.length
    · rw [if_pos h2, if_pos h2]
    · rw [if_neg h2, if_neg h2]
      cases hkN T L (nx T L s) <;> rfl
  · rw [if_neg h1, if_neg h1]
def hkf (t : H3) (f : Nat) (d : Int32) : Int32 := if f = 0 then I t.1 else if f = 1 then I t.2.1 else if f = 2 then I t.2.2 else if f = 4 then -1 else if f = 5 then -1 else d
def sumC (hs : List H3) : Nat := (hs.map (fun t => t.2.2)).sum
theorem sumC_app (hs : List H3) (t : H3) : sumC (hs ++ [t]) = sumC hs + t.2.2 := by
  unfold sumC
  rw [List.map_append, List.sum_append]
  simp
section SPar3
variable {g : AH} {m L s e c : Nat} {T : Nat → Int32} {r0 r : RS} {z : St}
end SPar3


