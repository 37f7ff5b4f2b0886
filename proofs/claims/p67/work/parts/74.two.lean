/-! two huts: what is read of the one while the other is written -/
section Two
variable {g : AH} {p q : Nat} {h k : HS}
theorem hut_keep (hq : putH g q k = g) (hd : p + 27 ≤ q ∨ q + 27 ≤ p) : putH (putH g p h) q k = putH g p h :=
  (put_comm hd).trans (congrArg (fun z => putH z p h) hq)
theorem Q_getI (hq : putH g q k = g) (hd : p + 27 ≤ q ∨ q + 27 ≤ p) {f : Nat} (hf : f < 13) : getI 3 (putH g p h) q f = some (k.1 f) := by
  rw [← hut_keep (h := h) hq hd]
  exact H_getI hf
theorem Q_getR (hq : putH g q k = g) (hd : p + 27 ≤ q ∨ q + 27 ≤ p) {f d : Nat} (hk0 : f = 12 + d) (h0 : 0 < d) (h1 : d < 7) : getR 3 (putH g p h) q f = some (q + d) := by
  rw [← hut_keep (h := h) hq hd]
  exact H_getR hk0 h0 h1
theorem Q_hik (hq : putH g q k = g) (hd : p + 27 ≤ q ∨ q + 27 ≤ p) {i : Nat} (hi : i < 10) : aldR 4 (putH g p h) (q + 6) (I i) = some (q + (7 + 2 * i)) := by
  rw [← hut_keep (h := h) hq hd]
  exact H_hik hi
theorem Q_kI (hq : putH g q k = g) (hd : p + 27 ≤ q ∨ q + 27 ≤ p) {i f : Nat} (hi : i < 10) (hf : f < 8) : getI 1 (putH g p h) (q + (7 + 2 * i)) f = some (k.2.2.1 i f) := by
  rw [← hut_keep (h := h) hq hd]
  exact K_getI hi hf
theorem Q_kR (hq : putH g q k = g) (hd : p + 27 ≤ q ∨ q + 27 ≤ p) {i : Nat} (hi : i < 10) : getR 1 (putH g p h) (q + (7 + 2 * i)) 8 = some (q + (8 + 2 * i)) := by
  rw [← hut_keep (h := h) hq hd]
  exact K_getR hi
theorem Q_arr (hq : putH g q k = g) (hd : p + 27 ≤ q ∨ q + 27 ≤ p) {d : Nat} (h0 : 0 < d) (h1 : d < 6) : (putH g p h).1 (q + d) = some (.inr (0, hLen d, .inl (k.2.1 d))) := by
  rw [← hut_keep (h := h) hq hd, put_in (by omega), hutB_a h0 h1]
theorem Q_hrs (hq : putH g q k = g) (hd : p + 27 ≤ q ∨ q + 27 ≤ p) {i : Nat} (hi : i < 10) : (putH g p h).1 (q + (8 + 2 * i)) = some (.inr (0, 4, .inl (k.2.2.2 i))) := by
  rw [← hut_keep (h := h) hq hd, put_in (by omega), hutB_o]
end Two


