/-! the hut of the class opens -/
theorem sumC_sm (hs : List H3) : ∀ n, n ≤ hs.length → sm (fun i => I (hs.getD i (0, 0, 0)).2.2) n = I (sumC (hs.take n)) := by
  intro n
  induction n with
  | zero => intro _; rfl
  | succ n ih =>
    intro hn
    rw [sm, ih (by omega), I_add, List.take_add_one]
    have e : hs[n]?.toList = [hs.getD n (0, 0, 0)] := by
      rw [List.getElem?_eq_getElem (by omega), List.getD_eq_getElem?_getD, List.getElem?_eq_getElem (by omega)]
      rfl
    rw [e, sumC_app]
section Setup2
variable {g : AH} {p : Nat} {st z : St} {u : Su} {h : HS}
theorem suH_f (k : Nat) : (suH h u).1 k = if k = 12 then I u.2.2.2.2.length else if k = 11 then I u.2.2.2.1.length else if k = 10 then I u.2.2.1.length else if k = 9 then I u.2.1.length else if k = 1 then I u.1 else h.1 k := rfl
theorem suH_a (d : Nat) : (suH h u).2.1 d = if d = 3 then setV (h.2.1 3) u.2.2.2.1 else if d = 2 then setV (h.2.1 2) u.2.2.1 else if d = 1 then setV (h.2.1 1) u.2.1 else h.2.1 d := rfl
theorem suH_k (i f : Nat) : (suH h u).2.2.1 i f = if i < u.2.2.2.2.length ∧ f < 3 then hk3 (u.2.2.2.2.getD i (0, 0, 0)) f else h.2.2.1 i f := rfl
theorem suH_o (i f : Nat) : (suH h u).2.2.2 i f = h.2.2.2 i f := rfl
theorem Rel_set (b : suB u) (hA : ∀ j, j < 149 → st j = zA u j) (d : Dr h) {x : Int32} : Rel (upd st 7 x) (hF (hF (suH h u) 8 (I u.1)) 7 x) := by
  obtain ⟨b0, ⟨b1, b2, b2'⟩, ⟨b3, b3'⟩, ⟨b4, b5, b5'⟩, b6, b7, b8⟩ := b
  have n12 : nH (upd st 7 x) = u.2.2.2.2.length := by unfold nH; rw [upd_ne (by decide), hA 12 (by decide)]; exact I_nat (by omega)
  have n9 : nB (upd st 7 x) = u.2.1.length := by unfold nB; rw [upd_ne (by decide), hA 9 (by decide)]; exact I_nat (by omega)
  have n10 : nL (upd st 7 x) = u.2.2.1.length := by unfold nL; rw [upd_ne (by decide), hA 10 (by decide)]; exact I_nat (by omega)
  have n11 : nF (upd st 7 x) = u.2.2.2.1.length := by unfold nF; rw [upd_ne (by decide), hA 11 (by decide)]; exact I_nat (by omega)
  obtain ⟨⟨d0, d2, d3, d4, d5, d6⟩, dk, dO, da⟩ := d
  have hkv : ∀ i, i < u.2.2.2.2.length → ∀ f, f < 10 → hk (upd st 7 x) i f = hkf (u.2.2.2.2.getD i (0, 0, 0)) f 0 := fun i hi f hf => by
    unfold hk
    rw [upd_ne (by omega), hA _ (by omega), zA_k hi hf]
  have f7 : ∀ k, k ≠ 7 → k ≠ 8 → (hF (hF (suH h u) 8 (I u.1)) 7 x).1 k = (suH h u).1 k := fun k h1 h2 => (hF_ne h1).trans (hF_ne h2)
  have s7 : ∀ k, k ≠ 7 → k < 149 → upd st 7 x k = zA u k := fun k h1 h2 => (upd_ne h1).trans (hA k h2)
  refine ⟨⟨?_, ?_, ?_, ?_, ?_, ?_, ?_, ?_, ?_, ?_, ?_, ?_, ?_⟩, ⟨fun b hb => ?_, fun b hb => ?_, fun b hb => ?_⟩, fun i hi k hk0 => ?_, fun i hi k hk0 => ?_, fun j hj => ?_⟩
  · rw [f7 0 (by decide) (by decide), s7 3 (by decide) (by decide)]; exact d0
  · rw [f7 1 (by decide) (by decide), s7 0 (by decide) (by decide)]; rfl
  · rw [f7 2 (by decide) (by decide), s7 2 (by decide) (by decide)]; exact d2
  · rw [f7 3 (by decide) (by decide), s7 1 (by decide) (by decide)]; exact d3
  · rw [f7 4 (by decide) (by decide), s7 6 (by decide) (by decide)]; exact d4
  · rw [f7 5 (by decide) (by decide), s7 4 (by decide) (by decide)]; exact d5
  · rw [f7 6 (by decide) (by decide), s7 5 (by decide) (by decide)]; exact d6
  · rw [hF_at, upd_at]
  · rw [s7 8 (by decide) (by decide)]; rfl
  · rw [f7 9 (by decide) (by decide), s7 9 (by decide) (by decide)]; rfl
  · rw [f7 10 (by decide) (by decide), s7 10 (by decide) (by decide)]; rfl
  · rw [f7 11 (by decide) (by decide), s7 11 (by decide) (by decide)]; rfl
  · rw [f7 12 (by decide) (by decide), s7 12 (by decide) (by decide)]; rfl
  · rw [n9] at hb
    rw [s7 _ (by omega) (by omega), zA_b (by omega), if_pos hb]
    show setV (h.2.1 1) u.2.1 b = _
    unfold setV
    rw [if_pos hb]
  · rw [n10] at hb
    rw [s7 _ (by omega) (by omega), zA_l (by omega), if_pos hb]
    show setV (h.2.1 2) u.2.2.1 b = _
    unfold setV
    rw [if_pos hb]
  · rw [n11] at hb
    rw [s7 _ (by omega) (by omega), zA_f (by omega), if_pos hb]
    show setV (h.2.1 3) u.2.2.2.1 b = _
    unfold setV
    rw [if_pos hb]
  · rw [n12] at hi
    rw [hkv i hi k (by omega)]
    show (if i < u.2.2.2.2.length ∧ k < 3 then hk3 (u.2.2.2.2.getD i (0, 0, 0)) k else h.2.2.1 i k) = _
    obtain ⟨k3, k4, k5⟩ := dk i (by omega)
    match k, hk0 with
    | 0, _ => rw [if_pos ⟨hi, by decide⟩]; rfl
    | 1, _ => rw [if_pos ⟨hi, by decide⟩]; rfl
    | 2, _ => rw [if_pos ⟨hi, by decide⟩]; rfl
    | 3, _ => rw [if_neg (fun hc => by omega), k3]; rfl
    | 4, _ => rw [if_neg (fun hc => by omega), k4]; rfl
    | 5, _ => rw [if_neg (fun hc => by omega), k5]; rfl
  · rw [n12] at hi
    rw [hkv i hi (6 + k) (by omega)]
    show h.2.2.2 i k = _
    rw [dO i (by omega) k hk0]
    unfold hkf
    rw [if_neg (by omega), if_neg (by omega), if_neg (by omega), if_neg (by omega), if_neg (by omega)]
  · show h.2.1 4 j = _
    rw [da j hj]
    unfold inB
    by_cases hb : isB (upd st 7 x) (I j - 2) = true
    · rw [if_pos hb]
      unfold hw
      have e : ff (hwp (upd st 7 x) 4 (I j - 2)) (nH (upd st 7 x)) = none := by
        match hf : ff (hwp (upd st 7 x) 4 (I j - 2)) (nH (upd st 7 x)) with
        | none => rfl
        | some i =>
          obtain ⟨e1, e2, -⟩ := ff_some hf
          have e3 := hkv i (by omega) 4 (by decide)
          rw [hkf4] at e3
          have e4 : hk (upd st 7 x) i 4 = I j - 2 := of_decide_eq_true e2
          rw [e3] at e4
          rw [← e4] at hb
          exfalso
          revert hb
          unfold isB bt
          rw [show decide ((-1 : Int32) < 0) = true by decide]
          simp
      rw [e]
    · rw [if_neg hb]
theorem sumF_set (b : suB u) (hA : ∀ j, j < 149 → st j = zA u j) {x : Int32} : sumF (upd st 7 x) 2 = I (sumC u.2.2.2.2) := by
  obtain ⟨-, -, -, -, b6, b7, -⟩ := b
  have n12 : nH (upd st 7 x) = u.2.2.2.2.length := by unfold nH; rw [upd_ne (by decide), hA 12 (by decide)]; exact I_nat (by omega)
  unfold sumF
  rw [n12, ← List.take_length (l := u.2.2.2.2), ← sumC_sm _ _ (Nat.le_refl _), List.take_length]
  refine sm_congr _ fun i hi => ?_
  unfold hk
  rw [upd_ne (by omega), hA _ (by omega), zA_k hi (by decide)]
  rfl
theorem c_open (b : suB u) (hA : ∀ j, j < 149 → st j = zA u j) (d : Dr h) : ∃ h1, x3_open p (putH g p (suH h u)) = some ((), putH g p h1) ∧ Rel st h1 ∧ Meas st h1 ∧ Gd st := by
  have G := Gd_set b hA
  have e7 : upd st 7 (I (sumC u.2.2.2.2)) = st := funext fun j => by
    show (if j = 7 then I (sumC u.2.2.2.2) else st j) = st j
    by_cases hj : j = 7
    · rw [if_pos hj, hj, hA 7 (by decide)]; rfl
    · rw [if_neg hj]
  have W7 : Ws (upd st 7 ((hF (suH h u) 8 (I u.1)).1 7)) := (Kp.refl.up (by decide) (fun j hj => by omega) : Kp st _).ws G.1
  have R0 := Rel_set (x := (hF (suH h u) 8 (I u.1)).1 7) b hA d
  have e0 : hF (hF (suH h u) 8 (I u.1)) 7 ((hF (suH h u) 8 (I u.1)).1 7) = hF (suH h u) 8 (I u.1) := by
    unfold hF
    rw [upd_self rfl]
  rw [e0] at R0
  have R1 := Rel_set (x := I (sumC u.2.2.2.2)) b hA d
  rw [e7] at R1
  obtain ⟨h1, m1, m2, m3⟩ := c_measure (g := g) (p := p) G.1 G.2.1 R1
  unfold x3_open
  rw [H_getI (by decide), gb_s, H_putI (by decide), gb_s, H_isO, gb_s, show (suH h u).1 1 = I u.1 from rfl, c_sumOfCoins W7 R0, cb_s, H_putI (by decide), gb_s, sumF_set b hA, H_isO, gb_s, m1, cb_s]
  exact ⟨h1, rfl, m2, m3, G⟩
end Setup2


