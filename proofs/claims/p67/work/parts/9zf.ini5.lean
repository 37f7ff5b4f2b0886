/-! the start: the class's constructor -/
section Ini5
variable {f : Nat → Option hE} {n : Nat}
theorem ini8 (r : RS) : ∃ h1 cnt s', x8_init n (T8 f n (w00 r) 0 1) = some ((), Xw f n 312 (wP (wH (w00 r) 0 h1) (pT (pK cnt (tT (wl 0)) (wl 0) s') 1 0))) ∧ Gm st00 h1 := by
  have hw := wl_le (k := 0) (by decide)
  obtain ⟨G1, a1, a1'⟩ := T8_hut (f := f) (n := n) (w := w00 r) (j := 0) (k := 0) (M := 1) (by decide) rfl rfl
  obtain ⟨G2, a2, a2'⟩ := T8_hut (f := f) (n := n) (w := w00 r) (j := 1) (k := 1) (M := 28) (by decide) rfl rfl
  obtain ⟨G3, a3, a3'⟩ := mk5 (f := f) (n := n) (L := 55) (e := sC (cellsW n (w00 r)) 0 (.inl (8, q8 n 2))) rfl (fun d hd => by
    rw [sC_ne (by omega)]
    exact cellW_hut (k := 2) (M := 55 + 1) (by decide) rfl rfl hd)
  obtain ⟨G4, a4, a4'⟩ := mk2 (f := f) (n := n) (L := 83) (e := sC (cellsW n (w00 r)) 0 (.inl (8, q8 n 3))) (by
    rw [sC_ne (by decide)]
    exact congrArg (fun z => (Sum.inl (2, z) : hE)) o2_z) rfl (fun i hi d hd => by
    rw [sC_ne (by omega)]
    exact cellW_hut (k := 3 + i) (M := 83 + 1 + 1 + 27 * i) (by omega) (hp_hi hi).symm rfl hd)
  have a5 := mkHuts (f := f) (n := n) (L := 247) (e := sC (cellsW n (w00 r)) 0 (.inl (8, q8 n 4))) (c := 2) (x := 2) rfl (by decide) rfl (fun i hi d hd => by
    rw [sC_ne (by omega)]
    exact cellW_hut (k := 9 + i) (M := 247 + 1 + 27 * i) (by omega) hp_sn.symm rfl hd)
  have a6 := newA_i (f := f) (n := n) (L := 302) (e := sC (cellsW n (w00 r)) 0 (.inl (8, q8 n 5))) (t := 2) (K := 2) (c := .inl (fun _ => 0)) (x := 2) rfl (by decide) rfl
  obtain ⟨G7, a7, a7'⟩ := mk0 (f := f) (n := n) (L := 303) (e := sC (cellsW n (w00 r)) 0 (.inl (8, q8 n 6))) rfl rfl rfl
  obtain ⟨G8, a8, a8'⟩ := mk6 (f := f) (n := n) (L := 306) (e := sC (cellsW n (w00 r)) 0 (.inl (8, q8 n 7))) (by
    rw [sC_ne (by decide)]
    exact s6_z) rfl rfl rfl
  obtain ⟨G9, a9, a9'⟩ := mk4 (f := f) (n := n) (L := 310) (e := sC (cellsW n (w00 r)) 0 (.inl (8, q8 n 8))) (by
    rw [sC_ne (by decide)]
    exact o4_z) rfl
  have a1' : x3_init (n + 1) G1 = some ((), T8 f n (w00 r) 0 28) := a1'
  have a2' : x3_init (n + 28) G2 = some ((), T8 f n (w00 r) 1 55) := a2'
  have a3 : newO 5 tyX5 (T8 f n (w00 r) 2 55) = some (n + 55, G3) := a3
  have a3' : x5_init (n + 55) G3 = some ((), T8 f n (w00 r) 2 83) := a3'
  have a4 : newO 2 tyX2 (T8 f n (w00 r) 3 83) = some (n + 83, G4) := a4
  have a4' : x2_init (n + 83) G4 = some ((), T8 f n (w00 r) 3 247) := a4'
  have a5 : x8_newHuts 2 (T8 f n (w00 r) 4 247) = some (n + 247, T8 f n (w00 r) 4 302) := a5
  have a6 : newA 2 (.inl (fun _ => 0)) (T8 f n (w00 r) 5 302) 2 = some (n + 302, T8 f n (w00 r) 5 303) := a6
  have a7 : newO 0 tyX0 (T8 f n (w00 r) 6 303) = some (n + 303, G7) := a7
  have a7' : x0_init (n + 303) G7 = some ((), T8 f n (w00 r) 6 306) := a7'
  have a8 : newO 6 tyX6 (T8 f n (w00 r) 7 306) = some (n + 306, G8) := a8
  have a8' : x6_init (n + 306) G8 = some ((), T8 f n (w00 r) 7 310) := a8'
  have a9 : newO 4 tyX4 (T8 f n (w00 r) 8 310) = some (n + 310, G9) := a9
  have a9' : x4_init (n + 310) G9 = some ((), T8 f n (w00 r) 8 312) := a9'
  have hM : 306 ≤ 312 ∧ 312 ≤ 312 := by decide
  have hd : n + 303 + 3 ≤ n + hp 0 ∨ n + hp 0 + 27 ≤ n + 303 := Or.inr (by have := hp_lt (k := 0) (by decide); omega)
  have eA : x7_putAll (n + 304) 0 (Xw f n 312 (w00 r)) = some ((), Xw f n 312 (wP (w00 r) (giC 0 (-1) 0, tiC (I (wl 0)) 0 0 0, tT (wl 0)))) := by
    have := X_putAll (f := f) (n := n) (M := 312) (w := w00 r) (gi := giC 0 (-1) 0) (a := 0) (b := 0) (c := 0) hM
    rw [tT_0] at this
    exact this
  have hread := c_readParts (g := Xw f n 312 (w00 r)) (p := n + 303) (q := n + hp 0) (T := tT (wl 0)) (h := hut0) (cnt := 0) (a := 0) (b := 0) (c := 0) (ec := 0) (ep := -1) (L := wl 0) hd (by omega)
  rw [X_H (by decide) (by decide), X_P hM] at hread
  have e00 : wP (wH (w00 r) 0 hut0) (giC 0 (-1) 0, tiC (I (wl 0)) 0 0 0, tT (wl 0)) = wP (w00 r) (giC 0 (-1) 0, tiC (I (wl 0)) 0 0 0, tT (wl 0)) := congrArg (fun z => wP z (giC 0 (-1) 0, tiC (I (wl 0)) 0 0 0, tT (wl 0))) (wH_self (w := w00 r) (k := 0))
  rw [e00] at hread
  rcases hread with ⟨u, s', cnt', e1, -, -, e3⟩ | ⟨c', e, e1, -⟩
  · rw [su0] at e1
    have e1 : u00 = u := Sum.inl.inj e1
    subst e1
    have hb := suS_ok su0
    obtain ⟨h1, q1, q2, q3, q4, -⟩ := c_openK (g := putP (Xw f n 312 (w00 r)) (n + 303) (pK cnt' (tT (wl 0)) (wl 0) s')) (p := n + hp 0) (st := st00) hb (fun j hj => if_pos hj) hut0_dr
    rw [← GG_sw hd, ← GG_sw hd, X_GG hM, X_GG hM] at q1
    rw [X_GG hM, X_isO3 hM, gb_s, q1, cb_s, if_pos (show bz (1 : Int32) from Or.inr rfl)] at e3
    refine ⟨h1, cnt', s', ?_, q4, q2, q3⟩
    unfold x8_init
    rw [a1, cb_s, a1', cb_s, T8_put (q := n + 1) (by decide) rfl, gb_s, a2, cb_s, a2', cb_s, T8_put (q := n + 28) (by decide) rfl, gb_s, a3, cb_s, a3', cb_s, T8_put (q := n + 55) (by decide) rfl, gb_s, a4, cb_s, a4', cb_s, T8_put (q := n + 83) (by decide) rfl, gb_s, a5, cb_s, T8_put (q := n + 247) (by decide) rfl, gb_s, a6, cb_s, T8_put (q := n + 302) (by decide) rfl, gb_s, a7, cb_s, a7', cb_s, T8_put (q := n + 303) (by decide) rfl, gb_s, a8, cb_s, a8', cb_s, T8_put (q := n + 306) (by decide) rfl, gb_s, a9, cb_s, a9', cb_s, T8_put (q := n + 310) (by decide) rfl, gb_s, T8_9, X_o8 (k := 6) (x := n + 303) (by decide) rfl, gb_s, X_60 hM, gb_s, X_isO7 hM, gb_s, eA, cb_s, X_o8 (k := 6) (x := n + 303) (by decide) rfl, gb_s, X_o8 (k := 0) (x := n + hp 0) (by decide) rfl, gb_s, X_isO0 hM, gb_s, e3, cb_s, X_o8 (k := 6) (x := n + 303) (by decide) rfl, gb_s, X_60 hM, gb_s, X_putT hM (by decide), gb_s]
    rfl
  · rw [su0] at e1
    exact absurd e1 (by simp)
end Ini5


