/-! predictions of the class -/
theorem loop_fnd {body : Int32 → AH → Option ((Int32 ⊕ (Unit ⊕ Int32)) × AH)} {n fuel : Nat} (p : Nat → Bool) (P : Nat → AH → Prop) (hs : ∀ i g, i < n → P i g → p i = false → ∃ g1, body (I i) g = some (.inl (I (i + 1)), g1) ∧ P (i + 1) g1) (hy : ∀ i g, i < n → P i g → p i = true → ∃ g1, body (I i) g = some (.inr (.inr (I i)), g1) ∧ ∃ j, P j g1) (he : ∀ g, P n g → ∃ g1, body (I n) g = some (.inr (.inl ()), g1) ∧ ∃ j, P j g1) (hf : n < fuel) {g : AH} (h0 : P 0 g) :
    ∃ g1, loopX body fuel 0 g = some ((match ff p n with | some k => Sum.inr (I k) | none => Sum.inl ()), g1) ∧ ∃ j, P j g1 := by
  have H : ∀ k i : Nat, i + k = n → ∀ f : Nat, k < f → ∀ g, P i g → ∃ g1, loopX body f (I i) g = some ((match ffa p i k with | some k => Sum.inr (I k) | none => Sum.inl ()), g1) ∧ ∃ j, P j g1 := by
    intro k
    induction k with
    | zero =>
      intro i hi f hf g hP
      match f, hf with
      | f + 1, _ =>
        have e : i = n := by omega
        subst e
        obtain ⟨g1, e1, e2⟩ := he g hP
        exact ⟨g1, by rw [loopX, e1]; rfl, e2⟩
    | succ k ih =>
      intro i hi f hf g hP
      match f, hf with
      | f + 1, hf =>
        rw [ffa]
        by_cases hp : p i = true
        · obtain ⟨g1, e1, e2⟩ := hy i g (by omega) hP hp
          exact ⟨g1, by rw [loopX, e1, if_pos hp], e2⟩
        · obtain ⟨g1, e1, e2⟩ := hs i g (by omega) hP (by simpa using hp)
          obtain ⟨g2, e3, e4⟩ := ih (i + 1) (by omega) f (by omega) g1 e2
          exact ⟨g2, by rw [loopX, e1, if_neg hp]; exact e3, e4⟩
  exact H n 0 (by omega) fuel hf g h0
/-- the states from dawn to dawn -/
def dwS (s : St × St) : Nat → St × St
  | 0 => s
  | k + 1 => manyS (toDawn (dwS s k).1) (dwS s k)
def dwU (s : St × St) : Nat → St × St
  | 0 => s
  | k + 1 => manyU (toDawn (dwU s k).1) (dwU s k)
theorem toDawn_le (st : St) : 1 ≤ toDawn st ∧ toDawn st ≤ 8 := by
  unfold toDawn
  have := Nat.mod_lt (nT st) (show 0 < 8 by decide)
  omega
theorem dw_ok {s : St × St} (w : Ws s.1) : ∀ k, nT s.1 + 8 * k ≤ 20000 → Ws (dwS s k).1 ∧ Ws (dwU s k).1 ∧ nT (dwS s k).1 ≤ nT s.1 + 8 * k ∧ nT (dwU s k).1 = nT (dwS s k).1 ∧ E2 (dwU s k) (dwS s k) := by
  intro k
  induction k with
  | zero => intro _; exact ⟨w, w, Nat.le_refl _, rfl, Eh.refl, rfl⟩
  | succ k ih =>
    intro hk0
    obtain ⟨h1, h2, h3, h4, h5⟩ := ih (by omega)
    have ht : toDawn (dwU s k).1 = toDawn (dwS s k).1 := by unfold toDawn; rw [h4]
    have hle := toDawn_le (dwS s k).1
    obtain ⟨a1, a2⟩ := manyS_ws h1 (toDawn (dwS s k).1) (by omega)
    obtain ⟨b1, b2⟩ := manyU_ws h2 (toDawn (dwU s k).1) (by rw [ht]; omega)
    have e1 := E2_many h2 (toDawn (dwU s k).1) (by rw [ht]; omega)
    have hS : ∀ n, nT (dwU s k).1 + n ≤ 20000 → E2 (manyU n (dwU s k)) (manyS n (dwS s k)) := by
      intro n
      induction n with
      | zero => intro _; exact h5
      | succ n ihn =>
        intro hn
        obtain ⟨u1, u2⟩ := manyU_ws h2 n (by omega)
        obtain ⟨v1, v2⟩ := manyS_ws h1 n (by omega)
        exact E2_hour (s := manyU n (dwU s k)) (s1 := manyS n (dwS s k)) u1 v1 (by rw [u2]; omega) (ihn (by omega))
    refine ⟨a1, b1, ?_, ?_, ?_⟩
    · show nT (manyS (toDawn (dwS s k).1) (dwS s k)).1 ≤ _
      rw [a2]; omega
    · show nT (manyU (toDawn (dwU s k).1) (dwU s k)).1 = nT (manyS (toDawn (dwS s k).1) (dwS s k)).1
      rw [a2, b2, ht, h4]
    · show E2 (manyU (toDawn (dwU s k).1) (dwU s k)) (manyS (toDawn (dwS s k).1) (dwS s k))
      rw [ht]
      exact hS _ (by omega)
def ddP (s : St × St) (i k : Nat) : Bool := decide (0 < hk (dwS s k).1 i 3)
def nlP (s : St × St) (k : Nat) : Bool := decide ((manyS k s).1 0 = 0)
/-- how often a thing happens until dawn, with a rate -/
def hwV (st : St) (v : Int32) (d : Nat) : Int32 := sumF (manyZ (toDawn st) (upd st 1 v)) (6 + d) - sumF st (6 + d)
def rnP (st : St) (k : Nat) : Bool := decide (hwV st (I k) 0 = 0)
def brS (st : St) : Nat → Nat × Int32
  | 0 => (0, hwV st (I 0) 2)
  | k + 1 => if (brS st k).2 < hwV st (I (k + 1)) 2 then (k + 1, hwV st (I (k + 1)) 2) else brS st k
def payV (s : St × St) (i : Nat) : Int32 := dueV (burnS (manyU (toDawn s.1 - 1) s).1) i
theorem hour_lo {s : St × St} (w : Ws s.1) {q : Nat} (h1 : 7 ≤ q) (h2 : q < 49) : (hourS s).1 q = s.1 q := by
  have wb := (burn_kp s.1).ws w
  have hm : ¬ mi q := by rintro (h | ⟨i, h | h⟩) <;> omega
  have e1 : (hourS s).1 q = (ntS (burnS s.1, s.2)).1 q := Ch.fin _ q hm
  have e2 : (ntS (burnS s.1, s.2)).1 q = burnS s.1 q := (E2_nt (nH (burnS s.1)) wb.h.2 (burnS s.1, s.2)).1.lo h2
  rw [e1, e2, Ch.burn q hm]
theorem many_lo {s : St × St} (w : Ws s.1) {q : Nat} (h1 : 7 ≤ q) (h2 : q < 49) : ∀ n, nT s.1 + n ≤ 20000 → (manyS n s).1 q = s.1 q := by
  intro n
  induction n with
  | zero => intro _; rfl
  | succ n ih =>
    intro hn
    obtain ⟨w1, t1⟩ := manyS_ws w n (by omega)
    show (hourS (manyS n s)).1 q = _
    rw [hour_lo w1 h1 h2, ih (by omega)]
theorem many_nH {s : St × St} (w : Ws s.1) (n : Nat) (hn : nT s.1 + n ≤ 20000) : nH (manyS n s).1 = nH s.1 := by
  unfold nH
  rw [many_lo w (by decide) (by decide) n hn]
theorem manyU_nH {s : St × St} (w : Ws s.1) (n : Nat) (hn : nT s.1 + n ≤ 20000) : nH (manyU n s).1 = nH s.1 := by
  rw [← (E2_many w n hn).1.nh, many_nH w n hn]
theorem dwU_nH {s : St × St} (w : Ws s.1) : ∀ k, nT s.1 + 8 * k ≤ 20000 → nH (dwU s k).1 = nH s.1 := by
  intro k
  induction k with
  | zero => intro _; rfl
  | succ k ih =>
    intro hk0
    obtain ⟨h1, h2, h3, h4, h5⟩ := dw_ok w k (by omega)
    have hle := toDawn_le (dwU s k).1
    show nH (manyU (toDawn (dwU s k).1) (dwU s k)).1 = _
    rw [manyU_nH h2 _ (by omega), ih (by omega)]
section CPred
variable {g : AH} {t q pl : Nat} {h k : HS} {st : St}
theorem c_toDawn (w : Ws st) (R : Rel st h) {p : Nat} : x3_hoursToDawn p (putH g p h) = some (I (toDawn st), putH g p h) := by
  unfold x3_hoursToDawn
  rw [H_getI (by decide), gb_s, R.1.1, w.t.1, mod8 (by have := w.t.2; omega), show (8 : Int32) = I 8 from rfl, I_sub (by omega)]
  rfl

theorem Q_isO (hq : putH g q k = g) (hd : t + 27 ≤ q ∨ q + 27 ≤ t) : isO 3 (putH g t h) q = some () := by
  rw [← hut_keep (h := h) hq hd]
  exact H_isO
theorem Q_kald (hq : putH g q k = g) (hd : t + 27 ≤ q ∨ q + 27 ≤ t) {i j : Nat} {x : Int32} (hi : i < 10) (hx : x = I j) (hj : j < 4) : aldI 0 (putH g t h) (q + (8 + 2 * i)) x = some (k.2.2.2 i j) := by
  rw [← hut_keep (h := h) hq hd]
  exact K_ald hi hx hj
theorem c_temperatureIn (hq : putH g q k = g) (hd : t + 27 ≤ q ∨ q + 27 ≤ t) (hpl : ∀ h, getR 5 (putH g t h) pl 0 = some t) (w : Ws st) (R : Rel st k) (M : Meas st k) {n : Nat} (hn : n < 1000) (hT : nT st + n ≤ 20000) (du : St) : ∃ h1, x5_temperatureIn pl q (I n) (putH g t h) = some (ins (manyS n (st, du)).1, putH g t h1) := by
  obtain ⟨h1, e1, c1⟩ := c_copyFrom (h := h) hq hd w.h.2 ((Rel_at R 12 (by decide)).trans w.h.1)
  have R1 := Rel_cp w R c1
  have M1 := Meas_cp M c1
  obtain ⟨h2, e2, R2, C2⟩ := c_passTimeU (g := g) (p := t) (s0 := (st, du)) w hT hn R1 M1.cv
  obtain ⟨w2, -⟩ := manyU_ws (s := (st, du)) w n hT
  have e := E2_many (s := (st, du)) w n hT
  unfold x5_temperatureIn
  rw [hpl, gb_s, H_isO, gb_s, e1, cb_s, hpl, gb_s, H_isO, gb_s, e2, cb_s, hpl, gb_s, H_isO, gb_s, c_inside w2 R2, cb_s, Ag_ins e.1.ag w2]
  exact ⟨h2, rfl⟩
theorem c_shiversToDawn (hq : putH g q k = g) (hd : t + 27 ≤ q ∨ q + 27 ≤ t) (hpl : ∀ h, getR 5 (putH g t h) pl 0 = some t) (w : Ws st) (u : Un st) (R : Rel st k) {i : Nat} (hi : i < nH st) (hT : nT st + 8 ≤ 20000) (du : St) : ∃ h1, x5_shiversToDawn pl q (I i) (putH g t h) = some (hk (manyS (toDawn st) (st, du)).1 i 6 - hk st i 6, putH g t h1) := by
  have hi0 : i < 10 := by have := w.h.2; omega
  have hle := toDawn_le st
  obtain ⟨h1, e1, c1⟩ := c_copyFrom (h := h) hq hd w.h.2 ((Rel_at R 12 (by decide)).trans w.h.1)
  have R1 := Rel_cp w R c1
  obtain ⟨h2, e2, R2, M2⟩ := c_passTime (g := g) (p := t) (s0 := (st, du)) (n := toDawn st) w u (by show nT st + _ ≤ _; omega) (by omega) R1
  have hn2 : nH (manyS (toDawn st) (st, du)).1 = nH st := many_nH (s := (st, du)) w _ (by show nT st + _ ≤ _; omega)
  unfold x5_shiversToDawn
  rw [hpl, gb_s, H_isO, gb_s, e1, cb_s, hpl, gb_s, Q_isO hq hd, gb_s, atq hq hd (fun G => c_toDawn (g := G) w R), cb_s, H_isO, gb_s, e2, cb_s, hpl, gb_s, H_getR (d := 6) rfl (by decide) (by decide), gb_s, H_hik hi0, gb_s, K_getR hi0, gb_s, K_ald hi0 (show (0 : Int32) = I 0 from rfl) (by decide), gb_s, Q_getR (d := 6) hq hd rfl (by decide) (by decide), gb_s, Q_hik hq hd hi0, gb_s, Q_kR hq hd hi0, gb_s, Q_kald hq hd hi0 (show (0 : Int32) = I 0 from rfl) (by decide), gb_s, R2.2.2.2.1 i (by rw [hn2]; exact hi) 0 (by decide), R.2.2.2.1 i hi 0 (by decide)]
  exact ⟨h2, rfl⟩
theorem c_debtIn (hq : putH g q k = g) (hd : t + 27 ≤ q ∨ q + 27 ≤ t) (hpl : ∀ h, getR 5 (putH g t h) pl 0 = some t) (w : Ws st) (R : Rel st k) (M : Meas st k) {i n : Nat} (hi : i < nH st) (hn : n < 1000) (hT : nT st + n ≤ 20000) (du : St) : ∃ h1, x5_debtIn pl q (I i) (I n) (putH g t h) = some (hk (manyS n (st, du)).1 i 3, putH g t h1) := by
  have hi0 : i < 10 := by have := w.h.2; omega
  obtain ⟨h1, e1, c1⟩ := c_copyFrom (h := h) hq hd w.h.2 ((Rel_at R 12 (by decide)).trans w.h.1)
  have R1 := Rel_cp w R c1
  have M1 := Meas_cp M c1
  obtain ⟨h2, e2, R2, C2⟩ := c_passTimeU (g := g) (p := t) (s0 := (st, du)) w hT hn R1 M1.cv
  have e := E2_many (s := (st, du)) w n hT
  have hn2 : nH (manyU n (st, du)).1 = nH st := manyU_nH (s := (st, du)) w n hT
  unfold x5_debtIn
  rw [hpl, gb_s, H_isO, gb_s, e1, cb_s, hpl, gb_s, H_isO, gb_s, e2, cb_s, hpl, gb_s, H_getR (d := 6) rfl (by decide) (by decide), gb_s, H_hik hi0, gb_s, K_getI hi0 (by decide), gb_s, R2.2.2.1 i (by rw [hn2]; exact hi) 3 (by decide), e.1.h6 (f := 3) (by decide)]
  exact ⟨h2, rfl⟩
theorem c_paymentNext (hq : putH g q k = g) (hd : t + 27 ≤ q ∨ q + 27 ≤ t) (hpl : ∀ h, getR 5 (putH g t h) pl 0 = some t) (w : Ws st) (R : Rel st k) (M : Meas st k) {i : Nat} (hi : i < nH st) (hT : nT st + 8 ≤ 20000) (du : St) : ∃ h1, x5_paymentNextDawn pl q (I i) (putH g t h) = some (payV (st, du) i, putH g t h1) := by
  have hi0 : i < 10 := by have := w.h.2; omega
  have hle := toDawn_le st
  obtain ⟨h1, e1, c1⟩ := c_copyFrom (h := h) hq hd w.h.2 ((Rel_at R 12 (by decide)).trans w.h.1)
  have R1 := Rel_cp w R c1
  have M1 := Meas_cp M c1
  have hT2 : nT (st, du).1 + (toDawn st - 1) ≤ 20000 := by show nT st + _ ≤ _; omega
  obtain ⟨h2, e2, R2, C2⟩ := c_passTimeU (g := g) (p := t) (s0 := (st, du)) (n := toDawn st - 1) w hT2 (by omega) R1 M1.cv
  obtain ⟨w2, -⟩ := manyU_ws (s := (st, du)) w (toDawn st - 1) hT2
  obtain ⟨h3, e3, R3, C3⟩ := c_burnLogs (g := g) (p := t) w2 R2
  have kb := burn_kp (manyU (toDawn st - 1) (st, du)).1
  have w3 := kb.ws w2
  have C4 := C3 _ (burn_cv w2 C2)
  have hn2 : nH (burnS (manyU (toDawn st - 1) (st, du)).1) = nH st := by rw [Kp_nH kb]; exact manyU_nH (s := (st, du)) w _ hT2
  unfold x5_paymentNextDawn x1_feeForBlanket
  rw [hpl, gb_s, H_isO, gb_s, e1, cb_s, hpl, gb_s, Q_isO hq hd, gb_s, atq hq hd (fun G => c_toDawn (g := G) w R), cb_s, H_isO, gb_s, show (1 : Int32) = I 1 from rfl, I_sub hle.1, e2, cb_s, hpl, gb_s, H_isO, gb_s, e3, cb_s, hpl, gb_s, H_isO, gb_s, c_partOfLogs w3 R3 (by rw [hn2]; exact hi), cb_s, hpl, gb_s, H_getR (d := 6) rfl (by decide) (by decide), gb_s, H_hik hi0, gb_s, K_isO hi0, gb_s, K_getI hi0 (by decide), gb_s, cb_s, C4 i (by rw [hn2]; exact hi)]
  exact ⟨h3, rfl⟩
theorem c_dawnsToDebt (hq : putH g q k = g) (hd : t + 27 ≤ q ∨ q + 27 ≤ t) (hpl : ∀ h, getR 5 (putH g t h) pl 0 = some t) (w : Ws st) (R : Rel st k) (M : Meas st k) {i : Nat} (hi : i < nH st) (hT : nT st ≤ 10000) (du : St) : ∃ h1, x5_dawnsToDebt pl q (I i) (putH g t h) = some (oI (ff (ddP (st, du) i) 13), putH g t h1) := by
  have hi0 : i < 10 := by have := w.h.2; omega
  obtain ⟨h1, e1, c1⟩ := c_copyFrom (h := h) hq hd w.h.2 ((Rel_at R 12 (by decide)).trans w.h.1)
  have R1 := Rel_cp w R c1
  have M1 := Meas_cp M c1
  unfold x5_dawnsToDebt
  rw [hpl, gb_s, H_isO, gb_s, e1, cb_s]
  have rd : ∀ j (h2 : HS), j ≤ 13 → Rel (dwU (st, du) j).1 h2 → h2.2.2.1 i 3 = hk (dwS (st, du) j).1 i 3 := by
    intro j h2 hj R2
    have ok := dw_ok (s := (st, du)) w j (by show nT st + _ ≤ _; omega)
    have hn2 : nH (dwU (st, du) j).1 = nH st := dwU_nH (s := (st, du)) w j (by show nT st + _ ≤ _; omega)
    rw [R2.2.2.1 i (by rw [hn2]; exact hi) 3 (by decide), ok.2.2.2.2.1.h6 (f := 3) (by decide)]
  obtain ⟨g2, e2, j, h2, -, rfl, -⟩ := loop_fnd (body := x5_dawnsToDebt_l10 pl (I i)) (n := 13) (fuel := 1000) (ddP (st, du) i) (fun j g1 => ∃ h2, j ≤ 13 ∧ g1 = putH g t h2 ∧ Rel (dwU (st, du) j).1 h2 ∧ Cv (dwU (st, du) j).1 h2) (fun j g1 hj h0 hp => by
    obtain ⟨h2, -, rfl, R2, C2⟩ := h0
    have ok := dw_ok (s := (st, du)) w j (by show nT st + _ ≤ _; omega)
    have hle := toDawn_le (dwU (st, du) j).1
    have ht3 : nT (dwS (st, du) j).1 ≤ nT st + 8 * j := ok.2.2.1
    obtain ⟨h3, e3, R3, C3⟩ := c_passTimeU (g := g) (p := t) (s0 := dwU (st, du) j) (n := toDawn (dwU (st, du) j).1) ok.2.1 (by rw [ok.2.2.2.1]; omega) (by omega) R2 C2
    unfold x5_dawnsToDebt_l10
    rw [if_neg (by rw [show (12 : Int32) = I 12 from rfl, I_lt (by decide) (by omega)]; omega), hpl, gb_s, H_getR (d := 6) rfl (by decide) (by decide), gb_s, H_hik hi0, gb_s, K_getI hi0 (by decide), gb_s, rd j h2 (by omega) R2, if_pos (Int32.not_lt.mp (of_decide_eq_false hp)), gb_s, gb_s, H_isO, gb_s, c_toDawn ok.2.1 R2, cb_s, H_isO, gb_s, e3, cb_s, I_succ]
    exact ⟨_, rfl, h3, by omega, rfl, R3, C3⟩) (fun j g1 hj h0 hp => by
    obtain ⟨h2, -, rfl, R2, C2⟩ := h0
    unfold x5_dawnsToDebt_l10
    rw [if_neg (by rw [show (12 : Int32) = I 12 from rfl, I_lt (by decide) (by omega)]; omega), hpl, gb_s, H_getR (d := 6) rfl (by decide) (by decide), gb_s, H_hik hi0, gb_s, K_getI hi0 (by decide), gb_s, rd j h2 (by omega) R2, if_neg (Int32.not_le.mpr (of_decide_eq_true hp))]
    exact ⟨_, rfl, j, h2, by omega, rfl, R2, C2⟩) (fun g1 h0 => by
    obtain ⟨h2, -, rfl, R2, C2⟩ := h0
    unfold x5_dawnsToDebt_l10
    rw [if_pos (by decide)]
    exact ⟨_, rfl, 13, h2, by omega, rfl, R2, C2⟩) (by decide) ⟨h1, by decide, rfl, R1, M1.cv⟩
  rw [e2, cb_s]
  refine ⟨h2, ?_⟩
  cases ff (ddP (st, du) i) 13 <;> rfl
theorem c_hoursToNoLogs (hq : putH g q k = g) (hd : t + 27 ≤ q ∨ q + 27 ≤ t) (hpl : ∀ h, getR 5 (putH g t h) pl 0 = some t) (w : Ws st) (R : Rel st k) (M : Meas st k) (hT : nT st ≤ 10000) (du : St) : ∃ h1, x5_hoursToNoLogs pl q (putH g t h) = some (oI (ff (nlP (st, du)) 97), putH g t h1) := by
  obtain ⟨h1, e1, c1⟩ := c_copyFrom (h := h) hq hd w.h.2 ((Rel_at R 12 (by decide)).trans w.h.1)
  have R1 := Rel_cp w R c1
  have M1 := Meas_cp M c1
  unfold x5_hoursToNoLogs
  rw [hpl, gb_s, H_isO, gb_s, e1, cb_s]
  have rd : ∀ j (h2 : HS), j ≤ 97 → Rel (manyU j (st, du)).1 h2 → h2.1 1 = (manyS j (st, du)).1 0 := by
    intro j h2 hj R2
    have e := E2_many (s := (st, du)) w j (by show nT st + _ ≤ _; omega)
    rw [show h2.1 1 = (manyU j (st, du)).1 0 from Rel_at R2 1 (by decide), e.1.lo (k := 0) (by decide)]
  obtain ⟨g2, e2, j, h2, -, rfl, -⟩ := loop_fnd (body := x5_hoursToNoLogs_l10 pl) (n := 97) (fuel := 1000) (nlP (st, du)) (fun j g1 => ∃ h2, j ≤ 97 ∧ g1 = putH g t h2 ∧ Rel (manyU j (st, du)).1 h2 ∧ Cv (manyU j (st, du)).1 h2) (fun j g1 hj h0 hp => by
    obtain ⟨h2, -, rfl, R2, C2⟩ := h0
    obtain ⟨w2, t2⟩ := manyU_ws (s := (st, du)) w j (by show nT st + _ ≤ _; omega)
    have t3 : nT (manyU j (st, du)).1 = nT st + j := t2
    obtain ⟨h3, e3, R3, C3⟩ := c_passTimeU (g := g) (p := t) (s0 := manyU j (st, du)) (n := 1) w2 (by omega) (by decide) R2 C2
    unfold x5_hoursToNoLogs_l10
    rw [if_neg (by rw [show (96 : Int32) = I 96 from rfl, I_lt (by decide) (by omega)]; omega), hpl, gb_s, H_getI (by decide), gb_s, rd j h2 (by omega) R2, if_neg (of_decide_eq_false hp), gb_s, H_isO, gb_s, show x3_passTimeUnwatched t 1 (putH g t h2) = _ from e3, cb_s, I_succ]
    exact ⟨_, rfl, h3, by omega, rfl, R3, C3⟩) (fun j g1 hj h0 hp => by
    obtain ⟨h2, -, rfl, R2, C2⟩ := h0
    unfold x5_hoursToNoLogs_l10
    rw [if_neg (by rw [show (96 : Int32) = I 96 from rfl, I_lt (by decide) (by omega)]; omega), hpl, gb_s, H_getI (by decide), gb_s, rd j h2 (by omega) R2, if_pos (of_decide_eq_true hp)]
    exact ⟨_, rfl, j, h2, by omega, rfl, R2, C2⟩) (fun g1 h0 => by
    obtain ⟨h2, -, rfl, R2, C2⟩ := h0
    unfold x5_hoursToNoLogs_l10
    rw [if_pos (by decide)]
    exact ⟨_, rfl, 97, h2, by omega, rfl, R2, C2⟩) (by decide) ⟨h1, by decide, rfl, R1, M1.cv⟩
  rw [e2, cb_s]
  refine ⟨h2, ?_⟩
  cases ff (nlP (st, du)) 97 <;> rfl
theorem rate_ok (w : Ws st) (u : Un st) (v : Int32) : Ws (upd st 1 v) ∧ Un (upd st 1 v) ∧ nT (upd st 1 v) = nT st ∧ nH (upd st 1 v) = nH st := by
  have kp : Kp st (upd st 1 v) := Kp_upF (by decide) (by decide)
  exact ⟨kp.ws w, kp.un w u, Kp_nT kp, Kp_nH kp⟩
theorem c_hoursToDawnOf (hq : putH g q k = g) (hd : t + 27 ≤ q ∨ q + 27 ≤ t) (hpl : ∀ h, getR 5 (putH g t h) pl 0 = some t) (w : Ws st) (u : Un st) (R : Rel st k) (hT : nT st + 8 ≤ 20000) {d : Nat} {x : Int32} (hd4 : d < 4) (hx : x = I d) (v : Int32) : ∃ h1, x5_hoursToDawnOf pl x q v (putH g t h) = some (hwV st v d, putH g t h1) := by
  have hle := toDawn_le st
  obtain ⟨h1, e1, c1⟩ := c_copyFrom (h := h) hq hd w.h.2 ((Rel_at R 12 (by decide)).trans w.h.1)
  have R1 := Rel_cp w R c1
  obtain ⟨wr, ur, tr, nr⟩ := rate_ok w u v
  have R2 : Rel (upd st 1 v) (hF h1 3 v) := R1.upF (k := 3) w (by decide)
  obtain ⟨h2, e2, R3, M3⟩ := c_passTime (g := g) (p := t) (s0 := (upd st 1 v, fun _ => 0)) (n := toDawn st) wr ur (by show nT (upd st 1 v) + _ ≤ _; omega) (by omega) R2
  obtain ⟨w3, -⟩ := manyS_ws (s := (upd st 1 v, fun _ => 0)) wr (toDawn st) (by show nT (upd st 1 v) + _ ≤ _; omega)
  unfold x5_hoursToDawnOf
  rw [hpl, gb_s, H_isO, gb_s, e1, cb_s, hpl, gb_s, H_putI (by decide), gb_s, hpl, gb_s, Q_isO hq hd, gb_s, atq hq hd (fun G => c_toDawn (g := G) w R), cb_s, H_isO, gb_s, e2, cb_s, hpl, gb_s, H_isO, gb_s, c_sumOfHours w3 R3 hd4 hx, cb_s, Q_isO hq hd, gb_s, atq hq hd (fun G => c_sumOfHours (g := G) w R hd4 hx), cb_s]
  exact ⟨h2, rfl⟩
theorem c_rateNeeded (hq : putH g q k = g) (hd : t + 27 ≤ q ∨ q + 27 ≤ t) (hpl : ∀ h, getR 5 (putH g t h) pl 0 = some t) (hpO : ∀ h, isO 5 (putH g t h) pl = some ()) (w : Ws st) (u : Un st) (R : Rel st k) (hT : nT st + 8 ≤ 20000) : ∃ h1, x5_rateWithoutShivers pl q (putH g t h) = some (oI (ff (rnP st) 4), putH g t h1) := by
  unfold x5_rateWithoutShivers
  obtain ⟨g2, e2, j, h2, rfl⟩ := loop_fnd (body := x5_rateWithoutShivers_l2 pl q) (n := 4) (fuel := 1000) (g := putH g t h) (rnP st) (fun j g1 => ∃ h2, g1 = putH g t h2) (fun j g1 hj h0 hp => by
    obtain ⟨h2, rfl⟩ := h0
    obtain ⟨h3, e3⟩ := c_hoursToDawnOf (h := h2) hq hd hpl w u R hT (d := 0) (x := 0) (by decide) rfl (I j)
    unfold x5_rateWithoutShivers_l2
    rw [if_neg (by rw [show (3 : Int32) = I 3 from rfl, I_lt (by decide) (by omega)]; omega), hpO, gb_s, e3, cb_s, if_neg (of_decide_eq_false hp), I_succ]
    exact ⟨_, rfl, h3, rfl⟩) (fun j g1 hj h0 hp => by
    obtain ⟨h2, rfl⟩ := h0
    obtain ⟨h3, e3⟩ := c_hoursToDawnOf (h := h2) hq hd hpl w u R hT (d := 0) (x := 0) (by decide) rfl (I j)
    unfold x5_rateWithoutShivers_l2
    rw [if_neg (by rw [show (3 : Int32) = I 3 from rfl, I_lt (by decide) (by omega)]; omega), hpO, gb_s, e3, cb_s, if_pos (of_decide_eq_true hp)]
    exact ⟨_, rfl, j, h3, rfl⟩) (fun g1 h0 => by
    obtain ⟨h2, rfl⟩ := h0
    unfold x5_rateWithoutShivers_l2
    rw [if_pos (by decide)]
    exact ⟨_, rfl, 4, h2, rfl⟩) (by decide) ⟨h, rfl⟩
  rw [e2, cb_s]
  refine ⟨h2, ?_⟩
  cases ff (rnP st) 4 <;> rfl
theorem c_bestRate (hq : putH g q k = g) (hd : t + 27 ≤ q ∨ q + 27 ≤ t) (hpl : ∀ h, getR 5 (putH g t h) pl 0 = some t) (hpO : ∀ h, isO 5 (putH g t h) pl = some ()) (w : Ws st) (u : Un st) (R : Rel st k) (hT : nT st + 8 ≤ 20000) : ∃ h1, x5_rateForMostSleep pl q (putH g t h) = some (I (brS st 3).1, putH g t h1) := by
  obtain ⟨h1, e1⟩ := c_hoursToDawnOf (h := h) hq hd hpl w u R hT (d := 2) (x := 2) (by decide) rfl 0
  unfold x5_rateForMostSleep
  rw [hpO, gb_s, e1, cb_s]
  have H := loop_inv (body := x5_rateForMostSleep_l13 pl q) (n := 3) (fuel := 1000) (s := (0, hwV st 0 2, 1)) (g := putH g t h1) (fun n s g1 => s = (I (brS st n).1, (brS st n).2, I (n + 1)) ∧ ∃ h, g1 = putH g t h) (fun s g1 => s = I (brS st 3).1 ∧ ∃ h, g1 = putH g t h) (fun n s g1 hn h0 => by
      obtain ⟨rfl, h2, rfl⟩ := h0
      obtain ⟨h3, e3⟩ := c_hoursToDawnOf (h := h2) hq hd hpl w u R hT (d := 2) (x := 2) (by decide) rfl (I (n + 1))
      unfold x5_rateForMostSleep_l13 x5_rateForMostSleep_j41_13
      dsimp only
      rw [if_neg (by rw [show (3 : Int32) = I 3 from rfl, I_lt (by decide) (by omega)]; omega), hpO, gb_s, e3, cb_s, brS]
      by_cases hc : hwV st (I (n + 1)) 2 ≤ (brS st n).2
      · rw [if_pos hc, if_neg (Int32.not_lt.mpr hc), I_succ]
        exact ⟨_, _, rfl, rfl, h3, rfl⟩
      · rw [if_neg hc, if_pos (Int32.not_le.mp hc), I_succ]
        exact ⟨_, _, rfl, rfl, h3, rfl⟩) (fun s g1 h0 => by
      obtain ⟨rfl, h2, rfl⟩ := h0
      unfold x5_rateForMostSleep_l13
      dsimp only
      rw [if_pos (by decide)]
      exact ⟨_, _, rfl, rfl, h2, rfl⟩) (by decide) ⟨rfl, h1, rfl⟩
  obtain ⟨t2, g2, e3, rfl, h3, rfl⟩ := H
  rw [e3, cb_s]
  exact ⟨h3, rfl⟩
end CPred
