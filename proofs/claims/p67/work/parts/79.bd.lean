/-! how large the numbers of the array are -/
def B0 (v : Int32) (n : Nat) : Prop := ∃ x, x ≤ n ∧ v = I x
def limG (S k : Nat) : Option Nat := match k with
  | 0 => some 99
  | 1 => some 3
  | 2 => some 24
  | 3 => none
  | 4 => none
  | 5 => some S
  | 6 => none
  | 7 => none
  | 8 => none
  | 9 => none
  | 10 => none
  | 11 => none
  | 12 => none
  | k => if k < 25 then some 5 else if k < 37 then some 9 else some 20
def limF (C D O f : Nat) : Option Nat := match f with
  | 0 => some 30
  | 1 => some 9
  | 2 => some C
  | 3 => some D
  | 4 => none
  | 5 => none
  | _ => some O
def lim (S C D O k : Nat) : Option Nat := if k < 49 then limG S k else limF C D O ((k - 49) % 10)
def Bl (S C D O : Nat) (st : St) : Prop := ∀ k, k < 149 → ∀ x, lim S C D O k = some x → B0 (st k) x
def Bd (st : St) : Prop := 1 ≤ nH st ∧ Bl (3 * (nT st % 8)) (99 + 300 * nT st) (600 * nT st) (nT st) st ∧ ∀ b, b < nL st → 1 ≤ kN (st (25 + b))
theorem lim_g {S C D O k : Nat} (h : k < 49) : lim S C D O k = limG S k := if_pos h
theorem lim_h {S C D O i f : Nat} (h : f < 10) : lim S C D O (49 + 10 * i + f) = limF C D O f := by
  unfold lim
  rw [if_neg (by omega), show (49 + 10 * i + f - 49) % 10 = f by omega]
theorem B0.mono {v : Int32} {n m : Nat} (h : B0 v n) (hm : n ≤ m) : B0 v m := by
  obtain ⟨x, h1, h2⟩ := h
  exact ⟨x, by omega, h2⟩
theorem B0.nat {v : Int32} {n : Nat} (h : B0 v n) (hn : n < 2 ^ 31) : v = I (kN v) ∧ kN v ≤ n := by
  obtain ⟨x, h1, h2⟩ := h
  rw [h2, show kN (I x) = x from I_nat (by omega)]
  exact ⟨rfl, h1⟩
section BdS
variable {S C D O : Nat} {st : St}
theorem Bl.get0 (h : Bl S C D O st) {k x : Nat} (hk0 : k < 149) (hl : lim S C D O k = some x) : B0 (st k) x := h k hk0 x hl
theorem Bl.fld (h : Bl S C D O st) {i f x : Nat} (hi : i < 10) (hf : f < 10) (hl : limF C D O f = some x) : B0 (hk st i f) x := h _ (by omega) x ((lim_h hf).trans hl)
theorem Bl.up (h : Bl S C D O st) {k : Nat} {v : Int32} (hv : ∀ x, lim S C D O k = some x → B0 v x) : Bl S C D O (upd st k v) := fun j hj x hx => by
  by_cases hjk : j = k
  · rw [hjk, upd_at]
    exact hv x (by rw [← hjk]; exact hx)
  · rw [upd_ne hjk]
    exact h j hj x hx
theorem lim_mono {S1 C1 D1 O1 k x : Nat} (a : S ≤ S1) (b : C ≤ C1) (c : D ≤ D1) (d : O ≤ O1) (h : lim S1 C1 D1 O1 k = some x) : ∃ y, y ≤ x ∧ lim S C D O k = some y := by
  unfold lim at h ⊢
  by_cases hk0 : k < 49
  · rw [if_pos hk0] at h ⊢
    by_cases h5 : k = 5
    · subst h5
      cases h
      exact ⟨S, a, rfl⟩
    · refine ⟨x, Nat.le_refl _, ?_⟩
      rw [← h]
      unfold limG
      split
      all_goals first | rfl | exact absurd rfl h5
  · rw [if_neg hk0] at h ⊢
    unfold limF at h ⊢
    split at h
    all_goals first | (cases h; exact ⟨_, Nat.le_refl _, rfl⟩) | (cases h; exact ⟨_, b, rfl⟩) | (cases h; exact ⟨_, c, rfl⟩) | (cases h; exact ⟨_, d, rfl⟩) | cases h
theorem Bl.mono (h : Bl S C D O st) {S1 C1 D1 O1 : Nat} (a : S ≤ S1) (b : C ≤ C1) (c : D ≤ D1) (d : O ≤ O1) : Bl S1 C1 D1 O1 st := fun k hk0 x hx => by
  obtain ⟨y, h1, h2⟩ := lim_mono a b c d hx
  exact (h k hk0 y h2).mono h1
theorem Bl.pay (h : Bl S C D O st) {i A : Nat} {a : Int32} (hi : i < 10) (ha : B0 a A) (hC : C < 2 ^ 31) (hA : D + A < 2 ^ 31) : B0 (payP st i a) A ∧ Bl S C (D + A) O (payS st i a) := by
  obtain ⟨x, x1, x2⟩ := h.fld (f := 2) hi (by decide) rfl
  obtain ⟨y, y1, y2⟩ := h.fld (f := 3) hi (by decide) rfl
  obtain ⟨z, z1, z2⟩ := ha
  have hp : ∃ q, q ≤ x ∧ q ≤ z ∧ payP st i a = I q := by
    unfold payP
    rw [x2, z2]
    by_cases hc : I x < I z
    · rw [if_pos hc]
      rw [I_lt (by omega) (by omega)] at hc
      exact ⟨x, by omega, by omega, rfl⟩
    · rw [if_neg hc]
      rw [I_lt (by omega) (by omega)] at hc
      exact ⟨z, by omega, by omega, rfl⟩
  obtain ⟨q, q1, q2, q3⟩ := hp
  refine ⟨⟨q, by omega, q3⟩, ?_⟩
  have e2 : hk st i 2 + -payP st i a = I (x - q) := by rw [q3, x2, ← Int32.sub_eq_add_neg, I_sub q1]
  have e3 : hk st i 3 + (a - payP st i a) = I (y + (z - q)) := by rw [q3, y2, z2, I_sub q2, I_add]
  unfold payS
  rw [e2, e3]
  have h1 := h.mono (Nat.le_refl S) (Nat.le_refl C) (Nat.le_add_right D A) (Nat.le_refl O)
  refine (h1.up (fun x0 hx => ?_)).up (fun x0 hx => ?_)
  · rw [lim_h (by decide)] at hx
    cases hx
    exact ⟨x - q, by omega, rfl⟩
  · rw [lim_h (by decide)] at hx
    cases hx
    exact ⟨y + (z - q), by omega, rfl⟩
theorem Bl.upN (h : Bl S C D O st) {k : Nat} {v : Int32} (hv : lim S C D O k = none) : Bl S C D O (upd st k v) := h.up fun x hx => by rw [hv] at hx; cases hx
theorem Bl.d1 {s : St × St} (hC : C < 2 ^ 31) : ∀ n, n ≤ 10 → D + 3 * n < 2 ^ 31 → Bl S C D O s.1 → Bl S C (D + 3 * n) O (it d1Step n s).1 := by
  intro n
  induction n with
  | zero => intro _ _ h; exact h
  | succ n ih =>
    intro hn hD h
    exact ((ih (by omega) (by omega) h).pay (i := n) (a := 3) (A := 3) (by omega) ⟨3, by decide, rfl⟩ hC (by omega)).2.upN rfl
theorem Bl.pl {s : St × St} {c N : Int32} (hC : C < 2 ^ 31) (hp : ∀ i, i < 10 → B0 (plPart c N i) 49) : ∀ n, n ≤ 10 → D + 49 * n < 2 ^ 31 → Bl S C D O s.1 → Bl S C (D + 49 * n) O (it (plStep c N) n s).1 := by
  intro n
  induction n with
  | zero => intro _ _ h; exact h
  | succ n ih =>
    intro hn hD h
    exact ((ih (by omega) (by omega) h).pay (i := n) (A := 49) (by omega) (hp n (by omega)) hC (by omega)).2.upN rfl
theorem plPart_b {s N : Nat} (hs : s ≤ 24) (h1 : 1 ≤ N) (h2 : N ≤ 10) {i : Nat} (hi : i < 10) : B0 (plPart (2 * I s) (I N) i) 49 := by
  unfold plPart
  rw [show (2 : Int32) = I 2 from rfl, I_mul, show I (2 * s) / I N = I (2 * s / N) from (Int32.ofNat_div (by omega) (by omega)).symm]
  have hd : 2 * s / N ≤ 48 := Nat.le_trans (Nat.div_le_self _ _) (by omega)
  split
  · exact ⟨2 * s / N, by omega, by exact Int32.add_zero _⟩
  · exact ⟨2 * s / N + 1, by omega, I_add _ 1⟩
theorem Bl.plog {s : St × St} (w : Ws s.1) (h1 : 1 ≤ nH s.1) (hS : S ≤ 24) (hC : C < 2 ^ 31) (hD : D + 490 < 2 ^ 31) (h : Bl S C D O s.1) : Bl 0 C (D + 490) O (plS s).1 := by
  obtain ⟨x, x1, x2⟩ := h.get0 (k := 5) (x := S) (by decide) rfl
  have hh := w.h
  have hp : ∀ i, i < 10 → B0 (plPart (2 * s.1 5) (s.1 12) i) 49 := fun i hi => by
    rw [x2, hh.1]
    exact plPart_b (by omega) h1 hh.2 hi
  have h2 := (Bl.pl hC hp (nH s.1) hh.2 (by omega) h).mono (Nat.le_refl S) (Nat.le_refl C) (show D + 49 * nH s.1 ≤ D + 490 by omega) (Nat.le_refl O)
  unfold plS
  dsimp only
  intro k hk0 y hy
  by_cases h5 : k = 5
  · subst h5
    rw [upd_at]
    cases hy
    exact ⟨0, Nat.le_refl _, rfl⟩
  · rw [upd_ne h5]
    refine h2 k hk0 y ?_
    rw [← hy]
    unfold lim
    by_cases hk1 : k < 49
    · rw [if_pos hk1, if_pos hk1]
      unfold limG
      split
      all_goals first | rfl | exact absurd rfl h5
    · rw [if_neg hk1, if_neg hk1]
theorem thk_b (w : Ws st) (h : Bl S C D O st) {i : Nat} (hi : i < 10) : B0 (thk st i) 9 := by
  unfold thk
  by_cases hb : hk st i 5 = -1
  · rw [if_pos hb]; exact ⟨0, by decide, rfl⟩
  · obtain ⟨b, b1, b2, b3, b4⟩ := w.blan hi hb
    rw [if_neg hb, b4]
    refine h.get0 (by omega) ?_
    rw [lim_g (by omega)]
    unfold limG
    split
    all_goals first | omega | rfl | skip
    rw [if_neg (by omega), if_pos (by omega)]
theorem fee_b (w : Ws st) (h : Bl S C D O st) {i : Nat} (hi : i < 10) : B0 (fee st i) 3 := by
  obtain ⟨x, x1, x2⟩ := thk_b w h hi
  unfold fee
  rw [x2, show (2 : Int32) = I 2 from rfl, I_add, show (3 : Int32) = I 3 from rfl, show I (x + 2) / I 3 = I ((x + 2) / 3) from (Int32.ofNat_div (by omega) (by omega)).symm]
  exact ⟨(x + 2) / 3, by omega, rfl⟩
theorem Bl.d3 {s : St × St × Int32} (w : Ws s.1) (hC : C < 2 ^ 31) (h0 : s.2.2 = 0) : ∀ n, n ≤ 10 → D + 3 * n < 2 ^ 31 → Bl S C D O s.1 → Bl S C (D + 3 * n) O (it d3Step n s).1 ∧ B0 (it d3Step n s).2.2 (3 * n) := by
  intro n
  induction n with
  | zero => intro _ _ h; exact ⟨h, 0, Nat.le_refl _, h0⟩
  | succ n ih =>
    intro hn hD h
    obtain ⟨h1, y, y1, y2⟩ := ih (by omega) (by omega) h
    have wk := (d3_kp n (by omega) s).ws w
    obtain ⟨⟨x, x1, x2⟩, h3⟩ := h1.pay (i := n) (A := 3) (by omega) (fee_b (i := n) wk h1 (by omega)) hC (by omega)
    refine ⟨h3, y + x, by omega, ?_⟩
    show (it d3Step n s).2.2 + payP (it d3Step n s).1 n (fee (it d3Step n s).1 n) = _
    rw [y2, x2, I_add]
theorem Bl.sh {s : St × St} {part : Int32} (hp : B0 part 30) : ∀ n, n ≤ 10 → C + 30 * n < 2 ^ 31 → Bl S C D O s.1 → Bl S (C + 30 * n) D O (it (shStep part) n s).1 := by
  intro n
  induction n with
  | zero => intro _ _ h; exact h
  | succ n ih =>
    intro hn hD h
    have h1 := ih (by omega) (by omega) h
    obtain ⟨x, x1, x2⟩ := h1.fld (i := n) (f := 2) (by omega) (by decide) rfl
    have h2 := h1.mono (Nat.le_refl S) (show C + 30 * n ≤ C + 30 * (n + 1) by omega) (Nat.le_refl D) (Nat.le_refl O)
    refine h2.up fun y hy => ?_
    rw [lim_h (by decide)] at hy
    cases hy
    rw [x2]
    obtain ⟨z, z1, z2⟩ := hp
    split
    · exact ⟨x + z, by omega, by rw [z2, I_add]⟩
    · exact ⟨x, by omega, Int32.add_zero _⟩
theorem shPart_b {pot wo : Int32} {k : Nat} (hp : B0 pot 30) (hw0 : k ≤ 10) (hw : wo = I k) : B0 (shPart pot wo) 30 := by
  obtain ⟨x, x1, x2⟩ := hp
  unfold shPart
  by_cases h0 : wo = 0
  · rw [if_pos h0]; exact ⟨0, by decide, rfl⟩
  · rw [if_neg h0, x2, hw, show I x / I k = I (x / k) from (Int32.ofNat_div (by omega) (by omega)).symm]
    exact ⟨x / k, Nat.le_trans (Nat.div_le_self _ _) x1, rfl⟩
theorem Bl.dawn {s : St × St} (w : Ws s.1) (h1 : 1 ≤ nH s.1) (hS : S ≤ 24) (hC : C + 300 < 2 ^ 31) (hD : D + 600 < 2 ^ 31) (h : Bl S C D O s.1) : Bl 0 (C + 300) (D + 600) O (dawnS s).1 := by
  have hh := w.h.2
  have k1 := it_kp d1Step_kp (nH s.1) hh s
  have b1 := (Bl.d1 (by omega) (nH s.1) hh (by omega) h).mono (Nat.le_refl S) (Nat.le_refl C) (show D + 3 * nH s.1 ≤ D + 30 by omega) (Nat.le_refl O)
  have w1 := k1.ws w
  have k2 := k1.trans (plS_kp w1)
  have w2 := k2.ws w
  have b2 := Bl.plog w1 (by rw [Kp_nH k1]; exact h1) hS (by omega) (by omega) b1
  have b3 := Bl.d3 (s := ((plS (it d1Step (nH s.1) s)).1, (plS (it d1Step (nH s.1) s)).2, 0)) w2 (by omega) rfl (nH s.1) hh (by omega) b2
  have k3 := k2.trans (d3_kp (nH s.1) hh ((plS (it d1Step (nH s.1) s)).1, (plS (it d1Step (nH s.1) s)).2, 0))
  have w3 := k3.ws w
  have hn3 := Kp_nH k3
  unfold dawnS
  dsimp only
  generalize it d3Step (nH s.1) ((plS (it d1Step (nH s.1) s)).1, (plS (it d1Step (nH s.1) s)).2, 0) = t at b3 w3 hn3 ⊢
  obtain ⟨b3, b4⟩ := b3
  obtain ⟨q, q1, q2⟩ := cntW_I w3
  have hp := shPart_b (pot := t.2.2) (b4.mono (by omega)) q1 q2
  have b5 := Bl.sh (s := (t.1, t.2.1)) hp (nH t.1) (by omega) (by omega) b3
  unfold shS
  exact (b5.mono (Nat.le_refl 0) (by omega) (by omega) (Nat.le_refl O)).upN rfl
theorem Bl.burn (h : Bl S C D O st) (hS : S < 2 ^ 30) : Bl (S + 3) C D O (burnS st) := by
  obtain ⟨x, x1, x2⟩ := h.get0 (k := 0) (x := 99) (by decide) rfl
  obtain ⟨y, y1, y2⟩ := h.get0 (k := 1) (x := 3) (by decide) rfl
  obtain ⟨z, z1, z2⟩ := h.get0 (k := 5) (x := S) (by decide) rfl
  obtain ⟨t, t1, t2⟩ := h.get0 (k := 2) (x := 24) (by decide) rfl
  have hb : ∃ q, q ≤ x ∧ q ≤ 3 ∧ burnB st = I q := by
    unfold burnB
    rw [x2, y2]
    by_cases hc : I x < I y
    · rw [if_pos hc]
      rw [I_lt (by omega) (by omega)] at hc
      exact ⟨x, by omega, by omega, rfl⟩
    · rw [if_neg hc]
      rw [I_lt (by omega) (by omega)] at hc
      exact ⟨y, by omega, by omega, rfl⟩
  obtain ⟨q, q1, q2, q3⟩ := hb
  unfold burnS
  rw [q3, x2, z2, t2, I_sub q1, I_add, show (2 : Int32) = I 2 from rfl, show I t / I 2 = I (t / 2) from (Int32.ofNat_div (by omega) (by omega)).symm, show (4 : Int32) = I 4 from rfl, I_mul, I_add]
  refine (((h.mono (show S ≤ S + 3 by omega) (Nat.le_refl C) (Nat.le_refl D) (Nat.le_refl O)).up (fun v hv => ?_)).upN rfl).up (fun v hv => ?_) |>.up (fun v hv => ?_)
  · cases hv; exact ⟨x - q, by omega, rfl⟩
  · cases hv; exact ⟨z + q, by omega, rfl⟩
  · cases hv; exact ⟨t / 2 + 4 * q, by omega, rfl⟩
theorem Bl.nt {s : St × St} (hO : O + 1 < 2 ^ 31) : ∀ n, n ≤ 10 → Bl S C D O s.1 → (∀ i, n ≤ i → i < 10 → ∀ f, 6 ≤ f → f < 10 → B0 (hk (it ntStep n s).1 i f) O) ∧ Bl S C D (O + 1) (it ntStep n s).1 := by
  intro n
  induction n with
  | zero =>
    intro _ h
    refine ⟨fun i _ hi f h1 h2 => h.fld hi h2 ?_, h.mono (Nat.le_refl S) (Nat.le_refl C) (Nat.le_refl D) (by omega)⟩
    unfold limF
    split <;> first | omega | rfl
  | succ n ih =>
    intro hn h
    obtain ⟨h1, h2⟩ := ih (by omega) h
    obtain ⟨d, d1, -, d3⟩ := deed_I (it ntStep n s).1 n
    have hst : (it ntStep (n + 1) s).1 = upd (it ntStep n s).1 (49 + 10 * n + (6 + d)) (hk (it ntStep n s).1 n (6 + d) + 1) := by
      show (ntStep (it ntStep n s) n).1 = _
      rw [ntStep_eq d3]
    rw [hst]
    refine ⟨fun i hi hi2 f f1 f2 => ?_, h2.up fun x hx => ?_⟩
    · have : hk (upd (it ntStep n s).1 (49 + 10 * n + (6 + d)) (hk (it ntStep n s).1 n (6 + d) + 1)) i f = hk (it ntStep n s).1 i f := upd_ne (by omega)
      rw [this]
      exact h1 i (by omega) hi2 f f1 f2
    · rw [lim_h (by omega)] at hx
      have hx2 : x = O + 1 := by
        unfold limF at hx
        split at hx
        all_goals first | omega | (cases hx; rfl)
      rw [hx2]
      obtain ⟨y, y1, y2⟩ := h1 n (Nat.le_refl _) (by omega) (6 + d) (by omega) (by omega)
      exact ⟨y + 1, by omega, by rw [y2, I_succ]⟩
end BdS
theorem hourS_bd {s : St × St} (w : Ws s.1) (b : Bd s.1) (hT : nT s.1 + 1 ≤ 20000) : Bd (hourS s).1 := by
  obtain ⟨b1, b2, b3⟩ := b
  have hh := w.h.2
  have kb := burn_kp s.1
  have wb := kb.ws w
  have hm : nT s.1 % 8 < 8 := Nat.mod_lt _ (by decide)
  have c1 := b2.burn (by omega)
  have c2 := (Bl.nt (s := (burnS s.1, s.2)) (by omega) (nH (burnS s.1)) wb.h.2 c1).2
  have kn := kb.trans (ntS_kp (s := (burnS s.1, s.2)) wb)
  have wn := kn.ws w
  obtain ⟨wt, ht⟩ := tick_ws wn (by rw [Kp_nT kn]; exact hT)
  rw [Kp_nT kn] at ht
  have ct : Bl (3 * (nT s.1 % 8) + 3) (99 + 300 * nT s.1) (600 * nT s.1) (nT s.1 + 1) (tick (ntS (burnS s.1, s.2))).1 := Bl.upN c2 rfl
  have hg : ∀ q, q = 10 ∨ q = 12 ∨ (25 ≤ q ∧ q < 37) → (tick (ntS (burnS s.1, s.2))).1 q = s.1 q := by
    intro q hq
    have e1 : (tick (ntS (burnS s.1, s.2))).1 q = (ntS (burnS s.1, s.2)).1 q := upd_ne (by omega)
    have e2 : (ntS (burnS s.1, s.2)).1 q = burnS s.1 q := (E2_nt (nH (burnS s.1)) wb.h.2 (burnS s.1, s.2)).1.lo (by omega)
    rw [e1, e2]
    unfold burnS
    rw [upd_ne (by omega), upd_ne (by omega), upd_ne (by omega), upd_ne (by omega)]
  have hHt : nH (tick (ntS (burnS s.1, s.2))).1 = nH s.1 := by unfold nH; rw [hg 12 (by omega)]
  have hLt : nL (tick (ntS (burnS s.1, s.2))).1 = nL s.1 := by unfold nL; rw [hg 10 (by omega)]
  unfold hourS endS
  generalize tick (ntS (burnS s.1, s.2)) = t at ct wt ht hHt hLt hg ⊢
  have e3 : t.1 3 = I (nT t.1) := wt.t.1
  have hmod : t.1 3 - t.1 3 / 8 * 8 = I (nT t.1 % 8) := by rw [e3]; exact mod8 (by have := wt.t.2; omega)
  rw [hmod]
  by_cases hc : I (nT t.1 % 8) = 0
  · rw [if_pos hc]
    have hc2 : nT t.1 % 8 = 0 := (I_eq (by omega) (by decide)).mp hc
    have kd := dawnS_kp wt
    have bd := Bl.dawn wt (by rw [hHt]; exact b1) (by omega) (by omega) (by omega) ct
    have eT := Kp_nT kd
    have hag := d3_ag (nH t.1) wt.h.2 ((plS (it d1Step (nH t.1) t)).1, (plS (it d1Step (nH t.1) t)).2, 0)
    refine ⟨by rw [Kp_nH kd, hHt]; exact b1, ?_, ?_⟩
    · rw [eT]
      exact bd.mono (by omega) (by omega) (by omega) (by omega)
    · intro q hq
      have eL : nL (dawnS t).1 = nL t.1 := by unfold nL; rw [kd.1 10 (by decide)]
      rw [eL, hLt] at hq
      have k1 := it_ag d1_ag (nH t.1) wt.h.2 t
      have w1 := k1.kp.ws wt
      have k2 : Ag t.1 (plS (it d1Step (nH t.1) t)).1 := (k1.trans (it_ag (pl_ag _ _) _ w1.h.2 _)).up (by decide) (fun j hj => by omega)
      have k3 := k2.trans hag
      have k4 : Ag t.1 (dawnS t).1 := (k3.trans (it_ag (sh_ag _) _ ((k3.kp.ws wt).h.2) _)).up (by decide) (fun j hj => by omega)
      have := w.l.2
      rw [k4.1 (25 + q) (by omega), hg (25 + q) (by omega)]
      exact b3 q hq
  · rw [if_neg hc]
    have hc2 : ¬ nT t.1 % 8 = 0 := fun h => hc (by rw [h]; rfl)
    refine ⟨by rw [hHt]; exact b1, ?_, ?_⟩
    · exact ct.mono (by omega) (by omega) (by omega) (by omega)
    · intro q hq
      rw [hLt] at hq
      have := w.l.2
      rw [hg (25 + q) (by omega)]
      exact b3 q hq
theorem manyS_bd {s : St × St} (w : Ws s.1) (b : Bd s.1) : ∀ n, nT s.1 + n ≤ 20000 → Bd (manyS n s).1 := by
  intro n
  induction n with
  | zero => intro _; exact b
  | succ n ih =>
    intro hn
    obtain ⟨h1, h2⟩ := manyS_ws w n (by omega)
    exact hourS_bd (s := manyS n s) h1 (ih (by omega)) (by omega)


