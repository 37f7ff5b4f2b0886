/-! the world: the nine actions -/
def sIO : String := "java/lang/IndexOutOfBoundsException"
def sIA : String := "java/lang/IllegalArgumentException"
def sIS : String := "java/lang/IllegalStateException"
def exA (k : Nat) : String := if k = 1 then sIO else if k = 2 then sIS else ""
def exB (k : Nat) : String := if k = 1 then sIA else if k = 2 then sIS else ""
def exC (k : Nat) : String := if k = 1 then sIO else if k = 2 then sIA else sIS
def rfS (f : Int32) : String := if f = 1 then sIO else if f = 2 then sIA else sIS
theorem sIO_ne : sIO ≠ "" := by decide
theorem sIA_ne : sIA ≠ "" := by decide
theorem sIS_ne : sIS ≠ "" := by decide
theorem rfS_ne (f : Int32) : rfS f ≠ "" := by
  unfold rfS
  by_cases h1 : f = 1
  · rw [if_pos h1]; exact sIO_ne
  · rw [if_neg h1]
    by_cases h2 : f = 2
    · rw [if_pos h2]; exact sIA_ne
    · rw [if_neg h2]; exact sIS_ne
/-- the kinds of faults -/
def kA (f : Int32) : Nat := if f = 1 then 1 else 2
def kB (f : Int32) : Nat := if f = 2 then 1 else 2
def kC (f : Int32) : Nat := if f = 1 then 1 else if f = 2 then 2 else 3
theorem tcA_k (f : Int32) : tcA f = I (kA f) := by
  unfold tcA kA
  split <;> rfl
theorem tcB_k (f : Int32) : tcB f = I (kB f) := by
  unfold tcB kB
  split <;> rfl
theorem kA_ok {f : Int32} (h : f = 1 ∨ f = 3) : (kA f = 1 ∨ kA f = 2 ∨ kA f = 3) ∧ exA (kA f) = rfS f := by
  rcases h with h | h
  · subst h; exact ⟨Or.inl rfl, rfl⟩
  · subst h; exact ⟨Or.inr (Or.inl rfl), rfl⟩
theorem kB_ok {f : Int32} (h : f = 2 ∨ f = 3) : (kB f = 1 ∨ kB f = 2 ∨ kB f = 3) ∧ exB (kB f) = rfS f := by
  rcases h with h | h
  · subst h; exact ⟨Or.inl rfl, rfl⟩
  · subst h; exact ⟨Or.inr (Or.inl rfl), rfl⟩
theorem kC_ok {f : Int32} (h : f = 1 ∨ f = 2 ∨ f = 3) : (kC f = 1 ∨ kC f = 2 ∨ kC f = 3) ∧ exC (kC f) = rfS f ∧ f = I (kC f) := by
  rcases h with h | h | h
  · subst h; exact ⟨Or.inl rfl, rfl, rfl⟩
  · subst h; exact ⟨Or.inr (Or.inl rfl), rfl, rfl⟩
  · subst h; exact ⟨Or.inr (Or.inr rfl), rfl, rfl⟩
theorem refuse_ok (g : AH) : x8_refuse 0 g = some (.inl (), g) := by
  unfold x8_refuse
  rw [if_neg (by decide), if_neg (by decide), if_neg (by decide)]
theorem refuse_no {f : Int32} (h : f = 1 ∨ f = 2 ∨ f = 3) (g : AH) : x8_refuse f g = some (.inr (rfS f), hcut g) := by
  unfold x8_refuse rfS
  rcases h with h | h | h
  · rw [if_pos h, if_pos h]; rfl
  · have h1 : ¬ f = 1 := by rw [h]; decide
    rw [if_neg h1, if_pos h, if_neg h1, if_pos h]; rfl
  · have h1 : ¬ f = 1 := by rw [h]; decide
    have h2 : ¬ f = 2 := by rw [h]; decide
    rw [if_neg h1, if_neg h2, if_pos h, if_neg h1, if_neg h2]; rfl
theorem fA_take (st : St) (i b : Int32) : ftTake st i b = 0 ∨ ftTake st i b = 1 ∨ ftTake st i b = 3 := by
  unfold ftTake
  repeat' split
  all_goals simp
theorem fA_return (st : St) (i : Int32) : ftReturn st i = 0 ∨ ftReturn st i = 1 ∨ ftReturn st i = 3 := by
  unfold ftReturn
  repeat' split
  all_goals simp
theorem fA_swap (st : St) (i b : Int32) : ftSwap st i b = 0 ∨ ftSwap st i b = 1 ∨ ftSwap st i b = 3 := by
  unfold ftSwap
  repeat' split
  all_goals simp
theorem fA_lie (st : St) (i b : Int32) : ftLie st i b = 0 ∨ ftLie st i b = 1 ∨ ftLie st i b = 3 := by
  unfold ftLie
  repeat' split
  all_goals simp
theorem fA_rise (st : St) (i : Int32) : ftRise st i = 0 ∨ ftRise st i = 1 ∨ ftRise st i = 3 := by
  unfold ftRise
  repeat' split
  all_goals simp
theorem fB_fetch (st : St) (i : Int32) : ftFetch st i = 0 ∨ ftFetch st i = 2 ∨ ftFetch st i = 3 := by
  unfold ftFetch
  repeat' split
  all_goals simp
theorem fB_pass (st : St) (i : Int32) : ftPass st i = 0 ∨ ftPass st i = 2 ∨ ftPass st i = 3 := by
  unfold ftPass
  repeat' split
  all_goals simp
theorem fC_pay (st : St) (i b : Int32) : ftPay st i b = 0 ∨ ftPay st i b = 1 ∨ ftPay st i b = 2 ∨ ftPay st i b = 3 := by
  unfold ftPay
  repeat' split
  all_goals simp
section WAct
variable {n : Nat} {w : WS}
theorem Qt_act (H : Iv w) {c a b : Int32} {K : Nat → AH → Option (Int32 × AH)} {E : Nat → String} {F : AH → Option ((Int32 ⊕ String) × AH)} {du : St} {k : Nat} (hF : ∀ g, F (putW g n w) = gb (isO 8 (putW g n w) n) fun _ => cb (x8_act n c a b (putW g n w)) fun r1 g2 => Sum.elim (fun v6 => some (.inl v6, g2)) (fun w7 => some (.inr w7, g2)) r1) (h3 : ¬ ftOf ((wr w).2 1) c a b = 0 → (ftOf ((wr w).2 1) c a b = 1 ∨ ftOf ((wr w).2 1) c a b = 2 ∨ ftOf ((wr w).2 1) c a b = 3) ∧ (k = 1 ∨ k = 2 ∨ k = 3) ∧ E k = rfS (ftOf ((wr w).2 1) c a b)) (h1 : ftOf ((wr w).2 1) c a b = 0 → ∀ g' m, K m (putR g' m (wr w)) = some (pfV ((wr w).2 1, (wr w).2 6) c a b, putR g' m (pfR (wr w) (pfS ((wr w).2 1, (wr w).2 6) c a b) du))) (h2 : ¬ ftOf ((wr w).2 1) c a b = 0 → ∀ g' m, ∃ v, K m (putR g' m (wr w)) = some (v, putR g' m (RS_setF (wr w) 6 (I k)))) : Qt n w F K E := fun g => by
  rw [hF g, W_isO, gb_s]
  unfold x8_act
  rw [W_80, gb_s, W_isO3, gb_s, W_fault H.1, cb_s]
  by_cases hf : ftOf ((wr w).2 1) c a b = 0
  · obtain ⟨w0, w1, k1, k2, k3, k4⟩ := J_step (g := g) (n := n) H.1 du (v6 := 0) hf
    rw [hf, refuse_ok, cb_s]
    refine Or.inl ⟨_, w1, ?_, ?_, fun g' m => ⟨_, h1 hf g' m, pf6, ?_⟩⟩
    · show cb (gb (getR 8 (putW g n w) n 3) _) _ = _
      rw [W_3, gb_s, W_80, gb_s, W_h2O, gb_s, k1, cb_s, W_80, gb_s, W_isO3, gb_s, k2, cb_s, cb_s]
      rfl
    · show w1.2.2.2.2.2.2.1 = _
      rw [k4.1]
    · obtain ⟨-, HD, HS', HT, l, o1, o2, o3⟩ := H
      have hre := Re.pf (r := wr w) (z := pfS ((wr w).2 1, (wr w).2 6) c a b) (du := du)
      refine Iv_mk (w := w) (r := wr w) k3 ?_ HS' ?_ (fun j hj => k4.2 (9 + j) (by omega)) (fun d hd => hre.2 d (by omega) (by omega) (by omega)) ?_ o1 o2 o3 ?_ (hre.1 20 (by decide) (by decide))
      · rw [k4.2 1 (Or.inl rfl)]
        exact HD
      · rw [k4.1]
      · rw [k4.1]
        exact HT.eq (fun k hk0 => hre.1 k (by omega) (by omega)) (hre.2 7 (by decide) (by decide) (by decide))
      · rw [k4.1]
  · obtain ⟨f3, fk, fE⟩ := h3 hf
    rw [refuse_no f3, cb_s]
    refine Or.inr ⟨k, ?_, Kx_mk fk (by rw [fE]; exact rfS_ne _), fun g' m => ?_⟩
    · show cb (some (Sum.inr (rfS (ftOf ((wr w).2 1) c a b)), hcut (putW g n w))) _ = _
      rw [cb_s, fE]
      rfl
    · obtain ⟨v, e⟩ := h2 hf g' m
      exact ⟨v, _, e, RSF_at _ _ _, H.f6 _⟩
theorem Qt_takeBlanket (H : Iv w) (i b : Int32) : Qt n w (x8_takeBlanket n i b) (fun m => x9_takeBlanket m i b) exA := by
  have eF : ftOf ((wr w).2 1) 0 i b = ftTake ((wr w).2 1) i b := by
    unfold ftOf
    rw [if_pos rfl]
  have eS : pfS ((wr w).2 1, (wr w).2 6) 0 i b = upd ((wr w).2 1) (49 + 10 * kN i + 5) b := by
    unfold pfS
    rw [if_pos rfl]
  have eV : pfV ((wr w).2 1, (wr w).2 6) 0 i b = wN (upd ((wr w).2 1) (49 + 10 * kN i + 5) b) (kN i) := by
    unfold pfV
    rw [if_pos rfl, eS]
  obtain ⟨⟨G, -, -⟩, -, a, x, h5, -, hk0, -⟩ := H.1
  have S := fun g' m => s_take (g := g') (m := m) hk0 h5 G i b
  refine Qt_act H (c := 0) (du := ((wr w).2 6)) (k := kA (ftTake ((wr w).2 1) i b)) (fun g => rfl) ?_ ?_ ?_
  · rw [eF]
    intro hf
    have h := (fA_take ((wr w).2 1) i b).resolve_left hf
    exact ⟨h.elim Or.inl (fun h => Or.inr (Or.inr h)), kA_ok h⟩
  · rw [eF, eS, eV]
    exact fun hf g' m => (S g' m).1 hf
  · rw [eF, ← tcA_k]
    exact fun hf g' m => (S g' m).2 hf
theorem Qt_returnBlanket (H : Iv w) (i : Int32) : Qt n w (x8_returnBlanket n i) (fun m => x9_returnBlanket m i) exA := by
  have eF : ftOf ((wr w).2 1) 1 i 0 = ftReturn ((wr w).2 1) i := by
    unfold ftOf
    rw [if_neg (by decide), if_pos rfl]
  have eS : pfS ((wr w).2 1, (wr w).2 6) 1 i 0 = upd ((wr w).2 1) (49 + 10 * kN i + 5) (-1) := by
    unfold pfS
    rw [if_neg (by decide), if_pos rfl]
  have eV : pfV ((wr w).2 1, (wr w).2 6) 1 i 0 = hk ((wr w).2 1) (kN i) 5 := by
    unfold pfV
    rw [if_neg (by decide), if_pos rfl]
  obtain ⟨⟨G, -, -⟩, -, a, x, h5, -, hk0, -⟩ := H.1
  have S := fun g' m => s_return (g := g') (m := m) hk0 h5 G.1 i
  refine Qt_act H (c := 1) (du := ((wr w).2 6)) (k := kA (ftReturn ((wr w).2 1) i)) (fun g => rfl) ?_ ?_ ?_
  · rw [eF]
    intro hf
    have h := (fA_return ((wr w).2 1) i).resolve_left hf
    exact ⟨h.elim Or.inl (fun h => Or.inr (Or.inr h)), kA_ok h⟩
  · rw [eF, eS, eV]
    exact fun hf g' m => (S g' m).1 hf
  · rw [eF, ← tcA_k]
    exact fun hf g' m => (S g' m).2 hf
theorem Qt_swapBlankets (H : Iv w) (i b : Int32) : Qt n w (x8_swapBlankets n i b) (fun m => x9_swapBlankets m i b) exA := by
  have eF : ftOf ((wr w).2 1) 2 i b = ftSwap ((wr w).2 1) i b := by
    unfold ftOf
    rw [if_neg (by decide), if_neg (by decide), if_pos rfl]
  have eS : pfS ((wr w).2 1, (wr w).2 6) 2 i b = exS ((wr w).2 1) (kN i) (kN b) := by
    unfold pfS
    rw [if_neg (by decide), if_neg (by decide), if_pos rfl]
  have eV : pfV ((wr w).2 1, (wr w).2 6) 2 i b = cntD (exS ((wr w).2 1) (kN i) (kN b)) 0 := by
    unfold pfV
    rw [if_neg (by decide), if_neg (by decide), if_pos rfl, eS]
  obtain ⟨⟨G, -, -⟩, -, a, x, h5, -, hk0, -⟩ := H.1
  have S := fun g' m => s_swap (g := g') (m := m) hk0 h5 G i b
  refine Qt_act H (c := 2) (du := ((wr w).2 6)) (k := kA (ftSwap ((wr w).2 1) i b)) (fun g => rfl) ?_ ?_ ?_
  · rw [eF]
    intro hf
    have h := (fA_swap ((wr w).2 1) i b).resolve_left hf
    exact ⟨h.elim Or.inl (fun h => Or.inr (Or.inr h)), kA_ok h⟩
  · rw [eF, eS, eV]
    exact fun hf g' m => (S g' m).1 hf
  · rw [eF, ← tcA_k]
    exact fun hf g' m => (S g' m).2 hf
theorem Qt_lieDown (H : Iv w) (i b : Int32) : Qt n w (x8_lieDown n i b) (fun m => x9_lieDown m i b) exA := by
  have eF : ftOf ((wr w).2 1) 3 i b = ftLie ((wr w).2 1) i b := by
    unfold ftOf
    rw [if_neg (by decide), if_neg (by decide), if_neg (by decide), if_pos rfl]
  have eS : pfS ((wr w).2 1, (wr w).2 6) 3 i b = upd ((wr w).2 1) (49 + 10 * kN i + 4) b := by
    unfold pfS
    rw [if_neg (by decide), if_neg (by decide), if_neg (by decide), if_pos rfl]
  have eV : pfV ((wr w).2 1, (wr w).2 6) 3 i b = noi (upd ((wr w).2 1) (49 + 10 * kN i + 4) b) b := by
    unfold pfV
    rw [if_neg (by decide), if_neg (by decide), if_neg (by decide), if_pos rfl, eS]
  obtain ⟨⟨G, -, -⟩, -, a, x, h5, -, hk0, -⟩ := H.1
  have S := fun g' m => s_lie (g := g') (m := m) hk0 h5 G i b
  refine Qt_act H (c := 3) (du := ((wr w).2 6)) (k := kA (ftLie ((wr w).2 1) i b)) (fun g => rfl) ?_ ?_ ?_
  · rw [eF]
    intro hf
    have h := (fA_lie ((wr w).2 1) i b).resolve_left hf
    exact ⟨h.elim Or.inl (fun h => Or.inr (Or.inr h)), kA_ok h⟩
  · rw [eF, eS, eV]
    exact fun hf g' m => (S g' m).1 hf
  · rw [eF, ← tcA_k]
    exact fun hf g' m => (S g' m).2 hf
theorem Qt_getUp (H : Iv w) (i : Int32) : Qt n w (x8_getUp n i) (fun m => x9_getUp m i) exA := by
  have eF : ftOf ((wr w).2 1) 4 i 0 = ftRise ((wr w).2 1) i := by
    unfold ftOf
    rw [if_neg (by decide), if_neg (by decide), if_neg (by decide), if_neg (by decide), if_pos rfl]
  have eS : pfS ((wr w).2 1, (wr w).2 6) 4 i 0 = upd ((wr w).2 1) (49 + 10 * kN i + 4) (-1) := by
    unfold pfS
    rw [if_neg (by decide), if_neg (by decide), if_neg (by decide), if_neg (by decide), if_pos rfl]
  have eV : pfV ((wr w).2 1, (wr w).2 6) 4 i 0 = hk ((wr w).2 1) (kN i) 4 := by
    unfold pfV
    rw [if_neg (by decide), if_neg (by decide), if_neg (by decide), if_neg (by decide), if_pos rfl]
  obtain ⟨⟨G, -, -⟩, -, a, x, h5, -, hk0, -⟩ := H.1
  have S := fun g' m => s_rise (g := g') (m := m) hk0 h5 G.1 i
  refine Qt_act H (c := 4) (du := ((wr w).2 6)) (k := kA (ftRise ((wr w).2 1) i)) (fun g => rfl) ?_ ?_ ?_
  · rw [eF]
    intro hf
    have h := (fA_rise ((wr w).2 1) i).resolve_left hf
    exact ⟨h.elim Or.inl (fun h => Or.inr (Or.inr h)), kA_ok h⟩
  · rw [eF, eS, eV]
    exact fun hf g' m => (S g' m).1 hf
  · rw [eF, ← tcA_k]
    exact fun hf g' m => (S g' m).2 hf
theorem Qt_setRate (H : Iv w) (i : Int32) : Qt n w (x8_setRate n i) (fun m => x9_setRate m i) exA1 := by
  have eF : ftOf ((wr w).2 1) 5 i 0 = (if bt i 0 3 = true then 0 else 2) := by
    unfold ftOf
    rw [if_neg (by decide), if_neg (by decide), if_neg (by decide), if_neg (by decide), if_neg (by decide), if_pos rfl]
  have eS : pfS ((wr w).2 1, (wr w).2 6) 5 i 0 = upd ((wr w).2 1) 1 i := by
    unfold pfS
    rw [if_neg (by decide), if_neg (by decide), if_neg (by decide), if_neg (by decide), if_neg (by decide), if_pos rfl]
  have eV : pfV ((wr w).2 1, (wr w).2 6) 5 i 0 = (wr w).2 1 1 := by
    unfold pfV
    rw [if_neg (by decide), if_neg (by decide), if_neg (by decide), if_neg (by decide), if_neg (by decide), if_pos rfl]
  obtain ⟨⟨G, -, -⟩, -, a, x, h5, -, hk0, -⟩ := H.1
  have S := fun g' m => s_setRate (g := g') (m := m) hk0 h5 i
  refine Qt_act H (c := 5) (du := ((wr w).2 6)) (k := 1) (fun g => rfl) ?_ ?_ ?_
  · rw [eF]
    intro hf
    have hb : ¬ bt i 0 3 = true := fun hb => hf (if_pos hb)
    rw [if_neg hb]
    exact ⟨Or.inr (Or.inl rfl), Or.inl rfl, rfl⟩
  · rw [eF, eS, eV]
    intro hf g' m
    have hb : bt i 0 3 = true := by
      by_cases hb : bt i 0 3 = true
      · exact hb
      · rw [if_neg hb] at hf; exact absurd hf (by decide)
    exact (S g' m).1 hb
  · rw [eF]
    intro hf g' m
    have hb : ¬ bt i 0 3 = true := fun hb => hf (if_pos hb)
    exact (S g' m).2 hb
theorem Qt_fetchLogs (H : Iv w) (i : Int32) : Qt n w (x8_fetchLogs n i) (fun m => x9_fetchLogs m i) exB := by
  have eF : ftOf ((wr w).2 1) 6 i 0 = ftFetch ((wr w).2 1) i := by
    unfold ftOf
    rw [if_neg (by decide), if_neg (by decide), if_neg (by decide), if_neg (by decide), if_neg (by decide), if_neg (by decide), if_pos rfl]
  have eS : pfS ((wr w).2 1, (wr w).2 6) 6 i 0 = upd (upd ((wr w).2 1) 0 ((wr w).2 1 0 + i)) 8 ((wr w).2 1 8 + i) := by
    unfold pfS
    rw [if_neg (by decide), if_neg (by decide), if_neg (by decide), if_neg (by decide), if_neg (by decide), if_neg (by decide), if_pos rfl]
  have eV : pfV ((wr w).2 1, (wr w).2 6) 6 i 0 = (wr w).2 1 0 + i := by
    unfold pfV
    rw [if_neg (by decide), if_neg (by decide), if_neg (by decide), if_neg (by decide), if_neg (by decide), if_neg (by decide), if_pos rfl]
  obtain ⟨⟨G, -, -⟩, -, a, x, h5, -, hk0, -⟩ := H.1
  have S := fun g' m => s_fetch (g := g') (m := m) hk0 h5 i
  refine Qt_act H (c := 6) (du := ((wr w).2 6)) (k := kB (ftFetch ((wr w).2 1) i)) (fun g => rfl) ?_ ?_ ?_
  · rw [eF]
    intro hf
    have h := (fB_fetch ((wr w).2 1) i).resolve_left hf
    exact ⟨h.elim (fun h => Or.inr (Or.inl h)) (fun h => Or.inr (Or.inr h)), kB_ok h⟩
  · rw [eF, eS, eV]
    exact fun hf g' m => (S g' m).1 hf
  · rw [eF, ← tcB_k]
    exact fun hf g' m => (S g' m).2 hf
theorem Qt_payDebt (H : Iv w) (i b : Int32) : Qt n w (x8_payDebt n i b) (fun m => x9_payDebt m i b) exC := by
  have eF : ftOf ((wr w).2 1) 7 i b = ftPay ((wr w).2 1) i b := by
    unfold ftOf
    rw [if_neg (by decide), if_neg (by decide), if_neg (by decide), if_neg (by decide), if_neg (by decide), if_neg (by decide), if_neg (by decide), if_pos rfl]
  have eS : pfS ((wr w).2 1, (wr w).2 6) 7 i b = pbS ((wr w).2 1) (kN i) b := by
    unfold pfS
    rw [if_neg (by decide), if_neg (by decide), if_neg (by decide), if_neg (by decide), if_neg (by decide), if_neg (by decide), if_neg (by decide), if_pos rfl]
  have eV : pfV ((wr w).2 1, (wr w).2 6) 7 i b = hk ((wr w).2 1) (kN i) 3 + -b := by
    unfold pfV
    rw [if_neg (by decide), if_neg (by decide), if_neg (by decide), if_neg (by decide), if_neg (by decide), if_neg (by decide), if_neg (by decide), if_pos rfl]
  obtain ⟨⟨G, -, -⟩, -, a, x, h5, -, hk0, -⟩ := H.1
  have S := fun g' m => s_payDebt (g := g') (m := m) hk0 h5 G.1 i b
  refine Qt_act H (c := 7) (du := ((wr w).2 6)) (k := kC (ftPay ((wr w).2 1) i b)) (fun g => rfl) ?_ ?_ ?_
  · rw [eF]
    intro hf
    have h := (fC_pay ((wr w).2 1) i b).resolve_left hf
    exact ⟨h, (kC_ok h).1, (kC_ok h).2.1⟩
  · rw [eF, eS, eV]
    exact fun hf g' m => (S g' m).1 hf
  · rw [eF]
    intro hf g' m
    rw [← (kC_ok ((fC_pay ((wr w).2 1) i b).resolve_left hf)).2.2]
    exact (S g' m).2 hf
theorem Qt_passHours (H : Iv w) (i : Int32) : Qt n w (x8_passHours n i) (fun m => x9_passHours m i) exB := by
  have eF : ftOf ((wr w).2 1) 8 i 0 = ftPass ((wr w).2 1) i := by
    unfold ftOf
    rw [if_neg (by decide), if_neg (by decide), if_neg (by decide), if_neg (by decide), if_neg (by decide), if_neg (by decide), if_neg (by decide), if_neg (by decide)]
  have eS : pfS ((wr w).2 1, (wr w).2 6) 8 i 0 = (manyS (kN i) ((wr w).2 1, (wr w).2 6)).1 := by
    unfold pfS
    rw [if_neg (by decide), if_neg (by decide), if_neg (by decide), if_neg (by decide), if_neg (by decide), if_neg (by decide), if_neg (by decide), if_neg (by decide)]
  have eV : pfV ((wr w).2 1, (wr w).2 6) 8 i 0 = (manyS (kN i) ((wr w).2 1, (wr w).2 6)).1 6 - (wr w).2 1 6 := by
    unfold pfV
    rw [if_neg (by decide), if_neg (by decide), if_neg (by decide), if_neg (by decide), if_neg (by decide), if_neg (by decide), if_neg (by decide), if_neg (by decide)]
  obtain ⟨⟨G, -, -⟩, -, a, x, h5, -, hk0, -⟩ := H.1
  have S := fun g' m => s_pass (g := g') (m := m) hk0 h5 G i
  refine Qt_act H (c := 8) (du := ((manyS (kN i) ((wr w).2 1, (wr w).2 6)).2)) (k := kB (ftPass ((wr w).2 1) i)) (fun g => rfl) ?_ ?_ ?_
  · rw [eF]
    intro hf
    have h := (fB_pass ((wr w).2 1) i).resolve_left hf
    exact ⟨h.elim (fun h => Or.inr (Or.inl h)) (fun h => Or.inr (Or.inr h)), kB_ok h⟩
  · rw [eF, eS, eV]
    exact fun hf g' m => (S g' m).1 hf
  · rw [eF, ← tcB_k]
    exact fun hf g' m => (S g' m).2 hf
end WAct
