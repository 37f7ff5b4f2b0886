/-! the class reads a setup: hikers, the whole -/
abbrev H3 : Type := Nat × Nat × Nat
def hkN (T : Nat → Int32) (L s : Nat) : (H3 × Nat) ⊕ Er := if nuE T L 1 30 s = 0 then (if nuE T L 0 9 (nx T L s) = 0 then (if nuE T L 0 99 (nx T L (nx T L s)) = 0 then (if tk T L (nx T L (nx T L (nx T L s))) = 3 then .inl ((nv T L s, nv T L (nx T L s), nv T L (nx T L (nx T L s))), nx T L (nx T L (nx T L (nx T L s)))) else .inr (1, nx T L (nx T L (nx T L s)))) else .inr (nuE T L 0 99 (nx T L (nx T L s)), nx T L (nx T L s))) else .inr (nuE T L 0 9 (nx T L s), nx T L s)) else .inr (nuE T L 1 30 s, s)
def hksS (T : Nat → Int32) (L : Nat) : Nat → List H3 → Nat → (List H3) ⊕ Er
  | 0, _, _ => .inr (1, 0)
  | n + 1, hs, s => if 1 ≤ hs.length ∧ tk T L s = 0 then .inl hs else if wdB T L 5 s = true then (if 10 ≤ hs.length then .inr (3, s) else match hkN T L (nx T L s) with
    | .inl (t, s') => hksS T L n (hs ++ [t]) s'
    | .inr e => .inr e) else .inr (1, s)
abbrev Su : Type := Nat × List Nat × List Nat × List Nat × List H3
def suS (T : Nat → Int32) (L : Nat) : Su ⊕ Er := match spLogs T L (rn T L 4 0) with
  | .inr e => .inr e
  | .inl (lg, s1) => match spRow T L 2 0 5 1 s1 with
    | .inr e => .inr e
    | .inl (bs, s2) => match spRow T L 3 1 9 0 s2 with
      | .inr e => .inr e
      | .inl (ls, s3) => match spRow T L 4 0 20 1 s3 with
        | .inr e => .inr e
        | .inl (fs, s4) => match hksS T L 11 [] s4 with
          | .inr e => .inr e
          | .inl hs => .inl (lg, bs, ls, fs, hs)
def hk3 (t : H3) (f : Nat) : Int32 := match f with
  | 0 => I t.1
  | 1 => I t.2.1
  | _ => I t.2.2
def hkV (h : HS) (hs : List H3) : HS := (h.1, h.2.1, (fun i f => if i < hs.length ∧ f < 3 then hk3 (hs.getD i (0, 0, 0)) f else h.2.2.1 i f), h.2.2.2)
theorem hkV_nil (h : HS) : hkV h [] = h := by
  refine Prod.ext rfl (Prod.ext rfl (Prod.ext (funext fun i => funext fun f => ?_) rfl))
  show (if i < ([] : List H3).length ∧ f < 3 then hk3 (([] : List H3).getD i (0, 0, 0)) f else h.2.2.1 i f) = h.2.2.1 i f
  exact if_neg (fun hc => absurd hc.1 (Nat.not_lt_zero _))
theorem hkV_app (h : HS) (hs : List H3) (t : H3) : hK (hK (hK (hkV h hs) hs.length 0 (I t.1)) hs.length 1 (I t.2.1)) hs.length 2 (I t.2.2) = hkV h (hs ++ [t]) := by
  refine Prod.ext rfl (Prod.ext rfl (Prod.ext (funext fun i => funext fun f => ?_) rfl))
  show (hK (hK (hK (hkV h hs) hs.length 0 (I t.1)) hs.length 1 (I t.2.1)) hs.length 2 (I t.2.2)).2.2.1 i f = if i < (hs ++ [t]).length ∧ f < 3 then hk3 ((hs ++ [t]).getD i (0, 0, 0)) f else h.2.2.1 i f
  rw [List.length_append, List.length_singleton]
  by_cases hi : i = hs.length
  · have hg : (hs ++ [t]).getD hs.length (0, 0, 0) = t := by simp
    rw [hi, hg]
    match f with
    | 0 => rw [hK_ne (Or.inr (by decide)), hK_ne (Or.inr (by decide)), hK_at, if_pos ⟨by omega, by decide⟩]; rfl
    | 1 => rw [hK_ne (Or.inr (by decide)), hK_at, if_pos ⟨by omega, by decide⟩]; rfl
    | 2 => rw [hK_at, if_pos ⟨by omega, by decide⟩]; rfl
    | f + 3 =>
      rw [hK_ne (Or.inr (by omega)), hK_ne (Or.inr (by omega)), hK_ne (Or.inr (by omega)), if_neg (fun hc => by omega)]
      exact if_neg (fun hc => by omega)
  · rw [hK_ne (Or.inl hi), hK_ne (Or.inl hi), hK_ne (Or.inl hi)]
    show (if i < hs.length ∧ f < 3 then hk3 (hs.getD i (0, 0, 0)) f else h.2.2.1 i f) = _
    by_cases hc : i < hs.length ∧ f < 3
    · have hg : (hs ++ [t]).getD i (0, 0, 0) = hs.getD i (0, 0, 0) := by simp [List.getElem?_append_left hc.1]
      rw [if_pos hc, if_pos ⟨by omega, hc.2⟩, hg]
    · rw [if_neg hc, if_neg (fun hd => hc ⟨by omega, hd.2⟩)]
def lpB {σ τ : Type} (o : Option ((σ ⊕ τ) × AH)) (k : σ → AH → Option (τ × AH)) : Option (τ × AH) := match o with
  | none => none
  | some (.inl s1, g1) => k s1 g1
  | some (.inr t, g1) => some (t, g1)
theorem loopX_s {σ τ : Type} {body : σ → AH → Option ((σ ⊕ τ) × AH)} {n : Nat} {s : σ} {g : AH} : loopX body (n + 1) s g = lpB (body s g) (loopX body n) := by
  rw [loopX]
  unfold lpB
  match body s g with
  | none => rfl
  | some (.inl s1, g1) => rfl
  | some (.inr t, g1) => rfl
section CSet2
variable {g : AH} {p q L s : Nat} {T : Nat → Int32} {h : HS} {cnt : Int32}
theorem c_readHiker (hd : p + 3 ≤ q ∨ q + 27 ≤ p) {i : Nat} (hi : i < 10) (hL : L ≤ 500) (hs : s ≤ L) : (∃ t s', hkN T L s = .inl (t, s') ∧ s' ≤ L ∧ x0_readHiker p (q + (7 + 2 * i)) (GG2 g p (pK cnt T L s) q h) = some (1, GG2 g p (pK cnt T L s') q (hK (hK (hK h i 0 (I t.1)) i 1 (I t.2.1)) i 2 (I t.2.2)))) ∨ (∃ c e, hkN T L s = .inr (c, e) ∧ e ≤ L ∧ (c = 1 ∨ c = 2 ∨ c = 3) ∧ ∃ h' cnt', (Dr h → Dr h') ∧ x0_readHiker p (q + (7 + 2 * i)) (GG2 g p (pK cnt T L s) q h) = some (0, GG2 g p (pE (I c) cnt' T L e) q h')) := by
  have s1 := nx_le (T := T) hs
  have s2 := nx_le (T := T) s1
  have s3 := nx_le (T := T) s2
  have s4 := nx_le (T := T) s3
  have n1 : ¬ (1 : Int32) = 0 := by decide
  have n0 : (0 : Int32) = 0 := rfl
  have eN1 := c_isNumber (g := putH g q h) (p := p) (T := T) (L := L) (s := s) (cnt := cnt) (lo := 1) (hi := 30) (x := 1) (y := 30) rfl rfl hL (by decide) (by decide)
  unfold x0_readHiker
  rw [P_isO0, gb_s, eN1]
  by_cases h1 : nuE T L 1 30 s = 0
  · have eN2 := c_isNumber (g := putH g q (hK h i 0 (I (nv T L s)))) (p := p) (T := T) (L := L) (s := nx T L s) (cnt := cnt) (lo := 0) (hi := 9) (x := 0) (y := 9) rfl rfl hL (by decide) (by decide)
    rw [if_pos h1, cb_s, if_neg n1, P_getR0, gb_s, P_isO7, gb_s, c_valueOk hL (by decide) h1, cb_s, GG_putK hd hi (by decide), gb_s, P_getR0, gb_s, P_isO7, gb_s, c_next hL hs, cb_s, P_isO0, gb_s, eN2]
    by_cases h2 : nuE T L 0 9 (nx T L s) = 0
    · have eN3 := c_isNumber (g := putH g q (hK (hK h i 0 (I (nv T L s))) i 1 (I (nv T L (nx T L s))))) (p := p) (T := T) (L := L) (s := nx T L (nx T L s)) (cnt := cnt) (lo := 0) (hi := 99) (x := 0) (y := 99) rfl rfl hL (by decide) (by decide)
      rw [if_pos h2, cb_s, if_neg n1, P_getR0, gb_s, P_isO7, gb_s, c_valueOk hL (by decide) h2, cb_s, GG_putK hd hi (by decide), gb_s, P_getR0, gb_s, P_isO7, gb_s, c_next hL s1, cb_s, P_isO0, gb_s, eN3]
      by_cases h3 : nuE T L 0 99 (nx T L (nx T L s)) = 0
      · have eM := c_semi (g := putH g q (hK (hK (hK h i 0 (I (nv T L s))) i 1 (I (nv T L (nx T L s)))) i 2 (I (nv T L (nx T L (nx T L s)))))) (p := p) (T := T) (cnt := cnt) hL s3
        rw [if_pos h3, cb_s, if_neg n1, P_getR0, gb_s, P_isO7, gb_s, c_valueOk hL (by decide) h3, cb_s, GG_putK hd hi (by decide), gb_s, P_getR0, gb_s, P_isO7, gb_s, c_next hL s2, cb_s, P_isO0, gb_s, eM]
        by_cases h4 : tk T L (nx T L (nx T L (nx T L s))) = 3
        · have eS : hkN T L s = .inl ((nv T L s, nv T L (nx T L s), nv T L (nx T L (nx T L s))), nx T L (nx T L (nx T L (nx T L s)))) := by unfold hkN; rw [if_pos h1, if_pos h2, if_pos h3, if_pos h4]
          rw [if_pos h4, cb_s, if_pos (show bz (1 : Int32) from Or.inr rfl)]
          exact Or.inl ⟨_, _, eS, s4, rfl⟩
        · have eS : hkN T L s = .inr (1, nx T L (nx T L (nx T L s))) := by unfold hkN; rw [if_pos h1, if_pos h2, if_pos h3, if_neg h4]
          rw [if_neg h4, cb_s, if_pos (show bz (0 : Int32) from Or.inl rfl)]
          exact Or.inr ⟨1, _, eS, s3, Or.inl rfl, _, _, fun d => ((d.k (Or.inl (by decide))).k (Or.inl (by decide))).k (Or.inl (by decide)), rfl⟩
      · have eS : hkN T L s = .inr (nuE T L 0 99 (nx T L (nx T L s)), nx T L (nx T L s)) := by unfold hkN; rw [if_pos h1, if_pos h2, if_neg h3]
        have := nuE_cases T L 0 99 (nx T L (nx T L s))
        rw [if_neg h3, cb_s, if_pos n0]
        exact Or.inr ⟨_, _, eS, s2, by omega, _, _, fun d => (d.k (Or.inl (by decide))).k (Or.inl (by decide)), rfl⟩
    · have eS : hkN T L s = .inr (nuE T L 0 9 (nx T L s), nx T L s) := by unfold hkN; rw [if_pos h1, if_neg h2]
      have := nuE_cases T L 0 9 (nx T L s)
      rw [if_neg h2, cb_s, if_pos n0]
      exact Or.inr ⟨_, _, eS, s1, by omega, _, _, fun d => d.k (Or.inl (by decide)), rfl⟩
  · have eS : hkN T L s = .inr (nuE T L 1 30 s, s) := by unfold hkN; rw [if_neg h1]
    have := nuE_cases T L 1 30 s
    rw [if_neg h1, cb_s, if_pos n0]
    exact Or.inr ⟨_, _, eS, hs, by omega, _, _, fun d => d, rfl⟩
theorem Dr.v {h : HS} (d : Dr h) (hs : List H3) : Dr (hkV h hs) := by
  obtain ⟨d1, d2, d3, d4⟩ := d
  refine ⟨d1, fun i hi => ?_, d3, d4⟩
  have e : ∀ f, 3 ≤ f → (hkV h hs).2.2.1 i f = h.2.2.1 i f := fun f hf0 => if_neg (fun hc => by omega)
  rw [e 3 (by decide), e 4 (by decide), e 5 (by decide)]
  exact d2 i hi
theorem c_hikersLoop (hd : p + 3 ≤ q ∨ q + 27 ≤ p) (hL : L ≤ 500) (h0 : HS) : ∀ n F hs s cnt, n < F → hs.length + n = 11 → hs.length ≤ 10 → s ≤ L →
    (∃ hs' s', hksS T L n hs s = .inl hs' ∧ s' ≤ L ∧ 1 ≤ hs'.length ∧ hs'.length ≤ 10 ∧ ∃ cnt', (cb (loopX (x0_readHikers_l2 p q) F (I hs.length) (GG2 g p (pK cnt T L s) q (hkV h0 hs))) fun t1 g2 => Sum.elim (fun _ => some (0, g2)) (fun t5 => some (t5, g2)) t1) = some (1, GG2 g p (pK cnt' T L s') q (hF (hkV h0 hs') 12 (I hs'.length)))) ∨ (∃ c e, hksS T L n hs s = .inr (c, e) ∧ e ≤ L ∧ (c = 1 ∨ c = 2 ∨ c = 3) ∧ ∃ h' cnt', (Dr h0 → Dr h') ∧ (cb (loopX (x0_readHikers_l2 p q) F (I hs.length) (GG2 g p (pK cnt T L s) q (hkV h0 hs))) fun t1 g2 => Sum.elim (fun _ => some (0, g2)) (fun t5 => some (t5, g2)) t1) = some (0, GG2 g p (pE (I c) cnt' T L e) q h')) := by
  intro n
  induction n with
  | zero => intro F hs s cnt hFu hv hv2; omega
  | succ n ih =>
    intro F hs s cnt hFu hv hv2 hsL
    have ht5 := tk_le T L s
    have s1 := nx_le (T := T) hsL
    match F, hFu with
    | F + 1, hFu =>
      rw [loopX_s]
      have n10 : ¬ (10 : Int32) < I hs.length := by rw [show (10 : Int32) = I 10 from rfl, I_lt (by decide) (by omega)]; omega
      by_cases hfin : 1 ≤ hs.length ∧ tk T L s = 0
      · have eS : hksS T L (n + 1) hs s = .inl hs := by rw [hksS, if_pos hfin]
        have e2 : (pK cnt T L s).2.1 2 = 0 := by show I (tk T L s) = 0; rw [hfin.2]; rfl
        have eb : x0_readHikers_l2 p q (I hs.length) (GG2 g p (pK cnt T L s) q (hkV h0 hs)) = some (.inr (.inr 1), GG2 g p (pK cnt T L s) q (hF (hkV h0 hs) 12 (I hs.length))) := by
          unfold x0_readHikers_l2
          rw [if_neg n10, if_neg (show ¬ I hs.length ≤ 0 by rw [show (0 : Int32) = I 0 from rfl, I_le (by omega) (by decide)]; omega), P_getR0, gb_s, P_tI (by decide), gb_s, if_pos e2, GG_putI hd (by decide), gb_s]
        rw [eS, eb]
        exact Or.inl ⟨hs, s, rfl, hsL, hfin.1, hv2, cnt, rfl⟩
      · have eb : x0_readHikers_l2 p q (I hs.length) (GG2 g p (pK cnt T L s) q (hkV h0 hs)) = x0_readHikers_j29_2 p q (I hs.length) (GG2 g p (pK cnt T L s) q (hkV h0 hs)) := by
          unfold x0_readHikers_l2
          rw [if_neg n10]
          by_cases h0l : hs.length = 0
          · rw [if_pos (show I hs.length ≤ 0 by rw [show (0 : Int32) = I 0 from rfl, I_le (by omega) (by decide)]; omega)]
          · have ht0 : ¬ tk T L s = 0 := fun hc => hfin ⟨by omega, hc⟩
            have e2 : ¬ (pK cnt T L s).2.1 2 = 0 := show ¬ I (tk T L s) = 0 from fun hc => ht0 ((I_eq (b := 0) (by omega) (by decide)).mp hc)
            rw [if_neg (show ¬ I hs.length ≤ 0 by rw [show (0 : Int32) = I 0 from rfl, I_le (by omega) (by decide)]; omega), P_getR0, gb_s, P_tI (by decide), gb_s, if_neg e2]
        have eW := c_isWord (g := putH g q (hkV h0 hs)) (p := p) (gi := giC 0 (-1) cnt) (T := T) hL hsL (k := 5) (by decide)
        rw [eb]
        unfold x0_readHikers_j29_2
        rw [P_getR0, gb_s, P_isO7, gb_s, eW, cb_s]
        by_cases h1 : wdB T L 5 s = true
        · rw [if_neg (show ¬ bI (wdB T L 5 s) = 0 by rw [bI_z, h1]; decide)]
          by_cases h2 : 10 ≤ hs.length
          · have eS : hksS T L (n + 1) hs s = .inr (3, s) := by rw [hksS, if_neg hfin, if_pos h1, if_pos h2]
            rw [eS, if_neg (show ¬ I hs.length < 10 by rw [show (10 : Int32) = I 10 from rfl, I_lt (by omega) (by decide)]; omega), P_isO0, gb_s, c_fail, cb_s, if_pos (show bz (0 : Int32) from Or.inl rfl)]
            exact Or.inr ⟨3, s, rfl, hsL, Or.inr (Or.inr rfl), _, _, fun d => d.v hs, rfl⟩
          · have h10 : hs.length < 10 := by omega
            rw [if_pos (show I hs.length < 10 by rw [show (10 : Int32) = I 10 from rfl, I_lt (by omega) (by decide)]; omega), P_getR0, gb_s, P_isO7, gb_s, c_next hL hsL, cb_s, GG_getR (d := 6) hd rfl (by decide) (by decide), gb_s, GG_hik hd h10, gb_s, P_isO0, gb_s]
            rcases c_readHiker (g := g) (p := p) (q := q) (T := T) (h := hkV h0 hs) (cnt := cnt) (i := hs.length) hd h10 hL s1 with ⟨t, s', e1, e2, e3⟩ | ⟨c, e, e1, e2, e3, h', cnt', e4, e5⟩
            · have eS : hksS T L (n + 1) hs s = hksS T L n (hs ++ [t]) s' := by rw [hksS, if_neg hfin, if_pos h1, if_neg h2, e1]
              have r := ih F (hs ++ [t]) s' cnt (by omega) (by rw [List.length_append, List.length_singleton]; omega) (by rw [List.length_append, List.length_singleton]; omega) e2
              rw [e3, cb_s, if_neg (show ¬ (1 : Int32) = 0 by decide), eS, I_succ, hkV_app]
              rw [List.length_append, List.length_singleton] at r
              exact r
            · have eS : hksS T L (n + 1) hs s = .inr (c, e) := by rw [hksS, if_neg hfin, if_pos h1, if_neg h2, e1]
              rw [e5, cb_s, if_pos (rfl : (0 : Int32) = 0), eS]
              exact Or.inr ⟨c, e, rfl, e2, e3, h', cnt', fun d => e4 (d.v hs), rfl⟩
        · have eS : hksS T L (n + 1) hs s = .inr (1, s) := by rw [hksS, if_neg hfin, if_neg h1]
          rw [eS, if_pos (show bI (wdB T L 5 s) = 0 from (bI_z _).mpr (by simpa using h1)), P_isO0, gb_s, c_fail, cb_s, if_pos (show bz (0 : Int32) from Or.inl rfl)]
          exact Or.inr ⟨1, s, rfl, hsL, Or.inl rfl, _, _, fun d => d.v hs, rfl⟩
/-- the hut that a setup is read into, before it opens -/
def suH (h : HS) (u : Su) : HS := hF (hkV (hF (hAr (hF (hAr (hF (hAr (hF h 1 (I u.1)) 1 (setV (h.2.1 1) u.2.1)) 9 (I u.2.1.length)) 2 (setV (h.2.1 2) u.2.2.1)) 10 (I u.2.2.1.length)) 3 (setV (h.2.1 3) u.2.2.2.1)) 11 (I u.2.2.2.1.length)) u.2.2.2.2) 12 (I u.2.2.2.2.length)
def suOk (u : Su) : Prop := u.2.1.length ≤ 12 ∧ u.2.2.1.length ≤ 12 ∧ u.2.2.2.1.length ≤ 12 ∧ 1 ≤ u.2.2.2.2.length ∧ u.2.2.2.2.length ≤ 10
theorem c_readParts (hd : p + 3 ≤ q ∨ q + 27 ≤ p) (hL : L ≤ 500) {a b c ec ep : Int32} :
    (∃ u s' cnt', suS T L = .inl u ∧ suOk u ∧ s' ≤ L ∧ x0_readSetup p q (putP (putH g q h) p (giC ec ep cnt, tiC (I L) a b c, T)) = (gb (isO 3 (GG2 g p (pK cnt' T L s') q (suH h u)) q) fun _ => cb (x3_open q (GG2 g p (pK cnt' T L s') q (suH h u))) fun _ g4 => if bz 1 then some (1, g4) else none)) ∨ (∃ c' e, suS T L = .inr (c', e) ∧ e ≤ L ∧ (c' = 1 ∨ c' = 2 ∨ c' = 3) ∧ ∃ h' cnt', (Dr h → Dr h') ∧ x0_readSetup p q (putP (putH g q h) p (giC ec ep cnt, tiC (I L) a b c, T)) = some (0, GG2 g p (pE (I c') cnt' T L e) q h')) := by
  have s0 := rn_le (T := T) (L := L) (k := 4) (Nat.zero_le L)
  have n1 : ¬ (1 : Int32) = 0 := by decide
  have n0 : (0 : Int32) = 0 := rfl
  have eF : ∀ g, x0_readSetup_j48 q g = some (0, g) := by
    intro g
    unfold x0_readSetup_j48 x0_readSetup_j49
    rw [if_pos n0, if_pos (show bz (0 : Int32) from Or.inl rfl)]
  unfold x0_readSetup suS
  rw [P_isO0, gb_s, c_begin (gi := fun _ => 0) hL, cb_s, P_isO0, gb_s]
  rcases c_readLogs (g := g) (p := p) (q := q) (T := T) (h := h) (cnt := cnt) hd hL s0 with ⟨lg, s1, e1, e2, e3⟩ | ⟨c', e, e1, e2, e3, h', cnt', e4, e5⟩
  · rw [e3, cb_s, if_neg n1, e1, P_isO0, gb_s]
    dsimp only
    rcases c_readBunks (g := g) (p := p) (q := q) (T := T) (h := hF h 1 (I lg)) (cnt := cnt) hd hL e2 with ⟨bs, s2, cnt2, f1, f2, f3, f4⟩ | ⟨c', e, f1, f2, f3, h', cnt', f4, f5⟩
    · rw [f4, cb_s, if_neg n1, f1, P_isO0, gb_s]
      dsimp only
      rcases c_readBlankets (g := g) (p := p) (q := q) (T := T) (h := hF (hAr (hF h 1 (I lg)) 1 (setV ((hF h 1 (I lg)).2.1 1) bs)) 9 (I bs.length)) (cnt := cnt2) hd hL f2 with ⟨ls, s3, cnt3, g1, g2, g3, g4⟩ | ⟨c', e, g1, g2, g3, h', cnt', g4, g5⟩
      · rw [g4, cb_s, if_neg n1, g1, P_isO0, gb_s]
        dsimp only
        rcases c_readForecast (g := g) (p := p) (q := q) (T := T) (h := hF (hAr (hF (hAr (hF h 1 (I lg)) 1 (setV ((hF h 1 (I lg)).2.1 1) bs)) 9 (I bs.length)) 2 (setV ((hF (hAr (hF h 1 (I lg)) 1 (setV ((hF h 1 (I lg)).2.1 1) bs)) 9 (I bs.length)).2.1 2) ls)) 10 (I ls.length)) (cnt := cnt3) hd hL g2 with ⟨fs, s4, cnt4, k1, k2, k3, k4⟩ | ⟨c', e, k1, k2, k3, h', cnt', k4, k5⟩
        · rw [k4, cb_s, if_neg n1, k1, P_isO0, gb_s]
          dsimp only
          have r := c_hikersLoop (g := g) (p := p) (q := q) (T := T) hd hL (hF (hAr (hF (hAr (hF (hAr (hF h 1 (I lg)) 1 (setV ((hF h 1 (I lg)).2.1 1) bs)) 9 (I bs.length)) 2 (setV ((hF (hAr (hF h 1 (I lg)) 1 (setV ((hF h 1 (I lg)).2.1 1) bs)) 9 (I bs.length)).2.1 2) ls)) 10 (I ls.length)) 3 (setV ((hF (hAr (hF (hAr (hF h 1 (I lg)) 1 (setV ((hF h 1 (I lg)).2.1 1) bs)) 9 (I bs.length)) 2 (setV ((hF (hAr (hF h 1 (I lg)) 1 (setV ((hF h 1 (I lg)).2.1 1) bs)) 9 (I bs.length)).2.1 2) ls)) 10 (I ls.length)).2.1 3) fs)) 11 (I fs.length)) 11 1000 [] s4 cnt4 (by decide) rfl (by decide) k2
          rw [hkV_nil] at r
          rcases r with ⟨hs, s5, l1, l2, l3, l4, cnt5, l5⟩ | ⟨c', e, l1, l2, l3, h', cnt', l4, l5⟩
          · rw [l1]
            refine Or.inl ⟨(lg, bs, ls, fs, hs), s5, cnt5, rfl, ⟨f3, g3, k3, l3, l4⟩, l2, ?_⟩
            rw [show x0_readHikers p q _ = _ from l5, cb_s, if_neg n1]
            unfold x0_readSetup_j49
            rw [if_neg n1]
            rfl
          · rw [l1]
            refine Or.inr ⟨c', e, rfl, l2, l3, h', cnt', fun d => l4 ?_, ?_⟩
            · exact ((((((d.f (Or.inl rfl)).a (by decide)).f (Or.inr (by decide))).a (by decide)).f (Or.inr (by decide))).a (by decide)).f (Or.inr (by decide))
            · rw [show x0_readHikers p q _ = _ from l5, cb_s, if_pos n0, eF]
        · rw [k5, cb_s, if_pos n0, k1, eF]
          exact Or.inr ⟨c', e, rfl, k2, k3, h', cnt', fun d => k4 (((((d.f (Or.inl rfl)).a (by decide)).f (Or.inr (by decide))).a (by decide)).f (Or.inr (by decide))), rfl⟩
      · rw [g5, cb_s, if_pos n0, g1, eF]
        exact Or.inr ⟨c', e, rfl, g2, g3, h', cnt', fun d => g4 (((d.f (Or.inl rfl)).a (by decide)).f (Or.inr (by decide))), rfl⟩
    · rw [f5, cb_s, if_pos n0, f1, eF]
      exact Or.inr ⟨c', e, rfl, f2, f3, h', cnt', fun d => f4 (d.f (Or.inl rfl)), rfl⟩
  · rw [e5, cb_s, if_pos n0, e1, eF]
    exact Or.inr ⟨c', e, rfl, e2, e3, h', cnt', e4, rfl⟩
end CSet2


