/-! the class reads a setup: logs and rows -/
abbrev Er : Type := Nat × Nat
def spLogs (T : Nat → Int32) (L s : Nat) : (Nat × Nat) ⊕ Er := if wdB T L 1 s = true then (if nuE T L 0 99 (nx T L s) = 0 then (if tk T L (nx T L (nx T L s)) = 3 then .inl (nv T L (nx T L s), nx T L (nx T L (nx T L s))) else .inr (1, nx T L (nx T L s))) else .inr (nuE T L 0 99 (nx T L s), nx T L s)) else .inr (1, s)
def rowS (T : Nat → Int32) (L lo hi least : Nat) : Nat → List Nat → Nat → (List Nat × Nat) ⊕ Er
  | 0, _, _ => .inr (1, 0)
  | n + 1, vs, s => if vs.length < least ∨ ¬ tk T L s = 3 then (if nuE T L lo hi s = 0 then (if 12 ≤ vs.length then .inr (3, s) else rowS T L lo hi least n (vs ++ [nv T L s]) (nx T L s)) else .inr (nuE T L lo hi s, s)) else .inl (vs, nx T L s)
def spRow (T : Nat → Int32) (L k lo hi least s : Nat) : (List Nat × Nat) ⊕ Er := if wdB T L k s = true then rowS T L lo hi least 13 [] (nx T L s) else .inr (1, s)
theorem rowS_least {T : Nat → Int32} {L lo hi : Nat} : ∀ n vs s, 1 ≤ vs.length → rowS T L lo hi 1 n vs s = rowS T L lo hi 0 n vs s := by
  intro n
  induction n with
  | zero => intro vs s _; rfl
  | succ n ih =>
    intro vs s hv
    rw [rowS, rowS, ih _ _ (by rw [List.length_append]; omega)]
    have e : (vs.length < 1 ∨ ¬ tk T L s = 3) = (vs.length < 0 ∨ ¬ tk T L s = 3) := propext ⟨fun h => h.elim (fun h => by omega) Or.inr, fun h => h.elim (fun h => by omega) Or.inr⟩
    simp only [e]
theorem rowS_one {T : Nat → Int32} {L lo hi s n : Nat} (h : nuE T L lo hi s = 0) : rowS T L lo hi 1 (n + 1) [] s = rowS T L lo hi 0 (n + 1) [] s := by
  have h3 : ¬ tk T L s = 3 := fun hc => by have := (nuE_num h).1; omega
  rw [rowS, rowS, if_pos (Or.inr h3), if_pos (Or.inr h3), rowS_least _ _ _ (by simp)]
theorem nuE_cases (T : Nat → Int32) (L lo hi s : Nat) : nuE T L lo hi s = 0 ∨ nuE T L lo hi s = 1 ∨ nuE T L lo hi s = 2 := by
  unfold nuE
  repeat' split
  all_goals omega
def setV (f : Nat → Int32) (vs : List Nat) : Nat → Int32 := fun j => if j < vs.length then I (vs.getD j 0) else f j
theorem setV_nil (f : Nat → Int32) : setV f [] = f := funext fun j => if_neg (by simp)
theorem setV_app (f : Nat → Int32) (vs : List Nat) (v : Nat) : upd (setV f vs) vs.length (I v) = setV f (vs ++ [v]) := by
  funext j
  show (if j = vs.length then I v else if j < vs.length then I (vs.getD j 0) else f j) = if j < (vs ++ [v]).length then I ((vs ++ [v]).getD j 0) else f j
  rw [List.length_append, List.length_singleton]
  by_cases h : j = vs.length
  · rw [if_pos h, if_pos (by omega), h]
    simp
  · rw [if_neg h]
    by_cases h2 : j < vs.length
    · rw [if_pos h2, if_pos (by omega)]
      congr 1
      simp [List.getElem?_append_left h2]
    · rw [if_neg h2, if_neg (by omega)]
/-- a hut in which no action was -/
def Dr (h : HS) : Prop := (h.1 0 = 0 ∧ h.1 2 = 0 ∧ h.1 3 = 0 ∧ h.1 4 = 0 ∧ h.1 5 = 0 ∧ h.1 6 = 0) ∧ (∀ i, i < 10 → h.2.2.1 i 3 = 0 ∧ h.2.2.1 i 4 = -1 ∧ h.2.2.1 i 5 = -1) ∧ (∀ i, i < 10 → ∀ k, k < 4 → h.2.2.2 i k = 0) ∧ ∀ j, j < 16 → h.2.1 4 j = -1
theorem Dr.f {h : HS} (d : Dr h) {k : Nat} {v : Int32} (hk0 : k = 1 ∨ 7 ≤ k) : Dr (hF h k v) := by
  obtain ⟨⟨d0, d2, d3, d4, d5, d6⟩, r⟩ := d
  have e : ∀ j, j ≠ k → (hF h k v).1 j = h.1 j := fun j hj => upd_ne hj
  exact ⟨⟨(e 0 (by omega)).trans d0, (e 2 (by omega)).trans d2, (e 3 (by omega)).trans d3, (e 4 (by omega)).trans d4, (e 5 (by omega)).trans d5, (e 6 (by omega)).trans d6⟩, r⟩
theorem Dr.a {h : HS} (d : Dr h) {k : Nat} {z : Nat → Int32} (hk0 : k ≠ 4) : Dr (hAr h k z) := by
  obtain ⟨d1, d2, d3, d4⟩ := d
  refine ⟨d1, d2, d3, fun j hj => ?_⟩
  show (if 4 = k then z else h.2.1 4) j = -1
  rw [if_neg (Ne.symm hk0)]
  exact d4 j hj
theorem Dr.k {h : HS} (d : Dr h) {i f : Nat} {v : Int32} (hf0 : f < 3 ∨ 6 ≤ f) : Dr (hK h i f v) := by
  obtain ⟨d1, d2, d3, d4⟩ := d
  refine ⟨d1, fun j hj => ?_, d3, d4⟩
  rw [hK_ne (Or.inr (by omega)), hK_ne (Or.inr (by omega)), hK_ne (Or.inr (by omega))]
  exact d2 j hj
/-- the parser and the hut that it reads into -/
abbrev GG2 (g : AH) (p : Nat) (s : PS) (q : Nat) (h : HS) : AH := putP (putH g q h) p s
section CSet
variable {g : AH} {p q L s : Nat} {T : Nat → Int32} {h : HS} {sp : PS} (hd : p + 3 ≤ q ∨ q + 27 ≤ p)
theorem GG_sw (hd : p + 3 ≤ q ∨ q + 27 ≤ p) : GG2 g p sp q h = putH (putP g p sp) q h := put_comm (by omega)
theorem GG_getR (hd : p + 3 ≤ q ∨ q + 27 ≤ p) {k d : Nat} (hk0 : k = 12 + d) (h0 : 0 < d) (h1 : d < 7) : getR 3 (GG2 g p sp q h) q k = some (q + d) := by rw [GG_sw hd]; exact H_getR hk0 h0 h1
theorem GG_isO (hd : p + 3 ≤ q ∨ q + 27 ≤ p) : isO 3 (GG2 g p sp q h) q = some () := by rw [GG_sw hd]; exact H_isO
theorem GG_putI (hd : p + 3 ≤ q ∨ q + 27 ≤ p) {k : Nat} {v : Int32} (h1 : k < 13) : putV 3 (GG2 g p sp q h) q k (.int v) = some (GG2 g p sp q (hF h k v)) := by rw [GG_sw hd, H_putI h1, GG_sw hd]
theorem GG_alen (hd : p + 3 ≤ q ∨ q + 27 ≤ p) {d : Nat} (h0 : 0 < d) (h1 : d < 6) : alen 0 (GG2 g p sp q h) (q + d) = some (I (hLen d)) := by rw [GG_sw hd]; exact H_alen h0 h1
theorem GG_ast (hd : p + 3 ≤ q ∨ q + 27 ≤ p) {d k : Nat} {x v : Int32} (h0 : 0 < d) (h1 : d < 6) (hx : x = I k) (hk0 : k < hLen d) : astI 0 (GG2 g p sp q h) (q + d) x v = some (GG2 g p sp q (hAr h d (upd (h.2.1 d) k v))) := by rw [GG_sw hd, H_ast h0 h1 hx hk0, GG_sw hd]
theorem GG_hik (hd : p + 3 ≤ q ∨ q + 27 ≤ p) {i : Nat} (hi : i < 10) : aldR 4 (GG2 g p sp q h) (q + 6) (I i) = some (q + (7 + 2 * i)) := by rw [GG_sw hd]; exact H_hik hi
theorem GG_putK (hd : p + 3 ≤ q ∨ q + 27 ≤ p) {i k : Nat} {v : Int32} (hi : i < 10) (h1 : k < 8) : putV 1 (GG2 g p sp q h) (q + (7 + 2 * i)) k (.int v) = some (GG2 g p sp q (hK h i k v)) := by rw [GG_sw hd, K_putI hi h1, GG_sw hd]
theorem c_readLogs (hd : p + 3 ≤ q ∨ q + 27 ≤ p) {cnt : Int32} (hL : L ≤ 500) (hs : s ≤ L) : (∃ v s', spLogs T L s = .inl (v, s') ∧ s' ≤ L ∧ x0_readLogs p q (GG2 g p (pK cnt T L s) q h) = some (1, GG2 g p (pK cnt T L s') q (hF h 1 (I v)))) ∨ (∃ c e, spLogs T L s = .inr (c, e) ∧ e ≤ L ∧ (c = 1 ∨ c = 2 ∨ c = 3) ∧ ∃ h' cnt', (Dr h → Dr h') ∧ x0_readLogs p q (GG2 g p (pK cnt T L s) q h) = some (0, GG2 g p (pE (I c) cnt' T L e) q h')) := by
  have s1 := nx_le (T := T) hs
  have s2 := nx_le (T := T) s1
  have s3 := nx_le (T := T) s2
  have n1 : ¬ (1 : Int32) = 0 := by decide
  have eW := c_readWord (g := putH g q h) (p := p) (T := T) (cnt := cnt) hL hs (k := 1) (by decide)
  have eN := c_isNumber (g := putH g q h) (p := p) (T := T) (L := L) (s := nx T L s) (cnt := cnt) (lo := 0) (hi := 99) (x := 0) (y := 99) rfl rfl hL (by decide) (by decide)
  unfold x0_readLogs
  rw [P_isO0, gb_s, eW]
  by_cases h1 : wdB T L 1 s = true
  · rw [if_pos h1, cb_s, if_neg n1, P_isO0, gb_s, eN]
    by_cases h2 : nuE T L 0 99 (nx T L s) = 0
    · have eM := c_semi (g := putH g q (hF h 1 (I (nv T L (nx T L s))))) (p := p) (T := T) (cnt := cnt) hL s2
      rw [if_pos h2, cb_s, if_neg n1, P_getR0, gb_s, P_isO7, gb_s, c_valueOk hL (by decide) h2, cb_s, GG_putI hd (by decide), gb_s, P_getR0, gb_s, P_isO7, gb_s, c_next hL s1, cb_s, P_isO0, gb_s, eM]
      by_cases h3 : tk T L (nx T L (nx T L s)) = 3
      · have eS : spLogs T L s = .inl (nv T L (nx T L s), nx T L (nx T L (nx T L s))) := by unfold spLogs; rw [if_pos h1, if_pos h2, if_pos h3]
        rw [if_pos h3, cb_s, if_pos (Or.inr rfl)]
        exact Or.inl ⟨_, _, eS, s3, rfl⟩
      · have eS : spLogs T L s = .inr (1, nx T L (nx T L s)) := by unfold spLogs; rw [if_pos h1, if_pos h2, if_neg h3]
        rw [if_neg h3, cb_s, if_pos (Or.inl rfl)]
        exact Or.inr ⟨1, _, eS, s2, Or.inl rfl, _, _, fun d => d.f (Or.inl rfl), rfl⟩
    · have eS : spLogs T L s = .inr (nuE T L 0 99 (nx T L s), nx T L s) := by unfold spLogs; rw [if_pos h1, if_neg h2]
      rw [if_neg h2, cb_s, if_pos (rfl : (0 : Int32) = 0)]
      have := nuE_cases T L 0 99 (nx T L s)
      exact Or.inr ⟨_, _, eS, s1, by omega, _, _, fun d => d, rfl⟩
  · have eS : spLogs T L s = .inr (1, s) := by unfold spLogs; rw [if_neg h1]
    rw [if_neg h1, cb_s, if_pos (rfl : (0 : Int32) = 0)]
    exact Or.inr ⟨1, _, eS, hs, Or.inl rfl, _, _, fun d => d, rfl⟩
theorem c_rowLoop (hd : p + 3 ≤ q ∨ q + 27 ≤ p) {d lo hi : Nat} {x y : Int32} (h0 : 0 < d) (h4 : d < 4) (hx : x = I lo) (hy : y = I hi) (hh : hi ≤ 99) (hlo : lo ≤ 99) (hL : L ≤ 500) (f : Nat → Int32) : ∀ n F vs s h, n < F → vs.length + n = 13 → vs.length ≤ 12 → s ≤ L → h.2.1 d = setV f vs →
    (∃ vs' s', rowS T L lo hi 0 n vs s = .inl (vs', s') ∧ s' ≤ L ∧ vs'.length ≤ 12 ∧ (cb (loopX (x0_readRow_l8 p (q + d) x y) F (I vs.length) (GG2 g p (pK (I vs.length) T L s) q h)) fun t3 g4 => Sum.elim (fun _ => x0_readRow_j82 p g4) (fun t7 => some (t7, g4)) t3) = some (1, GG2 g p (pK (I vs'.length) T L s') q (hAr h d (setV f vs')))) ∨ (∃ c e, rowS T L lo hi 0 n vs s = .inr (c, e) ∧ e ≤ L ∧ (c = 1 ∨ c = 2 ∨ c = 3) ∧ ∃ z cnt', (cb (loopX (x0_readRow_l8 p (q + d) x y) F (I vs.length) (GG2 g p (pK (I vs.length) T L s) q h)) fun t3 g4 => Sum.elim (fun _ => x0_readRow_j82 p g4) (fun t7 => some (t7, g4)) t3) = some (0, GG2 g p (pE (I c) cnt' T L e) q (hAr h d z))) := by
  have hl12 : hLen d = 12 := if_pos h4
  intro n
  induction n with
  | zero => intro F vs s h hF hv hv2; omega
  | succ n ih =>
    intro F vs s h hF hv hv2 hs hz
    have ht5 := tk_le T L s
    have s1 := nx_le (T := T) hs
    match F, hF with
    | F + 1, hF =>
      have n1 : ¬ (1 : Int32) = 0 := by decide
      have eN := c_isNumber (g := putH g q h) (p := p) (T := T) (L := L) (s := s) (cnt := I vs.length) hx hy hL hh hlo
      rw [loopX]
      unfold x0_readRow_l8
      rw [GG_alen hd h0 (by omega), gb_s, hl12, if_neg (show ¬ I 12 < I vs.length by rw [I_lt (by decide) (by omega)]; omega), P_getR0, gb_s, P_tI (by decide), gb_s]
      by_cases h2 : tk T L s = 2
      · have e2 : (pK (I vs.length) T L s).2.1 2 = 2 := by show I (tk T L s) = 2; rw [h2]; rfl
        have h23 : ¬ tk T L s = 3 := by omega
        rw [if_pos e2, P_isO0, gb_s, eN]
        by_cases h3 : nuE T L lo hi s = 0
        · rw [if_pos h3, cb_s, if_neg n1, GG_alen hd h0 (by omega), gb_s, hl12]
          by_cases h5 : vs.length < 12
          · have eS : rowS T L lo hi 0 (n + 1) vs s = rowS T L lo hi 0 n (vs ++ [nv T L s]) (nx T L s) := by rw [rowS, if_pos (Or.inr h23), if_pos h3, if_neg (by omega)]
            rw [eS, if_pos (show I vs.length < I 12 by rw [I_lt (by omega) (by decide)]; exact h5), P_getR0, gb_s, P_isO7, gb_s, c_valueOk hL hh h3, cb_s, GG_ast hd h0 (by omega) rfl (by rw [hl12]; exact h5), gb_s, P_putG (by decide), gb_s, P_getR0, gb_s, P_isO7, gb_s, I_succ]
            have eP : pG (pK (I vs.length) T L s) 3 (I (vs.length + 1)) = pK (I (vs.length + 1)) T L s := by
              show (upd (giC 0 (-1) (I vs.length)) 3 (I (vs.length + 1)), (pK (I (vs.length + 1)) T L s).2) = _
              rw [gi3]
            have eH : hAr h d (upd (h.2.1 d) vs.length (I (nv T L s))) = hAr h d (setV f (vs ++ [nv T L s])) := by rw [hz, setV_app]
            rw [eP, eH, c_next hL hs, cb_s]
            have r := ih F (vs ++ [nv T L s]) (nx T L s) (hAr h d (setV f (vs ++ [nv T L s]))) (by omega) (by rw [List.length_append, List.length_singleton]; omega) (by rw [List.length_append, List.length_singleton]; omega) s1 hAr_at
            rw [List.length_append, List.length_singleton] at r
            simp only [hAr_two] at r
            exact r
          · have e3 : vs.length = 12 := by omega
            have eS : rowS T L lo hi 0 (n + 1) vs s = .inr (3, s) := by rw [rowS, if_pos (Or.inr h23), if_pos h3, if_pos (by omega)]
            rw [eS, if_neg (show ¬ I vs.length < I 12 by rw [I_lt (by omega) (by decide)]; exact h5), P_isO0, gb_s, c_fail, cb_s, if_pos (show bz (0 : Int32) from Or.inl rfl)]
            refine Or.inr ⟨3, s, rfl, hs, Or.inr (Or.inr rfl), h.2.1 d, I vs.length, ?_⟩
            rw [hAr_self]
            rfl
        · have eS : rowS T L lo hi 0 (n + 1) vs s = .inr (nuE T L lo hi s, s) := by rw [rowS, if_pos (Or.inr h23), if_neg h3]
          rw [eS, if_neg h3, cb_s, if_pos (rfl : (0 : Int32) = 0)]
          have := nuE_cases T L lo hi s
          refine Or.inr ⟨_, s, rfl, hs, by omega, h.2.1 d, I vs.length, ?_⟩
          rw [hAr_self]
          rfl
      · have e2 : ¬ (pK (I vs.length) T L s).2.1 2 = 2 := show ¬ I (tk T L s) = 2 from fun hc => h2 ((I_eq (b := 2) (by omega) (by decide)).mp hc)
        rw [if_neg e2]
        have ej : x0_readRow_j82 p (GG2 g p (pK (I vs.length) T L s) q h) = if tk T L s = 3 then some (1, GG2 g p (pK (I vs.length) T L (nx T L s)) q h) else some (0, GG2 g p (pE 1 (I vs.length) T L s) q h) := by
          unfold x0_readRow_j82
          rw [P_isO0, gb_s, c_semi hL hs]
          by_cases h3 : tk T L s = 3
          · simp only [if_pos h3]; rw [cb_s, if_pos (show bz (1 : Int32) from Or.inr rfl)]
          · simp only [if_neg h3]; rw [cb_s, if_pos (show bz (0 : Int32) from Or.inl rfl)]
        have en : nuE T L lo hi s = 1 := if_neg h2
        by_cases h3 : tk T L s = 3
        · have eS : rowS T L lo hi 0 (n + 1) vs s = .inl (vs, nx T L s) := by rw [rowS, if_neg (fun hc => hc.elim (by omega) (fun hc => hc h3))]
          rw [if_pos h3] at ej
          refine Or.inl ⟨vs, _, eS, s1, hv2, ?_⟩
          rw [← hz, hAr_self]
          exact ej
        · have eS : rowS T L lo hi 0 (n + 1) vs s = .inr (1, s) := by rw [rowS, if_pos (Or.inr h3), en, if_neg (by decide)]
          rw [if_neg h3] at ej
          refine Or.inr ⟨1, s, eS, hs, Or.inl rfl, h.2.1 d, I vs.length, ?_⟩
          rw [hAr_self]
          exact ej
theorem c_readRow (hd : p + 3 ≤ q ∨ q + 27 ≤ p) {d lo hi : Nat} {x y cnt : Int32} (h0 : 0 < d) (h4 : d < 4) (hx : x = I lo) (hy : y = I hi) (hh : hi ≤ 99) (hlo : lo ≤ 99) (hL : L ≤ 500) (hs : s ≤ L) :
    (∃ vs' s', rowS T L lo hi 0 13 [] s = .inl (vs', s') ∧ s' ≤ L ∧ vs'.length ≤ 12 ∧ x0_readRow p (q + d) x y (GG2 g p (pK cnt T L s) q h) = some (1, GG2 g p (pK (I vs'.length) T L s') q (hAr h d (setV (h.2.1 d) vs')))) ∨ (∃ c e, rowS T L lo hi 0 13 [] s = .inr (c, e) ∧ e ≤ L ∧ (c = 1 ∨ c = 2 ∨ c = 3) ∧ ∃ z cnt', x0_readRow p (q + d) x y (GG2 g p (pK cnt T L s) q h) = some (0, GG2 g p (pE (I c) cnt' T L e) q (hAr h d z))) := by
  have r := c_rowLoop (g := g) (p := p) (q := q) (T := T) hd h0 h4 hx hy hh hlo hL (h.2.1 d) 13 1000 [] s h (by decide) rfl (by decide) hs (setV_nil _).symm
  have e : x0_readRow p (q + d) x y (GG2 g p (pK cnt T L s) q h) = (cb (loopX (x0_readRow_l8 p (q + d) x y) 1000 (I ([] : List Nat).length) (GG2 g p (pK (I ([] : List Nat).length) T L s) q h)) fun t3 g4 => Sum.elim (fun _ => x0_readRow_j82 p g4) (fun t7 => some (t7, g4)) t3) := by
    unfold x0_readRow
    rw [P_putG (by decide), gb_s]
    show cb (loopX _ 1000 0 (GG2 g p (upd (giC 0 (-1) cnt) 3 0, (pK cnt T L s).2) q h)) _ = _
    rw [gi3]
    rfl
  rw [e]
  exact r
theorem c_readBunks (hd : p + 3 ≤ q ∨ q + 27 ≤ p) {cnt : Int32} (hL : L ≤ 500) (hs : s ≤ L) : (∃ vs s' cnt', spRow T L 2 0 5 1 s = .inl (vs, s') ∧ s' ≤ L ∧ vs.length ≤ 12 ∧ x0_readBunks p q (GG2 g p (pK cnt T L s) q h) = some (1, GG2 g p (pK cnt' T L s') q (hF (hAr h 1 (setV (h.2.1 1) vs)) 9 (I vs.length)))) ∨ (∃ c e, spRow T L 2 0 5 1 s = .inr (c, e) ∧ e ≤ L ∧ (c = 1 ∨ c = 2 ∨ c = 3) ∧ ∃ h' cnt', (Dr h → Dr h') ∧ x0_readBunks p q (GG2 g p (pK cnt T L s) q h) = some (0, GG2 g p (pE (I c) cnt' T L e) q h')) := by
  have s1 := nx_le (T := T) hs
  have n1 : ¬ (1 : Int32) = 0 := by decide
  have n0 : (0 : Int32) = 0 := rfl
  have ej : ∀ (x : Int32) (sp : PS) (h : HS), bz x → x0_readBunks_j36 p q x (GG2 g p sp q h) = some (x, GG2 g p sp q (hF h 9 (sp.1 3))) := by
    intro x sp h hb
    unfold x0_readBunks_j36
    rw [P_gI (by decide), gb_s, GG_putI hd (by decide), gb_s, if_pos hb]
  have eW := c_readWord (g := putH g q h) (p := p) (T := T) (cnt := cnt) hL hs (k := 2) (by decide)
  have rr := c_readRow (g := g) (p := p) (q := q) (T := T) (h := h) (cnt := cnt) (x := 0) (y := 5) (lo := 0) (hi := 5) (d := 1) hd (by decide) (by decide) rfl rfl (by decide) (by decide) hL s1
  unfold x0_readBunks x0_readBunks_j35
  rw [P_isO0, gb_s, eW]
  by_cases h1 : wdB T L 2 s = true
  · have eS0 : spRow T L 2 0 5 1 s = rowS T L 0 5 1 13 [] (nx T L s) := if_pos h1
    rw [if_pos h1, cb_s, if_neg n1, eS0]
    have eN := c_isNumber (g := putH g q h) (p := p) (T := T) (L := L) (s := nx T L s) (cnt := cnt) (lo := 0) (hi := 5) (x := 0) (y := 5) rfl rfl hL (by decide) (by decide)
    rw [P_isO0, gb_s, eN]
    by_cases h2 : nuE T L 0 5 (nx T L s) = 0
    · rw [if_pos h2, cb_s, if_neg n1, GG_getR (d := 1) hd rfl (by decide) (by decide), gb_s, P_isO0, gb_s, rowS_one h2]
      rcases rr with ⟨vs, s', e1, e2, e3, e4⟩ | ⟨c, e, e1, e2, e3, z, cnt', e4⟩
      · rw [e4, cb_s, if_neg n1, ej _ _ _ (Or.inr rfl)]
        exact Or.inl ⟨vs, s', _, e1, e2, e3, rfl⟩
      · rw [e4, cb_s, if_pos n0, ej _ _ _ (Or.inl rfl)]
        exact Or.inr ⟨c, e, e1, e2, e3, _, _, fun d => (d.a (by decide)).f (Or.inr (by decide)), rfl⟩
    · have hn := nuE_cases T L 0 5 (nx T L s)
      have er : rowS T L 0 5 1 13 [] (nx T L s) = .inr (nuE T L 0 5 (nx T L s), nx T L s) := by
        rw [rowS, if_pos (Or.inl (by decide)), if_neg h2]
      rw [if_neg h2, cb_s, if_pos n0, ej _ _ _ (Or.inl rfl), er]
      exact Or.inr ⟨_, _, rfl, s1, by omega, _, _, fun d => d.f (Or.inr (by decide)), rfl⟩
  · have eS0 : spRow T L 2 0 5 1 s = .inr (1, s) := if_neg h1
    rw [if_neg h1, cb_s, if_pos n0, ej _ _ _ (Or.inl rfl), eS0]
    exact Or.inr ⟨1, _, rfl, hs, Or.inl rfl, _, _, fun d => d.f (Or.inr (by decide)), rfl⟩
theorem c_readBlankets (hd : p + 3 ≤ q ∨ q + 27 ≤ p) {cnt : Int32} (hL : L ≤ 500) (hs : s ≤ L) : (∃ vs s' cnt', spRow T L 3 1 9 0 s = .inl (vs, s') ∧ s' ≤ L ∧ vs.length ≤ 12 ∧ x0_readBlankets p q (GG2 g p (pK cnt T L s) q h) = some (1, GG2 g p (pK cnt' T L s') q (hF (hAr h 2 (setV (h.2.1 2) vs)) 10 (I vs.length)))) ∨ (∃ c e, spRow T L 3 1 9 0 s = .inr (c, e) ∧ e ≤ L ∧ (c = 1 ∨ c = 2 ∨ c = 3) ∧ ∃ h' cnt', (Dr h → Dr h') ∧ x0_readBlankets p q (GG2 g p (pK cnt T L s) q h) = some (0, GG2 g p (pE (I c) cnt' T L e) q h')) := by
  have s1 := nx_le (T := T) hs
  have n1 : ¬ (1 : Int32) = 0 := by decide
  have n0 : (0 : Int32) = 0 := rfl
  have ej : ∀ (x : Int32) (sp : PS) (h : HS), bz x → x0_readBlankets_j28 p q x (GG2 g p sp q h) = some (x, GG2 g p sp q (hF h 10 (sp.1 3))) := by
    intro x sp h hb
    unfold x0_readBlankets_j28
    rw [P_gI (by decide), gb_s, GG_putI hd (by decide), gb_s, if_pos hb]
  have eW := c_readWord (g := putH g q h) (p := p) (T := T) (cnt := cnt) hL hs (k := 3) (by decide)
  have rr := c_readRow (g := g) (p := p) (q := q) (T := T) (h := h) (cnt := cnt) (x := 1) (y := 9) (lo := 1) (hi := 9) (d := 2) hd (by decide) (by decide) rfl rfl (by decide) (by decide) hL s1
  unfold x0_readBlankets x0_readBlankets_j27
  rw [P_isO0, gb_s, eW]
  by_cases h1 : wdB T L 3 s = true
  · have eS0 : spRow T L 3 1 9 0 s = rowS T L 1 9 0 13 [] (nx T L s) := if_pos h1
    rw [if_pos h1, cb_s, if_neg n1, eS0]
    rw [GG_getR (d := 2) hd rfl (by decide) (by decide), gb_s, P_isO0, gb_s]
    rcases rr with ⟨vs, s', e1, e2, e3, e4⟩ | ⟨c, e, e1, e2, e3, z, cnt', e4⟩
    · rw [e4, cb_s, if_neg n1, ej _ _ _ (Or.inr rfl)]
      exact Or.inl ⟨vs, s', _, e1, e2, e3, rfl⟩
    · rw [e4, cb_s, if_pos n0, ej _ _ _ (Or.inl rfl)]
      exact Or.inr ⟨c, e, e1, e2, e3, _, _, fun d => (d.a (by decide)).f (Or.inr (by decide)), rfl⟩
  · have eS0 : spRow T L 3 1 9 0 s = .inr (1, s) := if_neg h1
    rw [if_neg h1, cb_s, if_pos n0, ej _ _ _ (Or.inl rfl), eS0]
    exact Or.inr ⟨1, _, rfl, hs, Or.inl rfl, _, _, fun d => d.f (Or.inr (by decide)), rfl⟩
theorem c_readForecast (hd : p + 3 ≤ q ∨ q + 27 ≤ p) {cnt : Int32} (hL : L ≤ 500) (hs : s ≤ L) : (∃ vs s' cnt', spRow T L 4 0 20 1 s = .inl (vs, s') ∧ s' ≤ L ∧ vs.length ≤ 12 ∧ x0_readForecast p q (GG2 g p (pK cnt T L s) q h) = some (1, GG2 g p (pK cnt' T L s') q (hF (hAr h 3 (setV (h.2.1 3) vs)) 11 (I vs.length)))) ∨ (∃ c e, spRow T L 4 0 20 1 s = .inr (c, e) ∧ e ≤ L ∧ (c = 1 ∨ c = 2 ∨ c = 3) ∧ ∃ h' cnt', (Dr h → Dr h') ∧ x0_readForecast p q (GG2 g p (pK cnt T L s) q h) = some (0, GG2 g p (pE (I c) cnt' T L e) q h')) := by
  have s1 := nx_le (T := T) hs
  have n1 : ¬ (1 : Int32) = 0 := by decide
  have n0 : (0 : Int32) = 0 := rfl
  have ej : ∀ (x : Int32) (sp : PS) (h : HS), bz x → x0_readForecast_j38 p q x (GG2 g p sp q h) = some (x, GG2 g p sp q (hF h 11 (sp.1 3))) := by
    intro x sp h hb
    unfold x0_readForecast_j38
    rw [P_gI (by decide), gb_s, GG_putI hd (by decide), gb_s, if_pos hb]
  have eW := c_readWord (g := putH g q h) (p := p) (T := T) (cnt := cnt) hL hs (k := 4) (by decide)
  have rr := c_readRow (g := g) (p := p) (q := q) (T := T) (h := h) (cnt := cnt) (x := 0) (y := 20) (lo := 0) (hi := 20) (d := 3) hd (by decide) (by decide) rfl rfl (by decide) (by decide) hL s1
  unfold x0_readForecast x0_readForecast_j37
  rw [P_isO0, gb_s, eW]
  by_cases h1 : wdB T L 4 s = true
  · have eS0 : spRow T L 4 0 20 1 s = rowS T L 0 20 1 13 [] (nx T L s) := if_pos h1
    rw [if_pos h1, cb_s, if_neg n1, eS0]
    have eN := c_isNumber (g := putH g q h) (p := p) (T := T) (L := L) (s := nx T L s) (cnt := cnt) (lo := 0) (hi := 20) (x := 0) (y := 20) rfl rfl hL (by decide) (by decide)
    rw [P_isO0, gb_s, eN]
    by_cases h2 : nuE T L 0 20 (nx T L s) = 0
    · rw [if_pos h2, cb_s, if_neg n1, GG_getR (d := 3) hd rfl (by decide) (by decide), gb_s, P_isO0, gb_s, rowS_one h2]
      rcases rr with ⟨vs, s', e1, e2, e3, e4⟩ | ⟨c, e, e1, e2, e3, z, cnt', e4⟩
      · rw [e4, cb_s, if_neg n1, ej _ _ _ (Or.inr rfl)]
        exact Or.inl ⟨vs, s', _, e1, e2, e3, rfl⟩
      · rw [e4, cb_s, if_pos n0, ej _ _ _ (Or.inl rfl)]
        exact Or.inr ⟨c, e, e1, e2, e3, _, _, fun d => (d.a (by decide)).f (Or.inr (by decide)), rfl⟩
    · have hn := nuE_cases T L 0 20 (nx T L s)
      have er : rowS T L 0 20 1 13 [] (nx T L s) = .inr (nuE T L 0 20 (nx T L s), nx T L s) := by
        rw [rowS, if_pos (Or.inl (by decide)), if_neg h2]
      rw [if_neg h2, cb_s, if_pos n0, ej _ _ _ (Or.inl rfl), er]
      exact Or.inr ⟨_, _, rfl, s1, by omega, _, _, fun d => d.f (Or.inr (by decide)), rfl⟩
  · have eS0 : spRow T L 4 0 20 1 s = .inr (1, s) := if_neg h1
    rw [if_neg h1, cb_s, if_pos n0, ej _ _ _ (Or.inl rfl), eS0]
    exact Or.inr ⟨1, _, rfl, hs, Or.inl rfl, _, _, fun d => d.f (Or.inr (by decide)), rfl⟩
end CSet


