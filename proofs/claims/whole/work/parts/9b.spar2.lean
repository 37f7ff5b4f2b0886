/-! the reference's parser: words, numbers, rows -/
/-- what a parser's step of the reference may change -/
def Pq (r0 r : RS) : Prop := (∀ k, k < 9 ∨ 15 < k → r.1 k = r0.1 k) ∧ ∀ d, d ≠ 1 → r.2 d = r0.2 d
theorem Pq.refl {r : RS} : Pq r r := ⟨fun _ _ => rfl, fun _ _ => rfl⟩
theorem Pq.trans {r r1 r2 : RS} (h : Pq r r1) (h1 : Pq r1 r2) : Pq r r2 := ⟨fun k hk0 => (h1.1 k hk0).trans (h.1 k hk0), fun d hd => (h1.2 d hd).trans (h.2 d hd)⟩
theorem Pq.f {r0 r : RS} (p : Pq r0 r) {k : Nat} {v : Int32} (h1 : 9 ≤ k) (h2 : k ≤ 15) : Pq r0 (RS_setF r k v) := ⟨fun j hj => (upd_ne (by omega)).trans (p.1 j hj), p.2⟩
theorem Pq.a {r0 r : RS} (p : Pq r0 r) {z : Nat → Int32} : Pq r0 (RS_setA r 1 z) := ⟨p.1, fun d hd => (RS_ne hd).trans (p.2 d hd)⟩
theorem Pq.pf {r0 r r1 : RS} (p : Pq r0 r) (h : Pf r r1) : Pq r0 r1 := ⟨fun k hk0 => (h.1 k (by omega)).trans (p.1 k hk0), fun d hd => by rw [h.2]; exact p.2 d hd⟩
/-- no error so far; s is where it looks and z its hut -/
def Po (r0 r : RS) (T : Nat → Int32) (L s : Nat) (z : St) : Prop := RxT r T L s ∧ r.1 14 = 0 ∧ r.1 15 = -1 ∧ s ≤ L ∧ r.2 1 = z ∧ Pq r0 r
/-- an error at e -/
def Px (r0 r : RS) (T : Nat → Int32) (L c e : Nat) (z : St) : Prop := RxT r T L e ∧ r.1 14 = I c ∧ r.1 15 = I e ∧ e ≤ L ∧ (c = 1 ∨ c = 2 ∨ c = 3) ∧ r.2 1 = z ∧ Pq r0 r
theorem RxT.of {r r1 : RS} {T : Nat → Int32} {L s : Nat} (h : RxT r T L s) (e : ∀ k, 9 ≤ k → k ≤ 13 → r1.1 k = r.1 k) : RxT r1 T L s := by
  obtain ⟨a, b, c, d, f⟩ := h
  exact ⟨(e 9 (by decide) (by decide)).trans a, (e 10 (by decide) (by decide)).trans b, (e 11 (by decide) (by decide)).trans c, (e 12 (by decide) (by decide)).trans d, fun x => (e 13 (by decide) (by decide)).trans (f x)⟩
theorem trT_e {a k : Nat} (ha : a ≤ 5) (hk0 : k < 4) : I (trT a) = I k ↔ a = k := by
  unfold trT
  rw [I_eq (by split <;> omega) (by omega)]
  split <;> omega
theorem nv_le (T : Nat → Int32) {L s : Nat} (h : tk T L s = 2) : nv T L s ≤ 100000 := by
  obtain ⟨hl, hk2⟩ := tk_lt h (by decide)
  obtain ⟨d, d1, d2, -⟩ := dg_ok hk2
  exact nvR_le T s (by omega) _
section SPar2
variable {g : AH} {m L s e c : Nat} {T : Nat → Int32} {r0 r : RS} {z : St}
theorem Tx.pq (h : Tx r0 T L) (p : Pq r0 r) : Tx r T L := fun i hi => by rw [p.2 7 (by decide)]; exact h i hi
theorem Px.no (h : Px r0 r T L c e z) : ¬ r.1 14 = 0 := by
  rw [h.2.1]
  intro hc
  have := (I_eq (b := 0) (by have := h.2.2.2.2.1; omega) (by decide)).mp hc
  have := h.2.2.2.2.1
  omega
theorem s_req1 {b : Int32} {x : Int32} (hb : ¬ b = 0) : x9_require m b x (putR g m r) = some ((), putR g m r) := by
  unfold x9_require
  rw [R_isO, gb_s, s_isFine, cb_s]
  by_cases h : r.1 14 = 0
  · rw [if_neg (by simp [h, bI]), if_neg hb]
  · rw [if_pos (by simp [h, bI])]
theorem s_reqx {b : Int32} {x : Int32} (h : Px r0 r T L c e z) : x9_require m b x (putR g m r) = some ((), putR g m r) := by
  unfold x9_require
  rw [R_isO, gb_s, s_fine0 h.no, cb_s, if_pos rfl]
theorem s_req0 {b x : Int32} (h : Po r0 r T L s z) (hb : b = 0) (hx : x = I c) (hc : c = 1 ∨ c = 2 ∨ c = 3) : ∃ r1, x9_require m b x (putR g m r) = some ((), putR g m r1) ∧ Px r0 r1 T L c s z := by
  obtain ⟨a1, a2, a3, a4, a5, a6⟩ := h
  unfold x9_require
  rw [R_isO, gb_s, s_fine1 a2, cb_s, if_neg (by decide), if_pos hb, R_putI rfl, gb_s, R_getI rfl, gb_s, R_putI rfl, gb_s]
  refine ⟨_, rfl, a1.of (fun k h1 h2 => (RSF_ne (by omega)).trans (RSF_ne (by omega))), ?_, ?_, a4, hc, a5, (a6.f (by decide) (by decide)).f (by decide) (by decide)⟩
  · rw [← hx]; exact (RSF_ne (by decide)).trans (RSF_at _ _ _)
  · exact (RSF_at _ _ _).trans ((RSF_ne (by decide)).trans a1.2.2.1)
theorem s_go (h : Po r0 r T L s z) (hT : Tx r0 T L) (hL : L ≤ 500) : ∃ r1, x9_proceed m (putR g m r) = some ((), putR g m r1) ∧ Po r0 r1 T L (nx T L s) z := by
  obtain ⟨a1, a2, a3, a4, a5, a6⟩ := h
  obtain ⟨r1, e1, e2, e3⟩ := s_proceed (g := g) (m := m) a1.1 a1.2.2.2.1 a2 (hT.pq a6) hL (te_le (T := T) a4).2
  exact ⟨r1, e1, e2, (e3.1 14 (by decide)).trans a2, (e3.1 15 (by decide)).trans a3, nx_le a4, by rw [e3.2]; exact a5, a6.pf e3⟩
theorem s_gox (h : Px r0 r T L c e z) : x9_proceed m (putR g m r) = some ((), putR g m r) := s_proceed0 h.no
theorem s_finex (h : Px r0 r T L c e z) : x9_isFine m (putR g m r) = some (0, putR g m r) := s_fine0 h.no
theorem s_word (hx : RxT r T L s) (hT : Tx r T L) (hL : L ≤ 500) (hs : s ≤ L) {k : Nat} (hk0 : k < 15) : x9_isWord m k (putR g m r) = some (bI (wdB T L k s), putR g m r) := by
  obtain ⟨h9, h10, h11, h12, -⟩ := hx
  have hwl := wl_le hk0
  have ht := te_le (T := T) hs
  have ht5 := tk_le T L s
  unfold x9_isWord wdB
  rw [R_getI rfl, gb_s, h10]
  by_cases h1 : tk T L s = 1
  · obtain ⟨hl, -⟩ := tk_lt h1 (by decide)
    rw [if_pos (show I (trT (tk T L s)) = 1 from (trT_e (k := 1) ht5 (by decide)).mpr h1), R_getI rfl, gb_s, R_getI rfl, gb_s, str_len hk0, gb_s, h12, h11, I_sub ht.1]
    by_cases h2 : te T L s - s = wl k
    · have hby : ∀ j, j < wl k → x9_byteAt m (I s + I j) (putR g m r) = some (T (s + j), putR g m r) := fun j hj => by
        have := s_byteAt (g := g) (m := m) h9 hT hL (i := s + j) (by omega)
        rw [I_add, this]
        unfold chr
        rw [if_pos (by omega)]
      have hs1 : ∀ j, j < wl k → (!decide (T (s + j) = wc k j)) = false → x9_isWord_l28 m k (I j) (putR g m r) = some (.inl (I (j + 1)), putR g m r) := by
        intro j hj hp
        unfold x9_isWord_l28
        rw [str_len hk0, gb_s, if_neg (by rw [I_le (by omega) (by omega)]; omega), R_getI rfl, gb_s, h11, R_isO, gb_s, hby j hj, cb_s, str_at hk0 hj, gb_s, if_pos (by simpa using hp), I_succ]
      have hs2 : ∀ j, j < wl k → (!decide (T (s + j) = wc k j)) = true → x9_isWord_l28 m k (I j) (putR g m r) = some (.inr (.inr 0), putR g m r) := by
        intro j hj hp
        unfold x9_isWord_l28
        rw [str_len hk0, gb_s, if_neg (by rw [I_le (by omega) (by omega)]; omega), R_getI rfl, gb_s, h11, R_isO, gb_s, hby j hj, cb_s, str_at hk0 hj, gb_s, if_neg (by simpa using hp)]
      have hs3 : x9_isWord_l28 m k (I (wl k)) (putR g m r) = some (.inr (.inl ()), putR g m r) := by
        unfold x9_isWord_l28
        rw [str_len hk0, gb_s, if_pos (by rw [I_le (by omega) (by omega)]; omega)]
      rw [if_pos (by rw [h2]), loop_find (fun j => !decide (T (s + j) = wc k j)) (fun _ => .inr 0) hs1 hs2 hs3 (by omega), cb_s]
      cases ff (fun j => !decide (T (s + j) = wc k j)) (wl k) <;> simp [h1, h2, bI]
    · rw [if_neg (fun hc => h2 ((I_eq (by omega) (by omega)).mp hc))]
      simp [h2, bI]
  · rw [if_neg (show ¬ I (trT (tk T L s)) = 1 from fun hc => h1 ((trT_e (k := 1) ht5 (by decide)).mp hc))]
    simp [h1, bI]
theorem Po.word (h : Po r0 r T L s z) (hT : Tx r0 T L) (hL : L ≤ 500) {k : Nat} (hk0 : k < 15) : x9_isWord m k (putR g m r) = some (bI (wdB T L k s), putR g m r) := s_word h.1 (hT.pq h.2.2.2.2.2) hL h.2.2.2.1 hk0
theorem Px.word (h : Px r0 r T L c e z) (hT : Tx r0 T L) (hL : L ≤ 500) {k : Nat} (hk0 : k < 15) : x9_isWord m k (putR g m r) = some (bI (wdB T L k e), putR g m r) := s_word h.1 (hT.pq h.2.2.2.2.2.2) hL h.2.2.2.1 hk0
theorem Po.tk {k : Nat} (h : Po r0 r T L s z) (hk0 : k < 4) : r.1 10 = I k ↔ tk T L s = k := by
  rw [h.1.2.1]
  exact trT_e (tk_le T L s) hk0
theorem s_pWord (h : Po r0 r T L s z) (hT : Tx r0 T L) (hL : L ≤ 500) {k : Nat} (hk0 : k < 15) : if wdB T L k s = true then ∃ r1, x9_parseWord m k (putR g m r) = some ((), putR g m r1) ∧ Po r0 r1 T L (nx T L s) z else ∃ r1, x9_parseWord m k (putR g m r) = some ((), putR g m r1) ∧ Px r0 r1 T L 1 s z := by
  unfold x9_parseWord
  rw [R_isO, gb_s, h.word hT hL hk0, cb_s, R_isO, gb_s]
  by_cases h1 : wdB T L k s = true
  · obtain ⟨r1, e1, e2⟩ := s_go (g := g) (m := m) h hT hL
    rw [if_pos h1, s_req1 (by rw [bI_z, h1]; decide), cb_s, R_isO, gb_s, e1, cb_s]
    exact ⟨r1, rfl, e2⟩
  · obtain ⟨r1, e1, e2⟩ := s_req0 (g := g) (m := m) (b := bI (wdB T L k s)) (x := 1) h ((bI_z _).mpr (by simpa using h1)) rfl (Or.inl rfl)
    rw [if_neg h1, e1, cb_s, R_isO, gb_s, s_gox e2, cb_s]
    exact ⟨r1, rfl, e2⟩
theorem s_pWordx (h : Px r0 r T L c e z) (hT : Tx r0 T L) (hL : L ≤ 500) {k : Nat} (hk0 : k < 15) : x9_parseWord m k (putR g m r) = some ((), putR g m r) := by
  unfold x9_parseWord
  rw [R_isO, gb_s, h.word hT hL hk0, cb_s, R_isO, gb_s, s_reqx h, cb_s, R_isO, gb_s, s_gox h, cb_s]
theorem s_pEnd (h : Po r0 r T L s z) (hT : Tx r0 T L) (hL : L ≤ 500) : if tk T L s = 3 then ∃ r1, x9_parseEnd m (putR g m r) = some ((), putR g m r1) ∧ Po r0 r1 T L (nx T L s) z else ∃ r1, x9_parseEnd m (putR g m r) = some ((), putR g m r1) ∧ Px r0 r1 T L 1 s z := by
  unfold x9_parseEnd x9_parseEnd_j14
  rw [R_getI rfl, gb_s]
  by_cases h1 : tk T L s = 3
  · obtain ⟨r1, e1, e2⟩ := s_go (g := g) (m := m) h hT hL
    rw [if_pos h1, if_pos (show r.1 10 = 3 from (h.tk (k := 3) (by decide)).mpr h1), R_isO, gb_s, s_req1 (by decide), cb_s, R_isO, gb_s, e1, cb_s]
    exact ⟨r1, rfl, e2⟩
  · obtain ⟨r1, e1, e2⟩ := s_req0 (g := g) (m := m) (b := 0) (x := 1) h rfl rfl (Or.inl rfl)
    rw [if_neg h1, if_neg (show ¬ r.1 10 = 3 from fun hc => h1 ((h.tk (k := 3) (by decide)).mp hc)), R_isO, gb_s, e1, cb_s, R_isO, gb_s, s_gox e2, cb_s]
    exact ⟨r1, rfl, e2⟩
theorem s_pEndx (h : Px r0 r T L c e z) : x9_parseEnd m (putR g m r) = some ((), putR g m r) := by
  have e : ∀ b, x9_parseEnd_j14 m b m (putR g m r) = some ((), putR g m r) := fun b => by
    unfold x9_parseEnd_j14
    rw [R_isO, gb_s, s_reqx h, cb_s, R_isO, gb_s, s_gox h, cb_s]
  unfold x9_parseEnd
  rw [R_getI rfl, gb_s, e, e]
  split <;> rfl
/-- whether a number is what is asked for -/
theorem s_numIn {lo hi : Nat} {x y : Int32} (h : Po r0 r T L s z) (h2 : tk T L s = 2) (hx : x = I lo) (hy : y = I hi) (hlo : lo ≤ 99) (hh : hi ≤ 99) : x9_isBetween (r.1 13) x y (putR g m r) = some (bI (decide (nuE T L lo hi s = 0)), putR g m r) := by
  have := nv_le T h2
  rw [s_isBetween, h.1.2.2.2.2 h2, hx, hy, bt_nat (by omega) (by omega) (by omega)]
  unfold nuE
  rw [if_pos h2]
  by_cases h3 : lo ≤ nv T L s ∧ nv T L s ≤ hi
  · rw [if_pos h3]; simp [h3]
  · rw [if_neg h3]
    have : (decide (lo ≤ nv T L s) && decide (nv T L s ≤ hi)) = false := by simpa using h3
    rw [this]
    rfl
theorem nuE2 {lo hi : Nat} (h2 : tk T L s = 2) (h : ¬ nuE T L lo hi s = 0) : nuE T L lo hi s = 2 := by
  unfold nuE at h ⊢
  rw [if_pos h2] at h ⊢
  by_cases h3 : lo ≤ nv T L s ∧ nv T L s ≤ hi
  · rw [if_pos h3] at h; exact absurd rfl h
  · rw [if_neg h3]
theorem nuE1 {lo hi : Nat} (h2 : ¬ tk T L s = 2) : nuE T L lo hi s = 1 := if_neg h2
theorem s_pNum {lo hi : Nat} {x y : Int32} (h : Po r0 r T L s z) (hT : Tx r0 T L) (hL : L ≤ 500) (hx : x = I lo) (hy : y = I hi) (hlo : lo ≤ 99) (hh : hi ≤ 99) : if nuE T L lo hi s = 0 then ∃ r1, x9_parseNumber m x y (putR g m r) = some (I (nv T L s), putR g m r1) ∧ Po r0 r1 T L (nx T L s) z else ∃ r1, x9_parseNumber m x y (putR g m r) = some (x, putR g m r1) ∧ Px r0 r1 T L (nuE T L lo hi s) s z := by
  unfold x9_parseNumber x9_parseNumber_j14
  rw [R_getI rfl, gb_s]
  by_cases h2 : tk T L s = 2
  · have e10 : r.1 10 = 2 := (h.tk (k := 2) (by decide)).mpr h2
    rw [if_pos e10, R_isO, gb_s, s_req1 (by decide), cb_s, R_getI rfl, gb_s, if_pos e10, R_getI rfl, gb_s, s_numIn h h2 hx hy hlo hh, cb_s]
    by_cases h3 : nuE T L lo hi s = 0
    · obtain ⟨r1, e1, e2⟩ := s_go (g := g) (m := m) h hT hL
      rw [if_pos h3, if_neg (show ¬ bI (decide (nuE T L lo hi s = 0)) = 0 by simp [h3, bI])]
      unfold x9_parseNumber_j39 x9_parseNumber_j44 x9_parseNumber_j63
      rw [R_isO, gb_s, s_req1 (by decide), cb_s, R_isO, gb_s, s_fine1 h.2.1, cb_s, if_neg (by decide), R_getI rfl, gb_s, R_isO, gb_s, e1, cb_s, h.1.2.2.2.2 h2]
      exact ⟨r1, rfl, e2⟩
    · obtain ⟨r1, e1, e2⟩ := s_req0 (g := g) (m := m) (b := 0) (x := 2) h rfl rfl (Or.inr (Or.inl rfl))
      rw [if_neg h3, if_pos (show bI (decide (nuE T L lo hi s = 0)) = 0 by simp [h3, bI]), nuE2 h2 h3]
      unfold x9_parseNumber_j44 x9_parseNumber_j63
      rw [R_isO, gb_s, e1, cb_s, R_isO, gb_s, s_finex e2, cb_s, if_pos rfl, R_isO, gb_s, s_gox e2, cb_s]
      exact ⟨r1, rfl, e2⟩
  · have e10 : ¬ r.1 10 = 2 := fun hc => h2 ((h.tk (k := 2) (by decide)).mp hc)
    obtain ⟨r1, e1, e2⟩ := s_req0 (g := g) (m := m) (b := 0) (x := 1) h rfl rfl (Or.inl rfl)
    have e10' : ¬ r1.1 10 = 2 := by rw [e2.1.2.1, ← h.1.2.1]; exact e10
    rw [if_neg e10, R_isO, gb_s, e1, cb_s, R_getI rfl, gb_s, if_neg e10', nuE1 h2, if_neg (by decide)]
    unfold x9_parseNumber_j39 x9_parseNumber_j44 x9_parseNumber_j63
    rw [R_isO, gb_s, s_reqx e2, cb_s, R_isO, gb_s, s_finex e2, cb_s, if_pos rfl, R_isO, gb_s, s_gox e2, cb_s]
    exact ⟨r1, rfl, e2⟩
theorem s_pRange {lo hi : Nat} {x y : Int32} (h : Po r0 r T L s z) (hT : Tx r0 T L) (hL : L ≤ 500) (hx : x = I lo) (hy : y = I hi) (hlo : lo ≤ 99) (hh : hi ≤ 99) : if nuE T L lo hi s = 0 then ∃ r1, x9_parseRange m x y (putR g m r) = some (I (nv T L s), putR g m r1) ∧ Po r0 r1 T L (nx T L s) z else ∃ r1, x9_parseRange m x y (putR g m r) = some (x, putR g m r1) ∧ Px r0 r1 T L (nuE T L lo hi s) s z := by
  have H := s_pNum (g := g) (m := m) h hT hL hx hy hlo hh
  unfold x9_parseRange
  rw [R_isO, gb_s, s_fine1 h.2.1, cb_s, if_neg (show ¬ (1 : Int32) = 0 by decide), R_isO, gb_s]
  by_cases h3 : nuE T L lo hi s = 0
  · rw [if_pos h3] at H ⊢
    obtain ⟨r1, e1, e2⟩ := H
    rw [e1, cb_s]
    exact ⟨r1, rfl, e2⟩
  · rw [if_neg h3] at H ⊢
    obtain ⟨r1, e1, e2⟩ := H
    rw [e1, cb_s]
    exact ⟨r1, rfl, e2⟩
theorem s_pRangex {x y : Int32} (h : Px r0 r T L c e z) : x9_parseRange m x y (putR g m r) = some (x, putR g m r) := by
  unfold x9_parseRange
  rw [R_isO, gb_s, s_finex h, cb_s, if_pos rfl]
/-- a row of a hut, as the reference reads it -/
def rowZ (z : St) (a off : Nat) (vs : List Nat) : St := fun j => if j = a then I vs.length else if off ≤ j ∧ j < off + vs.length then I (vs.getD (j - off) 0) else z j
theorem rowZ_nil {a off : Nat} (h : z a = 0) : rowZ z a off [] = z := funext fun j => by
  show (if j = a then I 0 else if off ≤ j ∧ j < off + 0 then _ else z j) = z j
  by_cases hj : j = a
  · rw [if_pos hj, hj, h]; rfl
  · rw [if_neg hj, if_neg (by omega)]
theorem rowZ_app {a off : Nat} (h : a < off) (vs : List Nat) (v : Nat) : upd (upd (rowZ z a off vs) (off + vs.length) (I v)) a (I (vs.length + 1)) = rowZ z a off (vs ++ [v]) := funext fun j => by
  show (if j = a then I (vs.length + 1) else if j = off + vs.length then I v else if j = a then I vs.length else if off ≤ j ∧ j < off + vs.length then I (vs.getD (j - off) 0) else z j) = (if j = a then I (vs ++ [v]).length else if off ≤ j ∧ j < off + (vs ++ [v]).length then I ((vs ++ [v]).getD (j - off) 0) else z j)
  rw [List.length_append, List.length_singleton]
  by_cases hj : j = a
  · rw [if_pos hj, if_pos hj]
  · rw [if_neg hj, if_neg hj, if_neg hj]
    by_cases h2 : j = off + vs.length
    · rw [if_pos h2, if_pos (by omega), show j - off = vs.length by omega]
      simp
    · rw [if_neg h2]
      by_cases h3 : off ≤ j ∧ j < off + vs.length
      · rw [if_pos h3, if_pos (by omega)]
        simp [List.getElem?_append_left (show j - off < vs.length by omega)]
      · rw [if_neg h3, if_neg (by omega)]
theorem s_pOnex {a b lo hi : Int32} {k n : Nat} (hk0 : k < 149) (ha : a = I k) (h : Px r0 r T L c e z) : x9_parseOneOf m a b lo hi (putR g m r) = some ((), putR g m r) := by
  have e0 : ∀ x, x9_parseOneOf_j50 m a b x m (putR g m r) = some ((), putR g m r) := fun x => by
    unfold x9_parseOneOf_j50 x9_parseOneOf_j88
    rw [R_isO, gb_s, s_reqx h, cb_s, R_isO, gb_s, s_finex h, cb_s, if_pos rfl, R_isO, gb_s, s_gox h, cb_s]
  have e1 : ∀ x, x9_parseOneOf_j14 m a b lo hi x m (putR g m r) = some ((), putR g m r) := fun x => by
    unfold x9_parseOneOf_j14
    rw [R_isO, gb_s, s_reqx h, cb_s, R_getI rfl, gb_s, s_isBetween, cb_s, R_isO, gb_s, s_reqx h, cb_s, R_getR (d := 1) rfl, gb_s, R_s ha hk0, gb_s, e0, e0]
    split <;> rfl
  unfold x9_parseOneOf
  rw [R_getI rfl, gb_s, e1, e1]
  split <;> rfl
theorem s_pOne {a b x y : Int32} {k off lo hi : Nat} {vs : List Nat} (hk0 : k < off) (ho : off ≤ 100) (ha : a = I k) (hb : b = I off) (h : Po r0 r T L s (rowZ z k off vs)) (hT : Tx r0 T L) (hL : L ≤ 500) (hx : x = I lo) (hy : y = I hi) (hlo : lo ≤ 99) (hh : hi ≤ 99) (hv : vs.length ≤ 12) :
    if nuE T L lo hi s = 0 then (if 12 ≤ vs.length then ∃ r1, x9_parseOneOf m a b x y (putR g m r) = some ((), putR g m r1) ∧ Px r0 r1 T L 3 s (rowZ z k off vs) else ∃ r1, x9_parseOneOf m a b x y (putR g m r) = some ((), putR g m r1) ∧ Po r0 r1 T L (nx T L s) (rowZ z k off (vs ++ [nv T L s]))) else ∃ r1, x9_parseOneOf m a b x y (putR g m r) = some ((), putR g m r1) ∧ Px r0 r1 T L (nuE T L lo hi s) s (rowZ z k off vs) := by
  have ezk : rowZ z k off vs k = I vs.length := if_pos rfl
  have ex : ∀ {c e z r}, Px r0 r T L c e z → ∀ x, x9_parseOneOf_j50 m a b x m (putR g m r) = some ((), putR g m r) := fun h x => by
    unfold x9_parseOneOf_j50 x9_parseOneOf_j88
    rw [R_isO, gb_s, s_reqx h, cb_s, R_isO, gb_s, s_finex h, cb_s, if_pos rfl, R_isO, gb_s, s_gox h, cb_s]
  unfold x9_parseOneOf
  rw [R_getI rfl, gb_s]
  by_cases h2 : tk T L s = 2
  · have e10 : r.1 10 = 2 := (h.tk (k := 2) (by decide)).mpr h2
    have e13 : r.1 13 = I (nv T L s) := h.1.2.2.2.2 h2
    rw [if_pos e10]
    unfold x9_parseOneOf_j14
    rw [R_isO, gb_s, s_req1 (by decide), cb_s, R_getI rfl, gb_s, s_numIn h h2 hx hy hlo hh, cb_s, R_isO, gb_s]
    by_cases h3 : nuE T L lo hi s = 0
    · rw [if_pos h3, s_req1 (show ¬ bI (decide (nuE T L lo hi s = 0)) = 0 by simp [h3, bI]), cb_s, R_getR (d := 1) rfl, gb_s, R_s ha (by omega), gb_s, h.2.2.2.2.1, ezk]
      by_cases h4 : 12 ≤ vs.length
      · obtain ⟨r1, e1, e2⟩ := s_req0 (g := g) (m := m) (b := 0) (x := 3) h rfl rfl (Or.inr (Or.inr rfl))
        rw [if_pos h4, if_pos (show (12 : Int32) ≤ I vs.length by rw [show (12 : Int32) = I 12 from rfl, I_le (by decide) (by omega)]; exact h4)]
        unfold x9_parseOneOf_j50 x9_parseOneOf_j88
        rw [R_isO, gb_s, e1, cb_s, R_isO, gb_s, s_finex e2, cb_s, if_pos rfl, R_isO, gb_s, s_gox e2, cb_s]
        exact ⟨r1, rfl, e2⟩
      · rw [if_neg h4, if_neg (show ¬ (12 : Int32) ≤ I vs.length by rw [show (12 : Int32) = I 12 from rfl, I_le (by decide) (by omega)]; exact h4)]
        have ho' : Po r0 (RS_setA r 1 (rowZ z k off (vs ++ [nv T L s]))) T L s (rowZ z k off (vs ++ [nv T L s])) := ⟨h.1, h.2.1, h.2.2.1, h.2.2.2.1, RS_at, h.2.2.2.2.2.a⟩
        obtain ⟨r1, e1, e2⟩ := s_go (g := g) (m := m) ho' hT hL
        unfold x9_parseOneOf_j50 x9_parseOneOf_j88
        rw [R_isO, gb_s, s_req1 (by decide), cb_s, R_isO, gb_s, s_fine1 h.2.1, cb_s, if_neg (by decide), R_getR (d := 1) rfl, gb_s, gb_s, R_s ha (by omega), gb_s, h.2.2.2.2.1, ezk, R_getI rfl, gb_s, e13, hb, I_add, R_astN (d := 1) (t := 0) (by decide) (by decide) rfl (by show _ < 149; omega), gb_s, R_getR (d := 1) rfl, gb_s, R_s ha (by omega), gb_s, RS_at, ha, R_astN (d := 1) (t := 0) (by decide) (by decide) rfl (by show _ < 149; omega), gb_s, h.2.2.2.2.1, upd_ne (by omega), ezk, I_succ, RS_set2, RS_at, rowZ_app hk0, R_isO, gb_s, e1, cb_s]
        exact ⟨r1, rfl, e2⟩
    · obtain ⟨r1, e1, e2⟩ := s_req0 (g := g) (m := m) (b := bI (decide (nuE T L lo hi s = 0))) (x := 2) h (by simp [h3, bI]) rfl (Or.inr (Or.inl rfl))
      rw [if_neg h3, e1, cb_s, R_getR (d := 1) rfl, gb_s, R_s ha (by omega), gb_s, ex e2, ex e2, nuE2 h2 h3]
      exact ⟨r1, by split <;> rfl, e2⟩
  · have e10 : ¬ r.1 10 = 2 := fun hc => h2 ((h.tk (k := 2) (by decide)).mp hc)
    obtain ⟨r1, e1, e2⟩ := s_req0 (g := g) (m := m) (b := 0) (x := 1) h rfl rfl (Or.inl rfl)
    rw [if_neg e10, nuE1 h2, if_neg (by decide)]
    unfold x9_parseOneOf_j14
    rw [R_isO, gb_s, e1, cb_s, R_getI rfl, gb_s, s_isBetween, cb_s, R_isO, gb_s, s_reqx e2, cb_s, R_getR (d := 1) rfl, gb_s, R_s ha (by omega), gb_s, ex e2, ex e2]
    exact ⟨r1, by split <;> rfl, e2⟩
end SPar2
