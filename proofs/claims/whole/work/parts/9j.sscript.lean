/-! the reference reads a script -/
/-- the row of the script's numbers holds these commands -/
def SR (Z : Nat → Int32) (cs : List Cm) : Prop := ∀ i, i < cs.length → Z (3 * i) = I (cs.getD i (0, 0, 0)).1 ∧ Z (3 * i + 1) = I (cs.getD i (0, 0, 0)).2.1 ∧ Z (3 * i + 2) = I (cs.getD i (0, 0, 0)).2.2
/-- the state after one more command -/
def cmR (r : RS) (n : Nat) (c a b : Nat) : RS := RS_setF (RS_setA r 8 (upd (upd (upd (r.2 8) (3 * n) (I c)) (3 * n + 1) (I a)) (3 * n + 2) (I b))) 17 (I (n + 1))
theorem Po.cm {r0 r : RS} {T : Nat → Int32} {L s n c a b : Nat} {z : St} (h : Po r0 r T L s z) : Po (cmR r0 n c a b) (cmR r n c a b) T L s z := by
  obtain ⟨h1, h2, h3, h4, h5, h6, h7⟩ := h
  have f : ∀ k, k ≠ 17 → ∀ x : RS, (cmR x n c a b).1 k = x.1 k := fun k hk0 x => upd_ne hk0
  have a8 : ∀ d, d ≠ 8 → ∀ x : RS, (cmR x n c a b).2 d = x.2 d := fun d hd x => if_neg hd
  refine ⟨h1.of (fun k _ _ => f k (by omega) r), (f 14 (by decide) r).trans h2, (f 15 (by decide) r).trans h3, h4, (a8 1 (by decide) r).trans h5, fun k hk0 => ?_, fun d hd => ?_⟩
  · by_cases h17 : k = 17
    · rw [h17]; exact (RSF_at _ _ _).trans (RSF_at _ _ _).symm
    · rw [f k h17, f k h17]; exact h6 k hk0
  · by_cases hd8 : d = 8
    · have e := h7 8 (by decide)
      rw [hd8]
      show (if (8 : Nat) = 8 then upd (upd (upd (r.2 8) (3 * n) (I c)) (3 * n + 1) (I a)) (3 * n + 2) (I b) else r.2 8) = if (8 : Nat) = 8 then upd (upd (upd (r0.2 8) (3 * n) (I c)) (3 * n + 1) (I a)) (3 * n + 2) (I b) else r0.2 8
      rw [e]
    · rw [a8 d hd8, a8 d hd8]; exact h7 d hd
theorem SR_cm {r : RS} {cs : List Cm} {c a b : Nat} (h : SR (r.2 8) cs) : SR ((cmR r cs.length c a b).2 8) (cs ++ [(c, a, b)]) := by
  intro i hi
  rw [List.length_append, List.length_singleton] at hi
  have e8 : (cmR r cs.length c a b).2 8 = upd (upd (upd (r.2 8) (3 * cs.length) (I c)) (3 * cs.length + 1) (I a)) (3 * cs.length + 2) (I b) := RS_at (r := r) (d := 8)
  rw [e8]
  by_cases hil : i = cs.length
  · have e : (cs ++ [(c, a, b)]).getD i (0, 0, 0) = (c, a, b) := by rw [hil]; simp
    rw [e, hil]
    exact ⟨(upd_ne (by omega)).trans ((upd_ne (by omega)).trans upd_at), (upd_ne (by omega)).trans upd_at, upd_at⟩
  · have e : (cs ++ [(c, a, b)]).getD i (0, 0, 0) = cs.getD i (0, 0, 0) := by simp [List.getElem?_append_left (show i < cs.length by omega)]
    obtain ⟨h1, h2, h3⟩ := h i (by omega)
    rw [e]
    exact ⟨((upd_ne (by omega)).trans ((upd_ne (by omega)).trans (upd_ne (by omega)))).trans h1, ((upd_ne (by omega)).trans ((upd_ne (by omega)).trans (upd_ne (by omega)))).trans h2, ((upd_ne (by omega)).trans ((upd_ne (by omega)).trans (upd_ne (by omega)))).trans h3⟩
section SScr
variable {g : AH} {m L s e c : Nat} {T : Nat → Int32} {r0 r : RS} {z : St}
theorem s_command (hx : RxT r T L s) (hT : Tx r T L) (hL : L ≤ 500) (hs : s ≤ L) : x9_commandHere m (putR g m r) = some (cmI (cmW T L s), putR g m r) := by
  have w : ∀ k, k < 15 → x9_isWord m k (putR g m r) = some (bI (wdB T L k s), putR g m r) := fun k hk0 => s_word hx hT hL hs hk0
  have z : ∀ k, wdB T L k s = true → ¬ bI (wdB T L k s) = 0 := fun k h => by rw [bI_z, h]; decide
  have f : ∀ k, ¬ wdB T L k s = true → bI (wdB T L k s) = 0 := fun k h => (bI_z _).mpr (by simpa using h)
  unfold x9_commandHere cmW
  rw [R_isO, gb_s, w 6 (by decide), cb_s]
  by_cases h6 : wdB T L 6 s = true
  · rw [if_neg (z 6 h6), if_pos h6]; rfl
  rw [if_pos (f 6 h6), if_neg h6, R_isO, gb_s, w 7 (by decide), cb_s]
  by_cases h7 : wdB T L 7 s = true
  · rw [if_neg (z 7 h7), if_pos h7]; rfl
  rw [if_pos (f 7 h7), if_neg h7, R_isO, gb_s, w 8 (by decide), cb_s]
  by_cases h8 : wdB T L 8 s = true
  · rw [if_neg (z 8 h8), if_pos h8]; rfl
  rw [if_pos (f 8 h8), if_neg h8, R_isO, gb_s, w 9 (by decide), cb_s]
  by_cases h9 : wdB T L 9 s = true
  · rw [if_neg (z 9 h9), if_pos h9]; rfl
  rw [if_pos (f 9 h9), if_neg h9, R_isO, gb_s, w 10 (by decide), cb_s]
  by_cases h10 : wdB T L 10 s = true
  · rw [if_neg (z 10 h10), if_pos h10]; rfl
  rw [if_pos (f 10 h10), if_neg h10, R_isO, gb_s]
  unfold x9_rareCommandHere
  rw [R_isO, gb_s, w 11 (by decide), cb_s]
  by_cases h11 : wdB T L 11 s = true
  · rw [if_neg (z 11 h11), if_pos h11]; rfl
  rw [if_pos (f 11 h11), if_neg h11, R_isO, gb_s, w 12 (by decide), cb_s]
  by_cases h12 : wdB T L 12 s = true
  · rw [if_neg (z 12 h12), if_pos h12]; rfl
  rw [if_pos (f 12 h12), if_neg h12, R_isO, gb_s, w 13 (by decide), cb_s]
  by_cases h13 : wdB T L 13 s = true
  · rw [if_neg (z 13 h13), if_pos h13]; rfl
  rw [if_pos (f 13 h13), if_neg h13, R_isO, gb_s, w 14 (by decide), cb_s]
  by_cases h14 : wdB T L 14 s = true
  · rw [if_neg (z 14 h14), if_pos h14]; rfl
  · rw [if_pos (f 14 h14), if_neg h14]; rfl
theorem s_first (h : Po r0 r T L s z) (hT : Tx r0 T L) (hL : L ≤ 500) {c : Nat} (hc : c ≤ 8) : if nuE T L (lo1 c) (hi1 c) s = 0 then ∃ r1, x9_parseFirst m (I c) (putR g m r) = some (I (nv T L s), putR g m r1) ∧ Po r0 r1 T L (nx T L s) z else ∃ v r1, x9_parseFirst m (I c) (putR g m r) = some (v, putR g m r1) ∧ Px r0 r1 T L (nuE T L (lo1 c) (hi1 c) s) s z := by
  have H : ∀ {lo hi : Nat} {x y : Int32}, x = I lo → y = I hi → lo ≤ 99 → hi ≤ 99 → lo1 c = lo → hi1 c = hi → ∀ w, w = (gb (isO 9 (putR g m r) m) fun _ => cb (x9_parseNumber m x y (putR g m r)) fun r2 g3 => some (r2, g3)) → (if nuE T L (lo1 c) (hi1 c) s = 0 then ∃ r1, w = some (I (nv T L s), putR g m r1) ∧ Po r0 r1 T L (nx T L s) z else ∃ v r1, w = some (v, putR g m r1) ∧ Px r0 r1 T L (nuE T L (lo1 c) (hi1 c) s) s z) := by
    intro lo hi x y hx hy hlo hh e1 e2 w hw
    have N := s_pNum (g := g) (m := m) h hT hL hx hy hlo hh
    rw [e1, e2, hw, R_isO, gb_s]
    by_cases h3 : nuE T L lo hi s = 0
    · rw [if_pos h3] at N ⊢
      obtain ⟨r1, f1, f2⟩ := N
      rw [f1, cb_s]
      exact ⟨r1, rfl, f2⟩
    · rw [if_neg h3] at N ⊢
      obtain ⟨r1, f1, f2⟩ := N
      rw [f1, cb_s]
      exact ⟨x, r1, rfl, f2⟩
  have e5 : ∀ c, c ≤ 8 → x9_parseFirst m (I c) (putR g m r) = (if c = 5 then gb (isO 9 (putR g m r) m) fun _ => cb (x9_parseNumber m 0 3 (putR g m r)) fun r2 g3 => some (r2, g3) else if c = 6 then gb (isO 9 (putR g m r) m) fun _ => cb (x9_parseNumber m 1 50 (putR g m r)) fun r2 g3 => some (r2, g3) else if c = 8 then gb (isO 9 (putR g m r) m) fun _ => cb (x9_parseNumber m 1 48 (putR g m r)) fun r2 g3 => some (r2, g3) else gb (isO 9 (putR g m r) m) fun _ => cb (x9_parseNumber m 0 9 (putR g m r)) fun r2 g3 => some (r2, g3)) := by
    intro c hc
    have q : ∀ k, k < 10 → (I c = I k ↔ c = k) := fun k hk0 => I_eq (by omega) (by omega)
    unfold x9_parseFirst
    by_cases h5 : c = 5
    · rw [if_pos h5, if_pos (show I c = 5 from (q 5 (by decide)).mpr h5)]
    rw [if_neg h5, if_neg (show ¬ I c = 5 from fun hc => h5 ((q 5 (by decide)).mp hc))]
    by_cases h6 : c = 6
    · rw [if_pos h6, if_pos (show I c = 6 from (q 6 (by decide)).mpr h6)]
    rw [if_neg h6, if_neg (show ¬ I c = 6 from fun hc => h6 ((q 6 (by decide)).mp hc))]
    by_cases h8 : c = 8
    · rw [if_pos h8, if_neg (show ¬ I c = 7 from fun hc => by have := (q 7 (by decide)).mp hc; omega), if_pos (show I c = 8 from (q 8 (by decide)).mpr h8)]
    rw [if_neg h8, if_neg (show ¬ I c = 8 from fun hc => h8 ((q 8 (by decide)).mp hc))]
    split <;> rfl
  rw [e5 c hc]
  by_cases h5 : c = 5
  · rw [if_pos h5]
    exact H (x := 0) (y := 3) (lo := 0) (hi := 3) rfl rfl (by decide) (by decide) (by rw [h5]; rfl) (by rw [h5]; rfl) _ rfl
  rw [if_neg h5]
  by_cases h6 : c = 6
  · rw [if_pos h6]
    exact H (x := 1) (y := 50) (lo := 1) (hi := 50) rfl rfl (by decide) (by decide) (by rw [h6]; rfl) (by rw [h6]; rfl) _ rfl
  rw [if_neg h6]
  by_cases h8 : c = 8
  · rw [if_pos h8]
    exact H (x := 1) (y := 48) (lo := 1) (hi := 48) rfl rfl (by decide) (by decide) (by rw [h8]; rfl) (by rw [h8]; rfl) _ rfl
  rw [if_neg h8]
  exact H (x := 0) (y := 9) (lo := 0) (hi := 9) rfl rfl (by decide) (by decide) (if_neg (by omega)) (by unfold hi1; rw [if_neg h5, if_neg h6, if_neg h8]) _ rfl
theorem s_second (h : Po r0 r T L s z) (hT : Tx r0 T L) (hL : L ≤ 500) {c : Nat} (hc : c ≤ 8) : if two c = true then (if nuE T L (lo2 c) (hi2 c) s = 0 then ∃ r1, x9_parseSecond m (I c) (putR g m r) = some (I (nv T L s), putR g m r1) ∧ Po r0 r1 T L (nx T L s) z else ∃ v r1, x9_parseSecond m (I c) (putR g m r) = some (v, putR g m r1) ∧ Px r0 r1 T L (nuE T L (lo2 c) (hi2 c) s) s z) else x9_parseSecond m (I c) (putR g m r) = some (0, putR g m r) := by
  have H : ∀ {lo hi : Nat} {x y : Int32}, x = I lo → y = I hi → lo ≤ 99 → hi ≤ 99 → lo2 c = lo → hi2 c = hi → ∀ w, w = (gb (isO 9 (putR g m r) m) fun _ => cb (x9_parseRange m x y (putR g m r)) fun r2 g3 => some (r2, g3)) → (if nuE T L (lo2 c) (hi2 c) s = 0 then ∃ r1, w = some (I (nv T L s), putR g m r1) ∧ Po r0 r1 T L (nx T L s) z else ∃ v r1, w = some (v, putR g m r1) ∧ Px r0 r1 T L (nuE T L (lo2 c) (hi2 c) s) s z) := by
    intro lo hi x y hx hy hlo hh e1 e2 w hw
    have N := s_pRange (g := g) (m := m) h hT hL hx hy hlo hh
    rw [e1, e2, hw, R_isO, gb_s]
    by_cases h3 : nuE T L lo hi s = 0
    · rw [if_pos h3] at N ⊢
      obtain ⟨r1, f1, f2⟩ := N
      rw [f1, cb_s]
      exact ⟨r1, rfl, f2⟩
    · rw [if_neg h3] at N ⊢
      obtain ⟨r1, f1, f2⟩ := N
      rw [f1, cb_s]
      exact ⟨x, r1, rfl, f2⟩
  unfold x9_parseSecond
  match c, hc with
  | 0, _ => exact H (x := 0) (y := 11) (lo := 0) (hi := 11) rfl rfl (by decide) (by decide) rfl rfl _ (by rw [if_pos (by decide)])
  | 1, _ => rw [if_neg (show ¬ two 1 = true by decide), if_neg (by decide), if_pos (by decide)]
  | 2, _ => exact H (x := 0) (y := 9) (lo := 0) (hi := 9) rfl rfl (by decide) (by decide) rfl rfl _ (by rw [if_neg (by decide), if_neg (by decide), if_pos (by decide)])
  | 3, _ => exact H (x := 0) (y := 11) (lo := 0) (hi := 11) rfl rfl (by decide) (by decide) rfl rfl _ (by rw [if_neg (by decide), if_neg (by decide), if_neg (by decide), if_pos (by decide)])
  | 4, _ => rw [if_neg (show ¬ two 4 = true by decide), if_neg (by decide), if_neg (by decide), if_neg (by decide), if_neg (by decide), if_pos (by decide)]
  | 5, _ => rw [if_neg (show ¬ two 5 = true by decide), if_neg (by decide), if_neg (by decide), if_neg (by decide), if_neg (by decide), if_neg (by decide), if_pos (by decide)]
  | 6, _ => rw [if_neg (show ¬ two 6 = true by decide), if_neg (by decide), if_neg (by decide), if_neg (by decide), if_neg (by decide), if_neg (by decide), if_neg (by decide), if_pos (by decide)]
  | 7, _ => exact H (x := 1) (y := 99) (lo := 1) (hi := 99) rfl rfl (by decide) (by decide) rfl rfl _ (by rw [if_neg (by decide), if_neg (by decide), if_neg (by decide), if_neg (by decide), if_neg (by decide), if_neg (by decide), if_neg (by decide), if_pos (by decide)])
  | 8, _ => rw [if_neg (show ¬ two 8 = true by decide), if_neg (by decide), if_neg (by decide), if_neg (by decide), if_neg (by decide), if_neg (by decide), if_neg (by decide), if_neg (by decide), if_neg (by decide)]
theorem s_j76x {a b v : Int32} (h : Px r0 r T L c e z) : x9_parseCommand_j76 m a b v (putR g m r) = some ((), putR g m r) := by
  unfold x9_parseCommand_j76
  rw [R_isO, gb_s, s_pEndx h, cb_s, R_isO, gb_s, s_finex h, cb_s, if_pos rfl]
theorem s_j59x {a b : Int32} (h : Px r0 r T L c e z) : x9_parseCommand_j59 m a b (putR g m r) = some ((), putR g m r) := by
  unfold x9_parseCommand_j59
  rw [R_isO, gb_s, s_finex h, cb_s, if_pos rfl, s_j76x h]
theorem s_j35x {a b : Int32} (h : Px r0 r T L c e z) : x9_parseCommand_j35 m a b m (putR g m r) = some ((), putR g m r) := by
  unfold x9_parseCommand_j35
  rw [R_isO, gb_s, s_reqx h, cb_s, R_isO, gb_s, s_gox h, cb_s, R_isO, gb_s, s_finex h, cb_s, if_pos rfl, s_j59x h]
theorem s_j76 (h : Po r0 r T L s z) (hT : Tx r0 T L) (hL : L ≤ 500) {n c a b : Nat} (hn : n < 30) (h17 : r0.1 17 = I n) : if tk T L s = 3 then ∃ r1, x9_parseCommand_j76 m (I c) (I a) (I b) (putR g m r) = some ((), putR g m r1) ∧ Po (cmR r0 n c a b) r1 T L (nx T L s) z else ∃ r1, x9_parseCommand_j76 m (I c) (I a) (I b) (putR g m r) = some ((), putR g m r1) ∧ Px r0 r1 T L 1 s z := by
  have E := s_pEnd (g := g) (m := m) h hT hL
  unfold x9_parseCommand_j76
  rw [R_isO, gb_s]
  by_cases h3 : tk T L s = 3
  · rw [if_pos h3] at E ⊢
    obtain ⟨r1, e1, e2⟩ := E
    have f17 : r1.1 17 = I n := (e2.2.2.2.2.2.1 17 (by decide)).trans h17
    have A8 : ∀ {r : RS} {k : Nat} {x v : Int32}, x = I k → k < 93 → astI 0 (putR g m r) (m + 8) x v = some (putR g m (RS_setA r 8 (upd (r.2 8) k v))) := fun hx hk0 => by
      rw [hx]
      exact R_astN (d := 8) (t := 0) (by decide) (by decide) rfl hk0
    have m3 : (3 : Int32) * I n = I (3 * n) := I_mul 3 n
    rw [e1, cb_s, R_isO, gb_s, s_fine1 e2.2.1, cb_s, if_neg (show ¬ (1 : Int32) = 0 by decide), R_getI rfl, gb_s, f17, m3, R_getR (d := 8) rfl, gb_s, A8 rfl (by omega), gb_s, R_getR (d := 8) rfl, gb_s, A8 (k := 3 * n + 1) (I_succ _) (by omega), gb_s, R_getR (d := 8) rfl, gb_s, A8 (k := 3 * n + 2) (by rw [show (2 : Int32) = I 2 from rfl, I_add]) (by omega), gb_s, R_getI rfl, gb_s]
    simp only [RS_set2, RS_at]
    rw [show (RS_setA r1 8 (upd (upd (upd (r1.2 8) (3 * n) (I c)) (3 * n + 1) (I a)) (3 * n + 2) (I b))).1 17 = I n from f17, I_succ, R_putI rfl, gb_s]
    exact ⟨_, rfl, e2.cm⟩
  · rw [if_neg h3] at E ⊢
    obtain ⟨r1, e1, e2⟩ := E
    rw [e1, cb_s, R_isO, gb_s, s_finex e2, cb_s, if_pos rfl]
    exact ⟨r1, rfl, e2⟩
/-- one command of a script -/
def cmS (T : Nat → Int32) (L n s : Nat) : (Cm × Nat) ⊕ Er := match cmW T L s with
  | none => .inr (1, s)
  | some c => if 30 ≤ n then .inr (3, s) else match argS T L c (nx T L s) with
    | .inr e => .inr e
    | .inl (a, b, s') => if tk T L s' = 3 then .inl ((c, a, b), nx T L s') else .inr (1, s')
theorem scS_C {n s : Nat} {cs : List Cm} (h : ¬ tk T L s = 0) : scS T L (n + 1) cs s = match cmS T L cs.length s with
    | .inl (x, s') => scS T L n (cs ++ [x]) s'
    | .inr e => .inr e := by
  rw [scS, if_neg h]
  unfold cmS
  match cmW T L s with
  | none => rfl
  | some c =>
    dsimp only
    by_cases h30 : 30 ≤ cs.length
    · rw [if_pos h30, if_pos h30]
    · rw [if_neg h30, if_neg h30]
      match argS T L c (nx T L s) with
      | .inr e => rfl
      | .inl (a, b, s') =>
        dsimp only
        by_cases h3 : tk T L s' = 3
        · rw [if_pos h3, if_pos h3]
        · rw [if_neg h3, if_neg h3]
theorem s_parseCommand (h : Po r0 r T L s z) (hT : Tx r0 T L) (hL : L ≤ 500) {n : Nat} (hn : n ≤ 30) (h17 : r0.1 17 = I n) :
    (∃ c a b s', cmS T L n s = .inl ((c, a, b), s') ∧ n < 30 ∧ ∃ r1, x9_parseCommand m (putR g m r) = some ((), putR g m r1) ∧ Po (cmR r0 n c a b) r1 T L s' z) ∨ (∃ c e, cmS T L n s = .inr (c, e) ∧ ∃ r1, x9_parseCommand m (putR g m r) = some ((), putR g m r1) ∧ Px r0 r1 T L c e z) := by
  have f17 : r.1 17 = I n := (h.2.2.2.2.2.1 17 (by decide)).trans h17
  unfold x9_parseCommand cmS
  rw [R_isO, gb_s, s_command h.1 (hT.pq h.2.2.2.2.2) hL h.2.2.2.1, cb_s]
  match hcm : cmW T L s with
  | none =>
    obtain ⟨r1, e1, e2⟩ := s_req0 (g := g) (m := m) (b := 0) (x := 1) h rfl rfl (Or.inl rfl)
    rw [if_pos (show cmI none = -1 from rfl)]
    unfold x9_parseCommand_j16
    rw [R_isO, gb_s, e1, cb_s, R_getI rfl, gb_s, s_j35x e2, s_j35x e2]
    exact Or.inr ⟨1, s, rfl, r1, by split <;> rfl, e2⟩
  | some c =>
    have hc8 := cmW_le hcm
    rw [if_neg (show ¬ cmI (some c) = -1 from I_ne_neg (by omega))]
    unfold x9_parseCommand_j16
    rw [R_isO, gb_s, s_req1 (by decide), cb_s, R_getI rfl, gb_s, f17]
    dsimp only
    by_cases h30 : 30 ≤ n
    · obtain ⟨r1, e1, e2⟩ := s_req0 (g := g) (m := m) (b := 0) (x := 3) h rfl rfl (Or.inr (Or.inr rfl))
      rw [if_pos h30, if_pos (show (30 : Int32) ≤ I n by rw [show (30 : Int32) = I 30 from rfl, I_le (by decide) (by omega)]; exact h30)]
      unfold x9_parseCommand_j35
      rw [R_isO, gb_s, e1, cb_s, R_isO, gb_s, s_gox e2, cb_s, R_isO, gb_s, s_finex e2, cb_s, if_pos rfl, s_j59x e2]
      exact Or.inr ⟨3, s, rfl, r1, rfl, e2⟩
    · obtain ⟨r1, e1, e2⟩ := s_go (g := g) (m := m) h hT hL
      rw [if_neg h30, if_neg (show ¬ (30 : Int32) ≤ I n by rw [show (30 : Int32) = I 30 from rfl, I_le (by decide) (by omega)]; exact h30)]
      unfold x9_parseCommand_j35
      rw [R_isO, gb_s, s_req1 (by decide), cb_s, R_isO, gb_s, e1, cb_s, R_isO, gb_s, s_fine1 e2.2.1, cb_s, if_neg (show ¬ (1 : Int32) = 0 by decide), R_isO, gb_s, show cmI (some c) = I c from rfl]
      have F := s_first (g := g) (m := m) e2 hT hL hc8
      unfold argS
      by_cases a1 : nuE T L (lo1 c) (hi1 c) (nx T L s) = 0
      · rw [if_pos a1] at F ⊢
        obtain ⟨r2, k1, k2⟩ := F
        rw [k1, cb_s]
        unfold x9_parseCommand_j59
        rw [R_isO, gb_s, s_fine1 k2.2.1, cb_s, if_neg (show ¬ (1 : Int32) = 0 by decide), R_isO, gb_s]
        have S := s_second (g := g) (m := m) k2 hT hL hc8
        by_cases h2 : two c = true
        · rw [if_pos h2] at S ⊢
          by_cases a2 : nuE T L (lo2 c) (hi2 c) (nx T L (nx T L s)) = 0
          · rw [if_pos a2] at S ⊢
            obtain ⟨r3, l1, l2⟩ := S
            rw [l1, cb_s]
            have J := s_j76 (g := g) (m := m) (c := c) (a := nv T L (nx T L s)) (b := nv T L (nx T L (nx T L s))) l2 hT hL (n := n) (by omega) h17
            dsimp only
            by_cases h3 : tk T L (nx T L (nx T L (nx T L s))) = 3
            · rw [if_pos h3] at J ⊢
              obtain ⟨r4, q1, q2⟩ := J
              exact Or.inl ⟨_, _, _, _, rfl, by omega, r4, q1, q2⟩
            · rw [if_neg h3] at J ⊢
              obtain ⟨r4, q1, q2⟩ := J
              exact Or.inr ⟨_, _, rfl, r4, q1, q2⟩
          · rw [if_neg a2] at S ⊢
            obtain ⟨v, r3, l1, l2⟩ := S
            rw [l1, cb_s, s_j76x l2]
            exact Or.inr ⟨_, _, rfl, r3, rfl, l2⟩
        · rw [if_neg h2] at S ⊢
          rw [S, cb_s]
          have J := s_j76 (g := g) (m := m) (c := c) (a := nv T L (nx T L s)) (b := 0) k2 hT hL (n := n) (by omega) h17
          dsimp only
          by_cases h3 : tk T L (nx T L (nx T L s)) = 3
          · rw [if_pos h3] at J ⊢
            obtain ⟨r4, q1, q2⟩ := J
            exact Or.inl ⟨_, _, _, _, rfl, by omega, r4, q1, q2⟩
          · rw [if_neg h3] at J ⊢
            obtain ⟨r4, q1, q2⟩ := J
            exact Or.inr ⟨_, _, rfl, r4, q1, q2⟩
      · rw [if_neg a1] at F ⊢
        obtain ⟨v, r2, k1, k2⟩ := F
        rw [k1, cb_s, s_j59x k2]
        exact Or.inr ⟨_, _, rfl, r2, rfl, k2⟩
end SScr
