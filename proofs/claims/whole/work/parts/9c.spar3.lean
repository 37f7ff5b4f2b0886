/-! the reference reads a setup -/
theorem Px.st {r0 r : RS} {T : Nat → Int32} {L c e : Nat} {z z1 : St} (h : Px r0 r T L c e z) : Px r0 (RS_setA r 1 z1) T L c e z1 := ⟨h.1, h.2.1, h.2.2.1, h.2.2.2.1, h.2.2.2.2.1, RS_at, h.2.2.2.2.2.2.a⟩
theorem Po.st {r0 r : RS} {T : Nat → Int32} {L s : Nat} {z z1 : St} (h : Po r0 r T L s z) : Po r0 (RS_setA r 1 z1) T L s z1 := ⟨h.1, h.2.1, h.2.2.1, h.2.2.2.1, RS_at, h.2.2.2.2.2.a⟩
theorem Hi.row {z : St} {k off : Nat} {vs : List Nat} (hk0 : k < 149) (ho : off + 12 ≤ 149) (hv : vs.length ≤ 12) : Hi z (rowZ z k off vs) := fun j hj => by
  unfold rowZ
  rw [if_neg (by omega), if_neg (by omega)]
/-- one hiker of a setup -/
def hkW (T : Nat → Int32) (L n s : Nat) : (H3 × Nat) ⊕ Er := if wdB T L 5 s = true then (if 10 ≤ n then .inr (3, s) else hkN T L (nx T L s)) else .inr (1, s)
theorem hksS_W {T : Nat → Int32} {L n s : Nat} {hs : List H3} (h : ¬ (1 ≤ hs.length ∧ tk T L s = 0)) : hksS T L (n + 1) hs s = match hkW T L hs.length s with
    | .inl (t, s') => hksS T L n (hs ++ [t]) s'
    | .inr e => .inr e := by
  rw [hksS, if_neg h]
  unfold hkW
  by_cases h1 : wdB T L 5 s = true
  · rw [if_pos h1, if_pos h1]
    by_cases h2 : 10 ≤ hs.length
    · rw [if_pos h2, if_pos h2]
    · rw [if_neg h2, if_neg h2]
      cases hkN T L (nx T L s) <;> rfl
  · rw [if_neg h1, if_neg h1]
def hkf (t : H3) (f : Nat) (d : Int32) : Int32 := if f = 0 then I t.1 else if f = 1 then I t.2.1 else if f = 2 then I t.2.2 else if f = 4 then -1 else if f = 5 then -1 else d
def sumC (hs : List H3) : Nat := (hs.map (fun t => t.2.2)).sum
theorem sumC_app (hs : List H3) (t : H3) : sumC (hs ++ [t]) = sumC hs + t.2.2 := by
  unfold sumC
  rw [List.map_append, List.sum_append]
  simp
def hikZ (z : St) (hs : List H3) : St := fun j => if j = 12 then I hs.length else if j = 7 then I (sumC hs) else if 49 ≤ j ∧ j < 49 + 10 * hs.length then hkf (hs.getD ((j - 49) / 10) (0, 0, 0)) ((j - 49) % 10) (z j) else z j
theorem hikZ_nil {z : St} (h : z 12 = 0) (h7 : z 7 = 0) : hikZ z [] = z := funext fun j => by
  show (if j = 12 then I 0 else if j = 7 then I 0 else if 49 ≤ j ∧ j < 49 + 10 * 0 then _ else z j) = z j
  by_cases h1 : j = 12
  · rw [if_pos h1, h1, h]; rfl
  · rw [if_neg h1]
    by_cases h2 : j = 7
    · rw [if_pos h2, h2, h7]; rfl
    · rw [if_neg h2, if_neg (by omega)]
theorem Hi.hik {z : St} {hs : List H3} (hv : hs.length ≤ 10) : Hi z (hikZ z hs) := fun j hj => by
  unfold hikZ
  rw [if_neg (by omega), if_neg (by omega), if_neg (by omega)]
theorem hikZ_app {z : St} (hs : List H3) (t : H3) : upd (upd (upd (upd (upd (upd (upd (hikZ z hs) (49 + 10 * hs.length + 0) (I t.1)) (49 + 10 * hs.length + 1) (I t.2.1)) (49 + 10 * hs.length + 2) (I t.2.2)) (49 + 10 * hs.length + 4) (-1)) (49 + 10 * hs.length + 5) (-1)) 7 (I (sumC hs + t.2.2))) 12 (I (hs.length + 1)) = hikZ z (hs ++ [t]) := funext fun j => by
  show (if j = 12 then I (hs.length + 1) else if j = 7 then I (sumC hs + t.2.2) else if j = 49 + 10 * hs.length + 5 then (-1 : Int32) else if j = 49 + 10 * hs.length + 4 then (-1 : Int32) else if j = 49 + 10 * hs.length + 2 then I t.2.2 else if j = 49 + 10 * hs.length + 1 then I t.2.1 else if j = 49 + 10 * hs.length + 0 then I t.1 else hikZ z hs j) = (if j = 12 then I (hs ++ [t]).length else if j = 7 then I (sumC (hs ++ [t])) else if 49 ≤ j ∧ j < 49 + 10 * (hs ++ [t]).length then hkf ((hs ++ [t]).getD ((j - 49) / 10) (0, 0, 0)) ((j - 49) % 10) (z j) else z j)
  rw [List.length_append, List.length_singleton, sumC_app]
  by_cases h12 : j = 12
  · rw [if_pos h12, if_pos h12]
  · rw [if_neg h12, if_neg h12]
    by_cases h7 : j = 7
    · rw [if_pos h7, if_pos h7]
    · rw [if_neg h7, if_neg h7]
      unfold hikZ
      rw [if_neg h12, if_neg h7]
      by_cases hin : 49 + 10 * hs.length ≤ j ∧ j < 49 + 10 * (hs.length + 1)
      · have e1 : (j - 49) / 10 = hs.length := by omega
        have e2 : (j - 49) % 10 = j - 49 - 10 * hs.length := by omega
        have e3 : (hs ++ [t]).getD hs.length (0, 0, 0) = t := by simp
        rw [if_neg (show ¬ (49 ≤ j ∧ j < 49 + 10 * hs.length) by omega), if_pos (show 49 ≤ j ∧ j < 49 + 10 * (hs.length + 1) by omega), e1, e2, e3]
        unfold hkf
        by_cases a5 : j = 49 + 10 * hs.length + 5
        · rw [if_pos a5, if_neg (by omega), if_neg (by omega), if_neg (by omega), if_neg (by omega), if_pos (by omega)]
        · rw [if_neg a5]
          by_cases a4 : j = 49 + 10 * hs.length + 4
          · rw [if_pos a4, if_neg (by omega), if_neg (by omega), if_neg (by omega), if_pos (by omega)]
          · rw [if_neg a4]
            by_cases a2 : j = 49 + 10 * hs.length + 2
            · rw [if_pos a2, if_neg (by omega), if_neg (by omega), if_pos (by omega)]
            · rw [if_neg a2]
              by_cases a1 : j = 49 + 10 * hs.length + 1
              · rw [if_pos a1, if_neg (by omega), if_pos (by omega)]
              · rw [if_neg a1]
                by_cases a0 : j = 49 + 10 * hs.length + 0
                · rw [if_pos a0, if_pos (by omega)]
                · rw [if_neg a0, if_neg (by omega), if_neg (by omega), if_neg (by omega), if_neg (by omega), if_neg (by omega)]
      · rw [if_neg (show ¬ j = 49 + 10 * hs.length + 5 by omega), if_neg (show ¬ j = 49 + 10 * hs.length + 4 by omega), if_neg (show ¬ j = 49 + 10 * hs.length + 2 by omega), if_neg (show ¬ j = 49 + 10 * hs.length + 1 by omega), if_neg (show ¬ j = 49 + 10 * hs.length + 0 by omega)]
        by_cases hb : 49 ≤ j ∧ j < 49 + 10 * hs.length
        · have e1 : (hs ++ [t]).getD ((j - 49) / 10) (0, 0, 0) = hs.getD ((j - 49) / 10) (0, 0, 0) := by
            simp [List.getElem?_append_left (show (j - 49) / 10 < hs.length by omega)]
          rw [if_pos hb, if_pos (by omega), e1]
        · rw [if_neg hb, if_neg (by omega)]
section SPar3
variable {g : AH} {m L s e c : Nat} {T : Nat → Int32} {r0 r : RS} {z : St}
theorem s_pRowx {a b x y l : Int32} (h : Px r0 r T L c e z) : x9_parseRow m a b x y l (putR g m r) = some ((), putR g m r) := by
  unfold x9_parseRow
  rw [show loopX (x9_parseRow_l0 m a b x y l) 1000 () (putR g m r) = some ((), putR g m r) by
    rw [show (1000 : Nat) = 999 + 1 from rfl, loopX]
    unfold x9_parseRow_l0
    rw [R_isO, gb_s, s_finex h, cb_s, if_pos rfl], cb_s]
  unfold x9_parseRow_j38
  rw [R_isO, gb_s, s_pEndx h, cb_s]
theorem s_rowLoop {a b x y l : Int32} {k off lo hi least : Nat} (hk0 : k < off) (ho : off ≤ 100) (ha : a = I k) (hb : b = I off) (hT : Tx r0 T L) (hL : L ≤ 500) (hx : x = I lo) (hy : y = I hi) (hlo : lo ≤ 99) (hh : hi ≤ 99) (hl : l = I least) (hle : least ≤ 1) : ∀ n F vs s r, n < F → vs.length + n = 13 → vs.length ≤ 12 → Po r0 r T L s (rowZ z k off vs) →
    (∃ vs' s', rowS T L lo hi least n vs s = .inl (vs', s') ∧ vs'.length ≤ 12 ∧ ∃ r1, (cb (loopX (x9_parseRow_l0 m a b x y l) F () (putR g m r)) fun _ g2 => x9_parseRow_j38 m g2) = some ((), putR g m r1) ∧ Po r0 r1 T L s' (rowZ z k off vs')) ∨ (∃ c e, rowS T L lo hi least n vs s = .inr (c, e) ∧ ∃ r1 z', (cb (loopX (x9_parseRow_l0 m a b x y l) F () (putR g m r)) fun _ g2 => x9_parseRow_j38 m g2) = some ((), putR g m r1) ∧ Px r0 r1 T L c e z' ∧ Hi z z') := by
  intro n
  induction n with
  | zero => intro F vs s r hF hv hv2; omega
  | succ n ih =>
    intro F vs s r hF hv hv2 h
    have ezk : rowZ z k off vs k = I vs.length := if_pos rfl
    match F, hF with
    | F + 1, hF =>
      rw [loopX_s]
      have eB : x9_parseRow_l0 m a b x y l () (putR g m r) = if vs.length < least ∨ ¬ tk T L s = 3 then x9_parseRow_j26_0 m a b x y l (putR g m r) else some (.inr (), putR g m r) := by
        unfold x9_parseRow_l0
        rw [R_isO, gb_s, s_fine1 h.2.1, cb_s, if_neg (show ¬ (1 : Int32) = 0 by decide), R_getR (d := 1) rfl, gb_s, R_s ha (by omega), gb_s, h.2.2.2.2.1, ezk, hl]
        by_cases h1 : vs.length < least
        · rw [if_pos (show I vs.length < I least by rw [I_lt (by omega) (by omega)]; exact h1), if_pos (Or.inl h1)]
        · rw [if_neg (show ¬ I vs.length < I least by rw [I_lt (by omega) (by omega)]; exact h1), R_getI rfl, gb_s]
          by_cases h3 : tk T L s = 3
          · rw [if_pos (show r.1 10 = 3 from (h.tk (k := 3) (by decide)).mpr h3), if_neg (fun hc => hc.elim h1 (fun hc => hc h3))]
          · rw [if_neg (show ¬ r.1 10 = 3 from fun hc => h3 ((h.tk (k := 3) (by decide)).mp hc)), if_pos (Or.inr h3)]
      rw [eB]
      by_cases h1 : vs.length < least ∨ ¬ tk T L s = 3
      · have H := s_pOne (g := g) (m := m) (z := z) hk0 ho ha hb h hT hL hx hy hlo hh hv2
        rw [if_pos h1]
        have ex : ∀ {c e r1}, Px r0 r1 T L c e (rowZ z k off vs) → x9_parseOneOf m a b x y (putR g m r) = some ((), putR g m r1) → ∃ r2 z', (cb (lpB (x9_parseRow_j26_0 m a b x y l (putR g m r)) (loopX (x9_parseRow_l0 m a b x y l) F)) fun _ g2 => x9_parseRow_j38 m g2) = some ((), putR g m r2) ∧ Px r0 r2 T L c e z' ∧ Hi z z' := fun {c e r1} hp e1 => by
          refine ⟨r1, _, ?_, hp, Hi.row (by omega) (by omega) hv2⟩
          unfold x9_parseRow_j26_0
          rw [R_isO, gb_s, e1, cb_s]
          unfold lpB
          dsimp only
          rw [show loopX (x9_parseRow_l0 m a b x y l) F () (putR g m r1) = some ((), putR g m r1) by
            match F, (show 0 < F by omega) with
            | F + 1, _ =>
              rw [loopX]
              unfold x9_parseRow_l0
              rw [R_isO, gb_s, s_finex hp, cb_s, if_pos rfl], cb_s]
          unfold x9_parseRow_j38
          rw [R_isO, gb_s, s_pEndx hp, cb_s]
        by_cases h3 : nuE T L lo hi s = 0
        · rw [if_pos h3] at H
          by_cases h4 : 12 ≤ vs.length
          · rw [if_pos h4] at H
            obtain ⟨r1, e1, e2⟩ := H
            obtain ⟨r2, z', f1, f2, f3⟩ := ex e2 e1
            have eS : rowS T L lo hi least (n + 1) vs s = .inr (3, s) := by rw [rowS, if_pos h1, if_pos h3, if_pos h4]
            exact Or.inr ⟨3, s, eS, r2, z', f1, f2, f3⟩
          · rw [if_neg h4] at H
            obtain ⟨r1, e1, e2⟩ := H
            have eS : rowS T L lo hi least (n + 1) vs s = rowS T L lo hi least n (vs ++ [nv T L s]) (nx T L s) := by rw [rowS, if_pos h1, if_pos h3, if_neg h4]
            rw [eS]
            have R := ih F (vs ++ [nv T L s]) (nx T L s) r1 (by omega) (by rw [List.length_append, List.length_singleton]; omega) (by rw [List.length_append, List.length_singleton]; omega) e2
            have eb : x9_parseRow_j26_0 m a b x y l (putR g m r) = some (.inl (), putR g m r1) := by
              unfold x9_parseRow_j26_0
              rw [R_isO, gb_s, e1, cb_s]
            rw [eb]
            exact R
        · rw [if_neg h3] at H
          obtain ⟨r1, e1, e2⟩ := H
          obtain ⟨r2, z', f1, f2, f3⟩ := ex e2 e1
          have eS : rowS T L lo hi least (n + 1) vs s = .inr (nuE T L lo hi s, s) := by rw [rowS, if_pos h1, if_neg h3]
          exact Or.inr ⟨_, s, eS, r2, z', f1, f2, f3⟩
      · have h3 : tk T L s = 3 := Decidable.not_not.mp (fun hc => h1 (Or.inr hc))
        have H := s_pEnd (g := g) (m := m) h hT hL
        rw [if_pos h3] at H
        obtain ⟨r1, e1, e2⟩ := H
        have eS : rowS T L lo hi least (n + 1) vs s = .inl (vs, nx T L s) := by rw [rowS, if_neg h1]
        rw [if_neg h1, eS]
        refine Or.inl ⟨vs, _, rfl, hv2, r1, ?_, e2⟩
        show x9_parseRow_j38 m (putR g m r) = _
        unfold x9_parseRow_j38
        rw [R_isO, gb_s, e1, cb_s]
theorem s_pRow {a b x y l : Int32} {k off lo hi least w : Nat} (hk0 : k < off) (ho : off ≤ 100) (ha : a = I k) (hb : b = I off) (hT : Tx r0 T L) (hL : L ≤ 500) (hx : x = I lo) (hy : y = I hi) (hlo : lo ≤ 99) (hh : hi ≤ 99) (hl : l = I least) (hle : least ≤ 1) (hw : w < 15) (hz : z k = 0) (h : Po r0 r T L s z) :
    (∃ vs' s', spRow T L w lo hi least s = .inl (vs', s') ∧ vs'.length ≤ 12 ∧ ∃ r1, (cb (x9_parseWord m w (putR g m r)) fun _ g1 => gb (isO 9 g1 m) fun _ => x9_parseRow m a b x y l g1) = some ((), putR g m r1) ∧ Po r0 r1 T L s' (rowZ z k off vs')) ∨ (∃ c e, spRow T L w lo hi least s = .inr (c, e) ∧ ∃ r1 z', (cb (x9_parseWord m w (putR g m r)) fun _ g1 => gb (isO 9 g1 m) fun _ => x9_parseRow m a b x y l g1) = some ((), putR g m r1) ∧ Px r0 r1 T L c e z' ∧ Hi z z') := by
  have H := s_pWord (g := g) (m := m) h hT hL hw
  unfold spRow
  by_cases h1 : wdB T L w s = true
  · rw [if_pos h1] at H ⊢
    obtain ⟨r1, e1, e2⟩ := H
    rw [e1, cb_s, R_isO, gb_s]
    rw [← rowZ_nil (off := off) hz] at e2
    have R := s_rowLoop (g := g) (m := m) (z := z) hk0 ho ha hb hT hL hx hy hlo hh hl hle 13 1000 [] (nx T L s) r1 (by decide) rfl (by decide) e2
    exact R
  · rw [if_neg h1] at H ⊢
    obtain ⟨r1, e1, e2⟩ := H
    rw [e1, cb_s, R_isO, gb_s, s_pRowx e2]
    exact Or.inr ⟨1, s, rfl, r1, z, rfl, e2, Hi.refl⟩
theorem s_hj29x {b : Int32} (h : Px r0 r T L c e z) : x9_parseHiker_j29 m b m (putR g m r) = some ((), putR g m r) := by
  unfold x9_parseHiker_j29
  rw [R_isO, gb_s, s_reqx h, cb_s, R_isO, gb_s, s_gox h, cb_s, R_isO, gb_s, s_pRangex h, cb_s, R_isO, gb_s, s_pRangex h, cb_s, R_isO, gb_s, s_pRangex h, cb_s, R_isO, gb_s, s_pEndx h, cb_s, R_isO, gb_s, s_finex h, cb_s, if_pos rfl]
theorem s_addHiker {hs : List H3} {t : H3} (h : Po r0 r T L s (hikZ z hs)) (hv : hs.length < 10) : ∃ r1, x9_addHiker m (I t.1) (I t.2.1) (I t.2.2) (putR g m r) = some ((), putR g m r1) ∧ Po r0 r1 T L s (hikZ z (hs ++ [t])) := by
  have e12 : hikZ z hs 12 = I hs.length := if_pos rfl
  have e7 : hikZ z hs 7 = I (sumC hs) := rfl
  have n7 : ∀ {y : St} {f : Nat} {v : Int32}, upd y (49 + 10 * hs.length + f) v 7 = y 7 := fun {y f v} => upd_ne (by omega)
  have n12 : ∀ {y : St} {f : Nat} {v : Int32}, upd y (49 + 10 * hs.length + f) v 12 = y 12 := fun {y f v} => upd_ne (by omega)
  unfold x9_addHiker
  rw [R_getR (d := 1) rfl, gb_s, R_s (k := 12) (x := 12) rfl (by decide), gb_s, h.2.2.2.2.1, e12, R_isO, gb_s, s_set (f := 0) (x := 0) rfl hv (by decide), cb_s, R_isO, gb_s, s_set (f := 1) (x := 1) rfl hv (by decide), cb_s, R_isO, gb_s, s_set (f := 2) (x := 2) rfl hv (by decide), cb_s, R_isO, gb_s, s_set (f := 4) (x := 4) rfl hv (by decide), cb_s, R_isO, gb_s, s_set (f := 5) (x := 5) rfl hv (by decide), cb_s, R_getR (d := 1) rfl, gb_s, R_s (k := 7) (x := 7) rfl (by decide), gb_s]
  simp only [RS_st, RS_set2, RS_at, h.2.2.2.2.1, n7, e7, I_add]
  rw [show (7 : Int32) = I 7 from rfl, R_astN (d := 1) (t := 0) (by decide) (by decide) rfl (by show _ < 149; omega), gb_s, R_getR (d := 1) rfl, gb_s, R_s (k := 12) (x := 12) rfl (by decide), gb_s]
  simp only [RS_set2, RS_at]
  rw [show upd (upd (upd (upd (upd (upd (hikZ z hs) (49 + 10 * hs.length + 0) (I t.1)) (49 + 10 * hs.length + 1) (I t.2.1)) (49 + 10 * hs.length + 2) (I t.2.2)) (49 + 10 * hs.length + 4) (-1)) (49 + 10 * hs.length + 5) (-1)) 7 (I (sumC hs + t.2.2)) 12 = I hs.length by rw [upd_ne (by decide), n12, n12, n12, n12, n12, e12], I_succ, show (12 : Int32) = I 12 from rfl, R_astN (d := 1) (t := 0) (by decide) (by decide) rfl (by show _ < 149; omega), gb_s, RS_set2, RS_at, hikZ_app]
  exact ⟨_, rfl, h.st⟩
theorem s_pHiker {hs : List H3} (h : Po r0 r T L s (hikZ z hs)) (hv : hs.length ≤ 10) (hT : Tx r0 T L) (hL : L ≤ 500) :
    (∃ t s', hkW T L hs.length s = .inl (t, s') ∧ hs.length < 10 ∧ ∃ r1, x9_parseHiker m (putR g m r) = some ((), putR g m r1) ∧ Po r0 r1 T L s' (hikZ z (hs ++ [t]))) ∨ (∃ c e, hkW T L hs.length s = .inr (c, e) ∧ ∃ r1, x9_parseHiker m (putR g m r) = some ((), putR g m r1) ∧ Px r0 r1 T L c e (hikZ z hs)) := by
  have e12 : hikZ z hs 12 = I hs.length := if_pos rfl
  unfold x9_parseHiker hkW
  rw [R_isO, gb_s, h.word hT hL (by decide), cb_s, R_isO, gb_s]
  by_cases h1 : wdB T L 5 s = true
  · rw [if_pos h1, s_req1 (show ¬ bI (wdB T L 5 s) = 0 by rw [bI_z, h1]; decide), cb_s, R_getR (d := 1) rfl, gb_s, R_s (k := 12) (x := 12) rfl (by decide), gb_s, h.2.2.2.2.1, e12]
    by_cases h2 : 10 ≤ hs.length
    · obtain ⟨r1, e1, e2⟩ := s_req0 (g := g) (m := m) (b := 0) (x := 3) h rfl rfl (Or.inr (Or.inr rfl))
      rw [if_pos h2, if_pos (show (10 : Int32) ≤ I hs.length by rw [show (10 : Int32) = I 10 from rfl, I_le (by decide) (by omega)]; exact h2)]
      unfold x9_parseHiker_j29
      rw [R_isO, gb_s, e1, cb_s, R_isO, gb_s, s_gox e2, cb_s, R_isO, gb_s, s_pRangex e2, cb_s, R_isO, gb_s, s_pRangex e2, cb_s, R_isO, gb_s, s_pRangex e2, cb_s, R_isO, gb_s, s_pEndx e2, cb_s, R_isO, gb_s, s_finex e2, cb_s, if_pos rfl]
      exact Or.inr ⟨3, s, rfl, r1, rfl, e2⟩
    · obtain ⟨r1, e1, e2⟩ := s_go (g := g) (m := m) h hT hL
      rw [if_neg h2, if_neg (show ¬ (10 : Int32) ≤ I hs.length by rw [show (10 : Int32) = I 10 from rfl, I_le (by decide) (by omega)]; exact h2)]
      unfold x9_parseHiker_j29
      rw [R_isO, gb_s, s_req1 (by decide), cb_s, R_isO, gb_s, e1, cb_s, R_isO, gb_s]
      have H1 := s_pRange (g := g) (m := m) (x := 1) (y := 30) (lo := 1) (hi := 30) e2 hT hL rfl rfl (by decide) (by decide)
      generalize hs0 : nx T L s = s0 at e2 H1 ⊢
      unfold hkN
      by_cases a1 : nuE T L 1 30 s0 = 0
      · rw [if_pos a1] at H1 ⊢
        obtain ⟨r2, f1, f2⟩ := H1
        rw [f1, cb_s, R_isO, gb_s]
        have H2 := s_pRange (g := g) (m := m) (x := 0) (y := 9) (lo := 0) (hi := 9) f2 hT hL rfl rfl (by decide) (by decide)
        by_cases a2 : nuE T L 0 9 (nx T L s0) = 0
        · rw [if_pos a2] at H2 ⊢
          obtain ⟨r3, k1, k2⟩ := H2
          rw [k1, cb_s, R_isO, gb_s]
          have H3' := s_pRange (g := g) (m := m) (x := 0) (y := 99) (lo := 0) (hi := 99) k2 hT hL rfl rfl (by decide) (by decide)
          by_cases a3 : nuE T L 0 99 (nx T L (nx T L s0)) = 0
          · rw [if_pos a3] at H3' ⊢
            obtain ⟨r4, l1, l2⟩ := H3'
            rw [l1, cb_s, R_isO, gb_s]
            have H4 := s_pEnd (g := g) (m := m) l2 hT hL
            by_cases a4 : tk T L (nx T L (nx T L (nx T L s0))) = 3
            · rw [if_pos a4] at H4 ⊢
              obtain ⟨r5, q1, q2⟩ := H4
              obtain ⟨r6, w1, w2⟩ := s_addHiker (g := g) (m := m) (t := (nv T L s0, nv T L (nx T L s0), nv T L (nx T L (nx T L s0)))) q2 (by omega)
              rw [q1, cb_s, R_isO, gb_s, s_fine1 q2.2.1, cb_s, if_neg (show ¬ (1 : Int32) = 0 by decide), R_isO, gb_s, w1, cb_s]
              exact Or.inl ⟨_, _, rfl, by omega, r6, rfl, w2⟩
            · rw [if_neg a4] at H4 ⊢
              obtain ⟨r5, q1, q2⟩ := H4
              rw [q1, cb_s, R_isO, gb_s, s_finex q2, cb_s, if_pos rfl]
              exact Or.inr ⟨_, _, rfl, r5, rfl, q2⟩
          · rw [if_neg a3] at H3' ⊢
            obtain ⟨r4, l1, l2⟩ := H3'
            rw [l1, cb_s, R_isO, gb_s, s_pEndx l2, cb_s, R_isO, gb_s, s_finex l2, cb_s, if_pos rfl]
            exact Or.inr ⟨_, _, rfl, r4, rfl, l2⟩
        · rw [if_neg a2] at H2 ⊢
          obtain ⟨r3, k1, k2⟩ := H2
          rw [k1, cb_s, R_isO, gb_s, s_pRangex k2, cb_s, R_isO, gb_s, s_pEndx k2, cb_s, R_isO, gb_s, s_finex k2, cb_s, if_pos rfl]
          exact Or.inr ⟨_, _, rfl, r3, rfl, k2⟩
      · rw [if_neg a1] at H1 ⊢
        obtain ⟨r2, f1, f2⟩ := H1
        rw [f1, cb_s, R_isO, gb_s, s_pRangex f2, cb_s, R_isO, gb_s, s_pRangex f2, cb_s, R_isO, gb_s, s_pEndx f2, cb_s, R_isO, gb_s, s_finex f2, cb_s, if_pos rfl]
        exact Or.inr ⟨_, _, rfl, r2, rfl, f2⟩
  · obtain ⟨r1, e1, e2⟩ := s_req0 (g := g) (m := m) (b := bI (wdB T L 5 s)) (x := 1) h ((bI_z _).mpr (by simpa using h1)) rfl (Or.inl rfl)
    rw [if_neg h1, e1, cb_s, R_getR (d := 1) rfl, gb_s, R_s (k := 12) (x := 12) rfl (by decide), gb_s, s_hj29x e2, s_hj29x e2]
    exact Or.inr ⟨1, s, rfl, r1, by split <;> rfl, e2⟩
end SPar3
