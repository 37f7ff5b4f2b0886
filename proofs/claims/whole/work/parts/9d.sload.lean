/-! the reference loads a setup -/
def zer (z : St) (n : Nat) : St := fun j => if j < n then 0 else z j
theorem zer_s (z : St) (n : Nat) : upd (zer z n) n 0 = zer z (n + 1) := funext fun j => by
  show (if j = n then 0 else if j < n then 0 else z j) = if j < n + 1 then 0 else z j
  by_cases h : j = n
  · rw [if_pos h, if_pos (by omega)]
  · rw [if_neg h]
    by_cases h2 : j < n
    · rw [if_pos h2, if_pos (by omega)]
    · rw [if_neg h2, if_neg (by omega)]
/-- the reference's hut of a setup -/
def zL (z : St) (lg : Nat) : St := upd (upd z 0 (I lg)) 8 (I lg)
def zU (z : St) (u : Su) : St := hikZ (rowZ (rowZ (rowZ (zL z u.1) 9 13 u.2.1) 10 25 u.2.2.1) 11 37 u.2.2.2.1) u.2.2.2.2
theorem Hi.zL {z : St} {lg : Nat} : Hi z (zL z lg) := (Hi.refl.up (by decide)).up (by decide)
theorem rowZ_ne {z : St} {k off j : Nat} {vs : List Nat} (h : j ≠ k) (h1 : j < off ∨ off + vs.length ≤ j) : rowZ z k off vs j = z j := by
  unfold rowZ
  rw [if_neg h, if_neg (by omega)]
section SLoad
variable {g : AH} {m L s e c : Nat} {T : Nat → Int32} {r0 r : RS} {z : St}
theorem s_hutLoopx (h : Px r0 r T L c e z) {F : Nat} (hF : 0 < F) : loopX (x9_parseHut_l89 m) F () (putR g m r) = some ((), putR g m r) := by
  match F, hF with
  | F + 1, _ =>
    rw [loopX]
    unfold x9_parseHut_l89
    rw [R_isO, gb_s, s_finex h, cb_s, if_pos rfl]
theorem s_hikLoop (hT : Tx r0 T L) (hL : L ≤ 500) : ∀ n F (hs : List H3) s r, n < F → hs.length + n = 11 → hs.length ≤ 10 → Po r0 r T L s (hikZ z hs) →
    (∃ hs', hksS T L n hs s = .inl hs' ∧ 1 ≤ hs'.length ∧ hs'.length ≤ 10 ∧ ∃ r1 s', loopX (x9_parseHut_l89 m) F () (putR g m r) = some ((), putR g m r1) ∧ Po r0 r1 T L s' (hikZ z hs')) ∨ (∃ c e, hksS T L n hs s = .inr (c, e) ∧ ∃ r1 z', loopX (x9_parseHut_l89 m) F () (putR g m r) = some ((), putR g m r1) ∧ Px r0 r1 T L c e z' ∧ Hi z z') := by
  intro n
  induction n with
  | zero => intro F hs s r hF hv hv2; omega
  | succ n ih =>
    intro F hs s r hF hv hv2 h
    have e12 : hikZ z hs 12 = I hs.length := if_pos rfl
    match F, hF with
    | F + 1, hF =>
      rw [loopX_s]
      have eB : x9_parseHut_l89 m () (putR g m r) = if 1 ≤ hs.length ∧ tk T L s = 0 then some (.inr (), putR g m r) else x9_parseHut_j113_89 m (putR g m r) := by
        unfold x9_parseHut_l89
        rw [R_isO, gb_s, s_fine1 h.2.1, cb_s, if_neg (show ¬ (1 : Int32) = 0 by decide), R_getR (d := 1) rfl, gb_s, R_s (k := 12) (x := 12) rfl (by decide), gb_s, h.2.2.2.2.1, e12]
        by_cases h1 : hs.length = 0
        · rw [if_pos (show I hs.length = 0 by rw [h1]; rfl), if_neg (fun hc => by omega)]
        · rw [if_neg (show ¬ I hs.length = 0 from fun hc => h1 ((I_eq (b := 0) (by omega) (by decide)).mp hc)), R_getI rfl, gb_s]
          by_cases h0 : tk T L s = 0
          · rw [if_pos (show r.1 10 = 0 from (h.tk (k := 0) (by decide)).mpr h0), if_pos ⟨by omega, h0⟩]
          · rw [if_neg (show ¬ r.1 10 = 0 from fun hc => h0 ((h.tk (k := 0) (by decide)).mp hc)), if_neg (fun hc => h0 hc.2)]
      rw [eB]
      by_cases hfin : 1 ≤ hs.length ∧ tk T L s = 0
      · rw [if_pos hfin, show hksS T L (n + 1) hs s = .inl hs by rw [hksS, if_pos hfin]]
        exact Or.inl ⟨hs, rfl, hfin.1, hv2, r, s, rfl, h⟩
      · rw [if_neg hfin, hksS_W hfin]
        unfold x9_parseHut_j113_89
        rw [R_isO, gb_s]
        rcases s_pHiker (g := g) (m := m) h hv2 hT hL with ⟨t, s', e1, e2, r1, e3, e4⟩ | ⟨c, e, e1, r1, e2, e3⟩
        · rw [e3, cb_s, e1]
          exact ih F (hs ++ [t]) s' r1 (by omega) (by rw [List.length_append, List.length_singleton]; omega) (by rw [List.length_append, List.length_singleton]; omega) e4
        · rw [e2, cb_s, e1]
          exact Or.inr ⟨c, e, rfl, r1, _, s_hutLoopx e3 (by omega), e3, Hi.hik hv2⟩
/-- the rest of a setup is nothing once there is an error -/
theorem s_hutT5 (h : Px r0 r T L c e z) : (cb (loopX (x9_parseHut_l89 m) 1000 () (putR g m r)) fun (_ : Unit) g59 => some ((), g59)) = some ((), putR g m r) := by
  rw [s_hutLoopx h (by decide), cb_s]
theorem gb_cb {α β : Type} {x : α} {f : α → Option β} : gb (some x) f = f x := rfl
theorem s_parseHut (hT : Tx r0 T L) (hL : L ≤ 500) (h : Po r0 r T L s z) (hs : s = rn T L 4 0) (hz : ∀ j, j < 149 → z j = 0) :
    (∃ u, suS T L = .inl u ∧ ∃ r1 s', x9_parseHut m (putR g m r) = some ((), putR g m r1) ∧ Po r0 r1 T L s' (zU z u)) ∨ (∃ c e, suS T L = .inr (c, e) ∧ ∃ r1 z', x9_parseHut m (putR g m r) = some ((), putR g m r1) ∧ Px r0 r1 T L c e z' ∧ Hi z z') := by
  have rowx : ∀ {w : Nat} {a b x y l : Int32} {r c e z}, w < 15 → Px r0 r T L c e z → x9_parseWord m w (putR g m r) = some ((), putR g m r) ∧ x9_parseRow m a b x y l (putR g m r) = some ((), putR g m r) := fun hw hp => ⟨s_pWordx hp hT hL hw, s_pRowx hp⟩
  -- after the logs
  have H1 : (∃ lg s1, spLogs T L s = .inl (lg, s1) ∧ ∃ r1, (gb (isO 9 (putR g m r) m) fun _ => cb (x9_parseWord m 1 (putR g m r)) fun _ g2 => gb (getR 9 g2 m 0) fun x6 => gb (isO 9 g2 m) fun _ => cb (x9_parseRange m 0 99 g2) fun r8 g9 => gb (astI 0 g9 x6 0 r8) fun g13 => gb (getR 9 g13 m 0) fun x15 => gb (getR 9 g13 m 0) fun x17 => gb (aldI 0 g13 x17 0) fun x19 => gb (astI 0 g13 x15 8 x19) fun g21 => gb (isO 9 g21 m) fun _ => cb (x9_parseEnd m g21) fun r23 g24 => some ((), g24)) = some ((), putR g m r1) ∧ Po r0 r1 T L s1 (zL z lg)) ∨ (∃ c e, spLogs T L s = .inr (c, e) ∧ ∃ r1 z', (gb (isO 9 (putR g m r) m) fun _ => cb (x9_parseWord m 1 (putR g m r)) fun _ g2 => gb (getR 9 g2 m 0) fun x6 => gb (isO 9 g2 m) fun _ => cb (x9_parseRange m 0 99 g2) fun r8 g9 => gb (astI 0 g9 x6 0 r8) fun g13 => gb (getR 9 g13 m 0) fun x15 => gb (getR 9 g13 m 0) fun x17 => gb (aldI 0 g13 x17 0) fun x19 => gb (astI 0 g13 x15 8 x19) fun g21 => gb (isO 9 g21 m) fun _ => cb (x9_parseEnd m g21) fun r23 g24 => some ((), g24)) = some ((), putR g m r1) ∧ Px r0 r1 T L c e z' ∧ Hi z z') := by
    have W := s_pWord (g := g) (m := m) h hT hL (k := 1) (by decide)
    rw [R_isO, gb_s]
    have a0 : ∀ {r : RS} {v : Int32}, astI 0 (putR g m r) (m + 1) 0 v = some (putR g m (RS_setA r 1 (upd (r.2 1) 0 v))) := fun {r v} => R_astN (d := 1) (t := 0) (k := 0) (by decide) (by decide) rfl (by show _ < 149; omega)
    have a8 : ∀ {r : RS} {v : Int32}, astI 0 (putR g m r) (m + 1) 8 v = some (putR g m (RS_setA r 1 (upd (r.2 1) 8 v))) := fun {r v} => R_astN (d := 1) (t := 0) (k := 8) (by decide) (by decide) rfl (by show _ < 149; omega)
    have l0 : ∀ {r : RS}, aldI 0 (putR g m r) (m + 1) 0 = some (r.2 1 0) := fun {r} => R_s (k := 0) (x := 0) rfl (by decide)
    unfold spLogs
    by_cases h1 : wdB T L 1 s = true
    · rw [if_pos h1] at W
      rw [if_pos h1]
      obtain ⟨r1, e1, e2⟩ := W
      have N := s_pRange (g := g) (m := m) (x := 0) (y := 99) (lo := 0) (hi := 99) e2 hT hL rfl rfl (by decide) (by decide)
      rw [e1, cb_s, R_getR (d := 1) rfl, gb_s, R_isO, gb_s]
      by_cases h2 : nuE T L 0 99 (nx T L s) = 0
      · rw [if_pos h2] at N
        rw [if_pos h2]
        obtain ⟨r2, f1, f2⟩ := N
        have f3 := (f2.st (z1 := zL z (nv T L (nx T L s))))
        have E := s_pEnd (g := g) (m := m) f3 hT hL
        rw [f1, cb_s, a0, gb_s, R_getR (d := 1) rfl, gb_s, gb_s, l0, gb_s, RS_at, upd_at, a8, gb_s, RS_set2, RS_at, f2.2.2.2.2.1, R_isO, gb_s]
        show (∃ lg s1, _ ∧ ∃ r1, (cb (x9_parseEnd m (putR g m (RS_setA r2 1 (zL z (nv T L (nx T L s)))))) fun r23 g24 => some ((), g24)) = _ ∧ _) ∨ (∃ c e, _ ∧ ∃ r1 z', (cb (x9_parseEnd m (putR g m (RS_setA r2 1 (zL z (nv T L (nx T L s)))))) fun r23 g24 => some ((), g24)) = _ ∧ _)
        by_cases h3 : tk T L (nx T L (nx T L s)) = 3
        · rw [if_pos h3] at E
          rw [if_pos h3]
          obtain ⟨r3, k1, k2⟩ := E
          rw [k1, cb_s]
          exact Or.inl ⟨_, _, rfl, r3, rfl, k2⟩
        · rw [if_neg h3] at E
          rw [if_neg h3]
          obtain ⟨r3, k1, k2⟩ := E
          rw [k1, cb_s]
          exact Or.inr ⟨_, _, rfl, r3, _, rfl, k2, Hi.zL⟩
      · rw [if_neg h2] at N
        rw [if_neg h2]
        obtain ⟨r2, f1, f2⟩ := N
        have f3 := (f2.st (z1 := upd (upd z 0 0) 8 0))
        rw [f1, cb_s, a0, gb_s, R_getR (d := 1) rfl, gb_s, gb_s, l0, gb_s, RS_at, upd_at, a8, gb_s, RS_set2, RS_at, f2.2.2.2.2.2.1, R_isO, gb_s, s_pEndx f3, cb_s]
        exact Or.inr ⟨_, _, rfl, _, _, rfl, f3, (Hi.refl.up (by decide)).up (by decide)⟩
    · rw [if_neg h1] at W
      rw [if_neg h1]
      obtain ⟨r1, e1, e2⟩ := W
      have f3 := (e2.st (z1 := upd (upd z 0 0) 8 0))
      rw [e1, cb_s, R_getR (d := 1) rfl, gb_s, R_isO, gb_s, s_pRangex e2, cb_s, a0, gb_s, R_getR (d := 1) rfl, gb_s, gb_s, l0, gb_s, RS_at, upd_at, a8, gb_s, RS_set2, RS_at, e2.2.2.2.2.2.1, R_isO, gb_s, s_pEndx f3, cb_s]
      exact Or.inr ⟨_, _, rfl, _, _, rfl, f3, (Hi.refl.up (by decide)).up (by decide)⟩
  -- the whole, as steps
  have cbA : ∀ {α β : Type} (o : Option (α × AH)) (f : α → AH → Option (β × AH)) (k : β → AH → Option (Unit × AH)), cb (cb o f) k = cb o fun a g => cb (f a g) k := fun o f k => by
    cases o with
    | none => rfl
    | some p => rfl
  have gbA : ∀ {α β : Type} (o : Option α) (f : α → Option (β × AH)) (k : β → AH → Option (Unit × AH)), cb (gb o f) k = gb o fun a => cb (f a) k := fun o f k => by
    cases o with
    | none => rfl
    | some p => rfl
  have cbS : ∀ {β : Type} (x : β) (g : AH) (k : β → AH → Option (Unit × AH)), cb (some (x, g)) k = k x g := fun _ _ _ => rfl
  have eW : x9_parseHut m (putR g m r) = cb (gb (isO 9 (putR g m r) m) fun _ => cb (x9_parseWord m 1 (putR g m r)) fun _ g2 => gb (getR 9 g2 m 0) fun x6 => gb (isO 9 g2 m) fun _ => cb (x9_parseRange m 0 99 g2) fun r8 g9 => gb (astI 0 g9 x6 0 r8) fun g13 => gb (getR 9 g13 m 0) fun x15 => gb (getR 9 g13 m 0) fun x17 => gb (aldI 0 g13 x17 0) fun x19 => gb (astI 0 g13 x15 8 x19) fun g21 => gb (isO 9 g21 m) fun _ => cb (x9_parseEnd m g21) fun r23 g24 => some ((), g24)) fun _ g24 => gb (isO 9 g24 m) fun _ => cb (cb (x9_parseWord m 2 g24) fun _ g1 => gb (isO 9 g1 m) fun _ => x9_parseRow m 9 13 0 5 1 g1) fun _ g34 => gb (isO 9 g34 m) fun _ => cb (cb (x9_parseWord m 3 g34) fun _ g1 => gb (isO 9 g1 m) fun _ => x9_parseRow m 10 25 1 9 0 g1) fun _ g44 => gb (isO 9 g44 m) fun _ => cb (cb (x9_parseWord m 4 g44) fun _ g1 => gb (isO 9 g1 m) fun _ => x9_parseRow m 11 37 0 20 1 g1) fun _ g54 => cb (loopX (x9_parseHut_l89 m) 1000 () g54) fun (_ : Unit) g59 => some ((), g59) := by
    simp only [cbA, gbA, cbS]
    rfl
  rw [eW]
  unfold suS
  rw [← hs]
  have t4 : ∀ {r c e z}, Px r0 r T L c e z → (gb (isO 9 (putR g m r) m) fun _ => cb (cb (x9_parseWord m 4 (putR g m r)) fun _ g1 => gb (isO 9 g1 m) fun _ => x9_parseRow m 11 37 0 20 1 g1) fun _ g54 => cb (loopX (x9_parseHut_l89 m) 1000 () g54) fun (_ : Unit) g59 => some ((), g59)) = some ((), putR g m r) := fun hp => by
    rw [R_isO, gb_s, s_pWordx hp hT hL (by decide), cb_s, R_isO, gb_s, s_pRowx hp, cb_s, s_hutT5 hp]
  have t3 : ∀ {r c e z}, Px r0 r T L c e z → (gb (isO 9 (putR g m r) m) fun _ => cb (cb (x9_parseWord m 3 (putR g m r)) fun _ g1 => gb (isO 9 g1 m) fun _ => x9_parseRow m 10 25 1 9 0 g1) fun _ g44 => gb (isO 9 g44 m) fun _ => cb (cb (x9_parseWord m 4 g44) fun _ g1 => gb (isO 9 g1 m) fun _ => x9_parseRow m 11 37 0 20 1 g1) fun _ g54 => cb (loopX (x9_parseHut_l89 m) 1000 () g54) fun (_ : Unit) g59 => some ((), g59)) = some ((), putR g m r) := fun hp => by
    rw [R_isO, gb_s, s_pWordx hp hT hL (by decide), cb_s, R_isO, gb_s, s_pRowx hp, cb_s]
    exact t4 hp
  have t2 : ∀ {r c e z}, Px r0 r T L c e z → (gb (isO 9 (putR g m r) m) fun _ => cb (cb (x9_parseWord m 2 (putR g m r)) fun _ g1 => gb (isO 9 g1 m) fun _ => x9_parseRow m 9 13 0 5 1 g1) fun _ g34 => gb (isO 9 g34 m) fun _ => cb (cb (x9_parseWord m 3 g34) fun _ g1 => gb (isO 9 g1 m) fun _ => x9_parseRow m 10 25 1 9 0 g1) fun _ g44 => gb (isO 9 g44 m) fun _ => cb (cb (x9_parseWord m 4 g44) fun _ g1 => gb (isO 9 g1 m) fun _ => x9_parseRow m 11 37 0 20 1 g1) fun _ g54 => cb (loopX (x9_parseHut_l89 m) 1000 () g54) fun (_ : Unit) g59 => some ((), g59)) = some ((), putR g m r) := fun hp => by
    rw [R_isO, gb_s, s_pWordx hp hT hL (by decide), cb_s, R_isO, gb_s, s_pRowx hp, cb_s]
    exact t3 hp
  rcases H1 with ⟨lg, s1, e1, r1, e2, e3⟩ | ⟨c, e, e1, r1, z', e2, e3, e4⟩
  · rw [e2, cb_s, e1, R_isO, gb_s]
    dsimp only
    rcases s_pRow (g := g) (m := m) (k := 9) (off := 13) (a := 9) (b := 13) (x := 0) (y := 5) (l := 1) (lo := 0) (hi := 5) (least := 1) (w := 2) (by decide) (by decide) rfl rfl hT hL rfl rfl (by decide) (by decide) rfl (by decide) (by decide) (show zL z lg 9 = 0 from hz 9 (by decide)) e3 with ⟨bs, s2, f1, f2, r2, f3, f4⟩ | ⟨c, e, f1, r2, z', f2, f3, f4⟩
    · rw [f3, cb_s, f1, R_isO, gb_s]
      dsimp only
      have z10 : rowZ (zL z lg) 9 13 bs 10 = 0 := (rowZ_ne (by decide) (Or.inl (by decide))).trans (hz 10 (by decide))
      rcases s_pRow (g := g) (m := m) (k := 10) (off := 25) (a := 10) (b := 25) (x := 1) (y := 9) (l := 0) (lo := 1) (hi := 9) (least := 0) (w := 3) (by decide) (by decide) rfl rfl hT hL rfl rfl (by decide) (by decide) rfl (by decide) (by decide) z10 f4 with ⟨ls, s3, k1, k2, r3, k3, k4⟩ | ⟨c, e, k1, r3, z', k2, k3, k4⟩
      · rw [k3, cb_s, k1, R_isO, gb_s]
        dsimp only
        have z11 : rowZ (rowZ (zL z lg) 9 13 bs) 10 25 ls 11 = 0 := (rowZ_ne (by decide) (Or.inl (by decide))).trans ((rowZ_ne (by decide) (Or.inl (by decide))).trans (hz 11 (by decide)))
        rcases s_pRow (g := g) (m := m) (k := 11) (off := 37) (a := 11) (b := 37) (x := 0) (y := 20) (l := 1) (lo := 0) (hi := 20) (least := 1) (w := 4) (by decide) (by decide) rfl rfl hT hL rfl rfl (by decide) (by decide) rfl (by decide) (by decide) z11 k4 with ⟨fs, s4, l1, l2, r4, l3, l4⟩ | ⟨c, e, l1, r4, z', l2, l3, l4⟩
        · rw [l3, cb_s, l1]
          dsimp only
          have y12 : rowZ (rowZ (rowZ (zL z lg) 9 13 bs) 10 25 ls) 11 37 fs 12 = 0 := (rowZ_ne (by decide) (Or.inl (by decide))).trans ((rowZ_ne (by decide) (Or.inl (by decide))).trans ((rowZ_ne (by decide) (Or.inl (by decide))).trans (hz 12 (by decide))))
          have y7 : rowZ (rowZ (rowZ (zL z lg) 9 13 bs) 10 25 ls) 11 37 fs 7 = 0 := (rowZ_ne (by decide) (Or.inl (by decide))).trans ((rowZ_ne (by decide) (Or.inl (by decide))).trans ((rowZ_ne (by decide) (Or.inl (by decide))).trans (hz 7 (by decide))))
          rw [← hikZ_nil y12 y7] at l4
          rcases s_hikLoop (g := g) (m := m) hT hL 11 1000 [] s4 r4 (by decide) rfl (by decide) l4 with ⟨hs', q1, q2, q3, r5, s5, q4, q5⟩ | ⟨c, e, q1, r5, z', q2, q3, q4⟩
          · rw [q4, cb_s, q1]
            exact Or.inl ⟨_, rfl, r5, s5, rfl, q5⟩
          · rw [q2, cb_s, q1]
            exact Or.inr ⟨c, e, rfl, r5, z', rfl, q3, ((((Hi.zL.trans (Hi.row (by decide) (by decide) f2)).trans (Hi.row (by decide) (by decide) k2)).trans (Hi.row (by decide) (by decide) l2)).trans q4)⟩
        · rw [l2, cb_s, l1, s_hutT5 l3]
          exact Or.inr ⟨c, e, rfl, r4, z', rfl, l3, (((Hi.zL.trans (Hi.row (by decide) (by decide) f2)).trans (Hi.row (by decide) (by decide) k2)).trans l4)⟩
      · rw [k2, cb_s, k1, t4 k3]
        exact Or.inr ⟨c, e, rfl, r3, z', rfl, k3, ((Hi.zL.trans (Hi.row (by decide) (by decide) f2)).trans k4)⟩
    · rw [f2, cb_s, f1, t3 f3]
      exact Or.inr ⟨c, e, rfl, r2, z', rfl, f3, Hi.zL.trans f4⟩
  · rw [e2, cb_s, e1, t2 e3]
    exact Or.inr ⟨c, e, rfl, r1, z', rfl, e3, e4⟩
end SLoad
