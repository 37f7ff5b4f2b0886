/-! numbers and the finished text -/
theorem dig_ok : ∀ v, v < 100 → (digB 0 (-(-(I v))) = some (I (48 + v % 10)) ∧ digB 1 (-(-(I v))) = some (I (48 + v / 10))) ∧ ((-(I v) ≤ -10) ↔ 10 ≤ v) ∧ ((-9 ≤ -(I v)) ↔ v < 10) ∧ -100 < -(I v) ∧ ¬ (-(I v) ≤ -100) := by decide +kernel
theorem dig_b : ∀ d, d < 10 → (I (48 + d)).toInt8.toInt32 = I (48 + d) ∧ fits .byte (.int (I (48 + d))) = true := by decide
theorem I_m1' (a : Nat) : I (a + 1) + (-1) = I a := by
  rw [← I_succ, Int32.add_assoc, show (1 : Int32) + (-1) = 0 from by decide, Int32.add_zero]
section Num
variable {g : AH} {m sb val N c : Nat} {l : List Int32}
theorem s_size {v : Nat} (hv : v < 100) (g : AH) : j6_stringSize_0f7a4 (I v) g = some (I (DG v).length, g) := by
  obtain ⟨-, d3, -, -, d6⟩ := dig_ok v hv
  unfold j6_stringSize_0f7a4 j6_stringSize_0f7a4_j11
  rw [if_neg (show ¬ I v < 0 from nI_pos (by omega)), show (1000 : Nat) = 998 + 1 + 1 from rfl, loopX_s]
  by_cases h : 10 ≤ v
  · have e1 : j6_stringSize_0f7a4_l16 (-(I v)) 0 (-10, 1) g = some (.inl (10 * -10, 1 + 1), g) := by
      unfold j6_stringSize_0f7a4_l16
      rw [if_neg (by decide), if_pos (d3.mpr h)]
    have e2 : j6_stringSize_0f7a4_l16 (-(I v)) 0 (10 * -10, 1 + 1) g = some (.inr (.inr 2), g) := by
      unfold j6_stringSize_0f7a4_l16
      rw [if_neg (by decide), if_neg (show ¬ -(I v) ≤ 10 * -10 from d6)]
      rfl
    rw [e1]
    show cb (loopX (j6_stringSize_0f7a4_l16 (-(I v)) 0) (998 + 1) (10 * -10, 1 + 1) g) _ = _
    rw [loopX_s, e2]
    show cb (some _) _ = _
    rw [cb_s, Sum.elim_inr, show DG v = [I (48 + v / 10), I (48 + v % 10)] from if_neg (by omega)]
    rfl
  · have e1 : j6_stringSize_0f7a4_l16 (-(I v)) 0 (-10, 1) g = some (.inr (.inr 1), g) := by
      unfold j6_stringSize_0f7a4_l16
      rw [if_neg (by decide), if_neg (fun hc => h (d3.mp hc))]
      rfl
    rw [e1]
    show cb (some _) _ = _
    rw [cb_s, Sum.elim_inr, show DG v = [I (48 + v)] from if_pos (by omega)]
    rfl
theorem Bu.num (B : Bu g m sb val N l c) {v : Nat} (hv : v < 100) (hl : l.length + 2 ≤ 175) : ∃ g1 val1 N1, j4_append_bf812 sb (I v) g = some (sb, g1) ∧ Bu g1 m sb val1 N1 (l ++ DG v) (l ++ DG v).length ∧ Ap g g1 sb val N val1 N1 := by
  obtain ⟨n1, n2⟩ := DG_len v
  obtain ⟨⟨d1, d2⟩, -, d4, d5, -⟩ := dig_ok v hv
  obtain ⟨g1, val1, N1, p1, B1, A1⟩ := B.ens (k := l.length + (DG v).length) (by omega) (by omega)
  obtain ⟨h1, ⟨h2, h3, h4, h5, h6⟩, V, cap, f, e1, v0, v1, v3, e2, ⟨c1, c2, c3⟩, hf, hb⟩ := B1
  have B1 : Bu g1 m sb val1 N1 l (l.length + (DG v).length) := ⟨h1, ⟨h2, h3, h4, h5, h6⟩, V, cap, f, e1, v0, v1, v3, e2, ⟨c1, c2, c3⟩, hf, hb⟩
  have hfr : ∀ a, a < N → a ≠ sb → a ≠ val → a ≠ val1 := fun a a1 a2 a3 => by
    rcases A1.2.1 with e | e
    · rw [e]; exact a3
    · omega
  have eL : ∀ gg, loopX (j6_getChars_ba4f3_l22 val1 0) 1000 (-(I v), I (l.length + (DG v).length)) gg = some ((-(I v), I (l.length + (DG v).length)), gg) := fun gg => by
    rw [show (1000 : Nat) = 999 + 1 from rfl, loopX_s]
    unfold j6_getChars_ba4f3_l22
    rw [if_pos d5]
    rfl
  have eG : ∃ f1, (∃ g2, j6_getChars_ba4f3 (I v) (I (l.length + (DG v).length)) val1 g1 = some (I l.length, g2) ∧ g2 = (fun a => if a = val1 then some (.inr (1, cap, .inl f1)) else g1.1 a, g1.2)) ∧ (∀ j, j < l.length → f1 j = f j) ∧ (∀ j, j < (DG v).length → f1 (l.length + j) = (DG v).getD j 0) ∧ fitB f1 0 cap := by
    unfold j6_getChars_ba4f3 j6_getChars_ba4f3_j104
    rw [if_pos (le_I0 (by omega)), if_pos rfl, eL, cb_s, d1, gb_s]
    by_cases h : v < 10
    · have e : DG v = [I (48 + v)] := if_pos h
      have em : v % 10 = v := Nat.mod_eq_of_lt h
      obtain ⟨q1, q2⟩ := dig_b v h
      rw [e] at c2 ⊢
      have c2' : l.length + 1 ≤ cap := c2
      rw [em, q1, show l.length + [I (48 + v)].length = l.length + 1 from rfl, I_m1', astI_of e2 (by omega) (by omega), gb_s, if_pos (d4.mpr h), if_pos rfl]
      refine ⟨upd f l.length (I (48 + v)), ⟨_, rfl, rfl⟩, fun j hj => upd_ne (by omega), fun j hj => ?_, fun q hq => ?_⟩
      · have : j = 0 := by simpa using hj
        subst this
        exact upd_at
      · show fits .byte (.int (if 0 + q = l.length then I (48 + v) else f (0 + q))) = true
        split
        · exact q2
        · exact hb q hq
    · have e : DG v = [I (48 + v / 10), I (48 + v % 10)] := if_neg h
      obtain ⟨q1, q2⟩ := dig_b (v % 10) (by omega)
      obtain ⟨q3, q4⟩ := dig_b (v / 10) (by omega)
      rw [e] at c2 ⊢
      have c2' : l.length + 2 ≤ cap := c2
      have e3 : (hset g1 val1 (.inr (1, cap, .inl (upd f (l.length + 1) (I (48 + v % 10)))))).1 val1 = some (.inr (1, cap, .inl (upd f (l.length + 1) (I (48 + v % 10))))) := hset_at
      rw [q1, show l.length + [I (48 + v / 10), I (48 + v % 10)].length = l.length + 1 + 1 from rfl, I_m1', astI_of e2 (by omega) (by omega), gb_s, if_neg (fun hc => h (d4.mp hc)), d2, gb_s, q3, I_m1', astI_of e3 (by omega) (by omega), gb_s, if_pos rfl]
      refine ⟨upd (upd f (l.length + 1) (I (48 + v % 10))) l.length (I (48 + v / 10)), ⟨_, rfl, ?_⟩, fun j hj => (upd_ne (by omega)).trans (upd_ne (by omega)), fun j hj => ?_, fun q hq => ?_⟩
      · refine Prod.ext (funext fun a => ?_) rfl
        show (if a = val1 then _ else if a = val1 then _ else g1.1 a) = if a = val1 then _ else g1.1 a
        by_cases ha : a = val1
        · rw [if_pos ha, if_pos ha]
        · rw [if_neg ha, if_neg ha, if_neg ha]
      · have hj2 : j < 2 := hj
        match j, hj2 with
        | 0, _ => exact upd_at
        | 1, _ => exact (upd_ne (by omega)).trans upd_at
      · show fits .byte (.int (if 0 + q = l.length then I (48 + v / 10) else if 0 + q = l.length + 1 then I (48 + v % 10) else f (0 + q))) = true
        split
        · exact q4
        · split
          · exact q2
          · exact hb q hq
  obtain ⟨f1, ⟨g2, q1, q2⟩, q3, q4, q5⟩ := eG
  have s2 : g2.1 sb = some (.inl (11, V)) := by rw [q2]; exact (if_neg h6).trans e1
  have t2 : g2.1 val1 = some (.inr (1, cap, .inl f1)) := by rw [q2]; exact if_pos rfl
  unfold j4_append_bf812 j5_append_c97b9 j5_isLatin1_aae02
  rw [B.o, gb_s, B.i3, gb_s, s_size hv, cb_s, B.o, gb_s, I_add, p1, cb_s, B1.o, gb_s, if_neg (by decide), B1.i1, gb_s, if_pos rfl, cb_s, if_neg (by decide), B1.r0, gb_s, q1, cb_s, putV_of s2, gb_s, cb_s]
  refine ⟨_, val1, N1, rfl, B1.wr (w := DG v) (Nat.le_refl _) (V1 := updV V 3 (.int (I (l.length + (DG v).length)))) (f1 := f1) (cap := cap) hset_at ((if_neg (by decide)).trans v0) ((if_neg (by decide)).trans v1) ?_ ((hset_ne (by omega)).trans t2) ⟨c2, c3⟩ (by rw [q2]; rfl) (fun j hj => (q3 j hj).trans (hf j hj)) q4 q5, A1.1, A1.2.1, fun a a1 a2 a3 => ?_⟩
  · rw [List.length_append]
    exact if_pos rfl
  · rw [hset_ne a2, q2]
    exact (if_neg (hfr a a1 a2 a3)).trans (A1.2.2 a a1 a2 a3)
/-- a text that is finished -/
def Sr (g : AH) (st arr : Nat) (l : List Int32) : Prop := ∃ V f, g.1 st = some (.inl (13, V)) ∧ V 0 = .ref arr ∧ V 1 = .int 0 ∧ g.1 arr = some (.inr (1, l.length, .inl f)) ∧ ∀ j, j < l.length → f j = l.getD j 0
theorem Bu.fin (B : Bu g m sb val N l c) : ∃ g1, j4_toString_0e30d sb g = some (N, g1) ∧ Sr g1 N (N + 1) l ∧ g1.2 = some (N + 2) ∧ ∀ a, a < N → g1.1 a = g.1 a := by
  obtain ⟨h1, ⟨h2, h3, h4, h5, h6⟩, V, cap, f, e1, v0, v1, v3, e2, ⟨c1, c2, c3⟩, hf, hb⟩ := B
  have eO : newO 13 tyJ0 g = some (N, hnew g N (.inl (13, fun k => defaultValue (tyJ0 k)))) := by
    unfold newO
    rw [h1]
  generalize hga : hnew g N (.inl (13, fun k => defaultValue (tyJ0 k))) = ga at eO
  have gaN : ga.1 N = some (.inl (13, fun k => defaultValue (tyJ0 k))) := by rw [← hga]; exact if_pos rfl
  have ga2 : ga.2 = some (N + 1) := by rw [← hga]; rfl
  have gaE : ∀ a, a < N → ga.1 a = g.1 a := fun a ha => by rw [← hga]; exact if_neg (by omega)
  have e1a : ga.1 sb = some (.inl (11, V)) := (gaE sb h4).trans e1
  have ePut : putV 13 ga N 1 (.int 0) = some (hset ga N (.inl (13, updV (fun k => defaultValue (tyJ0 k)) 1 (.int 0)))) := putV_of gaN
  generalize hgb : hset ga N (.inl (13, updV (fun k => defaultValue (tyJ0 k)) 1 (.int 0))) = gB at ePut
  have gbN : gB.1 N = some (.inl (13, updV (fun k => defaultValue (tyJ0 k)) 1 (.int 0))) := by rw [← hgb]; exact hset_at
  have gb2 : gB.2 = some (N + 1) := by rw [← hgb]; exact ga2
  have gbE : ∀ a, a < N → gB.1 a = g.1 a := fun a ha => by rw [← hgb, hset_ne (by omega)]; exact gaE a ha
  have e2b : gB.1 val = some (.inr (1, cap, .inl f)) := (gbE val h5).trans e2
  have eR : ∃ f1 g1, j7_copyOfRange_39247 val 0 (I l.length) gB = some (N + 1, g1) ∧ g1.1 (N + 1) = some (.inr (1, l.length, .inl f1)) ∧ (∀ j, j < l.length → f1 j = f j) ∧ g1.2 = some (N + 2) ∧ ∀ a, a < N + 1 → g1.1 a = gB.1 a := by
    unfold j7_copyOfRange_39247
    rw [if_pos rfl, alen_of e2b, gb_s]
    by_cases hc : l.length = cap
    · rw [if_pos (by rw [hc])]
      have eC : clonB gB val = some (N + 1, hnew gB (N + 1) (.inr (1, cap, .inl f))) := by
        unfold clonB
        rw [gb2, e2b]
        dsimp only
        rw [if_pos ⟨rfl, by omega, fitBb_of.mpr hb⟩]
      have eI : isByt (hnew gB (N + 1) (.inr (1, cap, .inl f))) (N + 1) = some () := by
        unfold isByt
        rw [show (hnew gB (N + 1) (.inr (1, cap, .inl f))).1 (N + 1) = some (.inr (1, cap, .inl f)) from if_pos rfl]
        rfl
      rw [eC, cb_s, eI, gb_s]
      exact ⟨f, _, rfl, by rw [hc]; exact if_pos rfl, fun j _ => rfl, rfl, fun a ha => if_neg (by omega)⟩
    · rw [if_neg (fun h => hc ((I_eq (by omega) (by omega)).mp h))]
      unfold j7_copyOfRange_39247_j10 j7_copyOfRangeByte_39247 j7_checkLength_df160
      have eA : newA 1 (.inl (fun _ => 0)) gB (I l.length) = some (N + 1, hnew gB (N + 1) (.inr (1, l.length, .inl (fun _ => 0)))) := by
        unfold newA
        rw [gb2]
        dsimp only
        rw [I_nat (by omega), if_neg (by
          rintro (hc | hc)
          · exact nI_pos (by omega) hc
          · omega)]
      have eV : (hnew gB (N + 1) (.inr (1, l.length, .inl (fun _ => 0)))).1 val = some (.inr (1, cap, .inl f)) := (if_neg (by omega)).trans e2b
      have eC : acpyB (hnew gB (N + 1) (.inr (1, l.length, .inl (fun _ => 0)))) val 0 (N + 1) 0 (I l.length) = some (hset (hnew gB (N + 1) (.inr (1, l.length, .inl (fun _ => 0)))) (N + 1) (.inr (1, l.length, .inl (va_cpy f (fun _ => 0) 0 0 l.length)))) := by
        unfold acpyB
        rw [eV, show (hnew gB (N + 1) (.inr (1, l.length, .inl (fun _ => 0)))).1 (N + 1) = some (.inr (1, l.length, .inl (fun _ => 0))) from if_pos rfl]
        dsimp only
        rw [I_nat (by omega), show (0 : Int32).toNatClampNeg = 0 from rfl, if_pos ⟨rfl, rfl, by decide, by decide, nI_pos (by omega), by omega, by omega, fitBb_of.mpr (fun q hq => hb q (by omega))⟩]
      rw [if_pos (le_I0 (by omega)), cb_s, Int32.sub_zero, I_nat (by omega), if_neg (by omega), eA, cb_s, alen_of eV, gb_s, Int32.sub_zero, if_pos (by rw [I_lt (by omega) (by omega)]; omega), eC, gb_s, cb_s]
      refine ⟨va_cpy f (fun _ => 0) 0 0 l.length, _, rfl, hset_at, fun j hj => ?_, rfl, fun a ha => (hset_ne (by omega)).trans (if_neg (by omega))⟩
      show (if 0 ≤ j ∧ j < 0 + l.length then f (0 + (j - 0)) else 0) = f j
      rw [if_pos (by omega)]
      congr 1
      omega
  obtain ⟨f1, g1, r1, r2, r3, r4, r5⟩ := eR
  have s1 : g1.1 N = some (.inl (13, updV (fun k => defaultValue (tyJ0 k)) 1 (.int 0))) := (r5 N (by omega)).trans gbN
  refine ⟨hset g1 N (.inl (13, updV (updV (fun k => defaultValue (tyJ0 k)) 1 (.int 0)) 0 (.ref (N + 1)))), ?_, ⟨_, f1, hset_at, if_pos rfl, (if_neg (by decide)).trans (if_pos rfl), (hset_ne (by omega)).trans r2, fun j hj => (r3 j hj).trans (hf j hj)⟩, r4, fun a ha => (hset_ne (by omega)).trans ((r5 a (by omega)).trans (gbE a ha))⟩
  unfold j4_toString_0e30d j0_init_81219 j0_init_db425 j5_getValue_6d5f1 j4_length_8abf5 j5_length_8abf5 j5_isLatin1_aae02
  rw [eO, cb_s, isO_of e1a, gb_s, getR_of e1a v0, gb_s, cb_s, isO_of e1a, gb_s, gb_s, getI_of e1a v3, gb_s, cb_s, cb_s, isO_of e1a, gb_s, if_neg (by decide), getI_of e1a v1, gb_s, if_pos rfl, cb_s, if_neg (by decide), ePut, gb_s, r1, cb_s, putV_of s1, gb_s, cb_s, cb_s]
end Num
