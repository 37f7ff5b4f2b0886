/-! the law's builder of texts -/
theorem sr31 (b : Int32) : b >>> ((0 : Int32) &&& 31) = b := by
  rw [show ((0 : Int32) &&& 31) = 0 from by decide]
  exact sh0 b
theorem sl31 (b : Int32) : b <<< ((0 : Int32) &&& 31) = b := by
  rw [show ((0 : Int32) &&& 31) = 0 from by decide]
  apply Int32.toBitVec_inj.mp
  show b.toBitVec <<< ((0 : Int32).toBitVec.smod 32) = b.toBitVec
  rw [show (0 : Int32).toBitVec.smod 32 = 0#32 from by decide]
  exact BitVec.shiftLeft_zero _
theorem sub_le0 {k c : Nat} (hk0 : k ≤ 400) (hc : c ≤ 400) : (I k - I c ≤ 0) ↔ k ≤ c := by
  constructor
  · intro h
    refine Decidable.byContradiction fun hc2 => ?_
    rw [I_sub (by omega), show (0 : Int32) = I 0 from rfl, I_le (by omega) (by decide)] at h
    omega
  · intro h
    have e : I k - I c = I 0 - I (c - k) := by
      have : I c = I k + I (c - k) := by rw [I_add]; congr 1; omega
      rw [this, Int32.sub_eq_add_neg (I k), Int32.neg_add, Int32.sub_eq_add_neg (-I k), ← Int32.add_assoc, Int32.add_right_neg, Int32.sub_eq_add_neg (I 0)]
      rfl
    rw [e]
    have : ∀ d, d < 401 → I 0 - I d ≤ 0 := by decide +kernel
    exact this _ (by omega)
def Bu (g : AH) (m sb val N : Nat) (l : List Int32) (c : Nat) : Prop := g.2 = some N ∧ (m ≤ sb ∧ m ≤ val ∧ sb < N ∧ val < N ∧ sb ≠ val) ∧ ∃ V cap f, g.1 sb = some (.inl (11, V)) ∧ V 0 = .ref val ∧ V 1 = .int 0 ∧ V 3 = .int (I l.length) ∧ g.1 val = some (.inr (1, cap, .inl f)) ∧ (l.length ≤ cap ∧ c ≤ cap ∧ cap ≤ 350) ∧ (∀ j, j < l.length → f j = l.getD j 0) ∧ fitB f 0 cap
/-- what an append leaves alone -/
def Ap (g g1 : AH) (sb val N val1 N1 : Nat) : Prop := N ≤ N1 ∧ (val1 = val ∨ N ≤ val1) ∧ ∀ a, a < N → a ≠ sb → a ≠ val → g1.1 a = g.1 a
theorem Ap.refl {g : AH} {sb val N : Nat} : Ap g g sb val N val N := ⟨Nat.le_refl _, Or.inl rfl, fun _ _ _ _ => rfl⟩
theorem Ap.trans {g g1 g2 : AH} {sb val N val1 N1 val2 N2 : Nat} (h : Ap g g1 sb val N val1 N1) (h1 : Ap g1 g2 sb val1 N1 val2 N2) : Ap g g2 sb val N val2 N2 := by
  obtain ⟨a1, a2, a3⟩ := h
  obtain ⟨b1, b2, b3⟩ := h1
  refine ⟨by omega, ?_, fun a h1 h2 h3 => ?_⟩
  · rcases b2 with e | e
    · rw [e]; exact a2
    · exact Or.inr (by omega)
  · rw [b3 a (by omega) h2 ?_, a3 a h1 h2 h3]
    rcases a2 with e | e
    · rw [e]; exact h3
    · omega
section Build
variable {g : AH} {m sb val N c : Nat} {l : List Int32}
theorem alen_of {t : Nat} {g : AH} {a n : Nat} {x} (e : g.1 a = some (.inr (t, n, x))) : alen t g a = some (I n) := by
  unfold alen
  rw [e]
  dsimp only
  rw [if_pos rfl]
theorem Bu.r0 (B : Bu g m sb val N l c) : getR 11 g sb 0 = some val := by
  obtain ⟨-, -, V, cap, f, e, h, -⟩ := B
  exact getR_of e h
theorem Bu.i1 (B : Bu g m sb val N l c) : getI 11 g sb 1 = some 0 := by
  obtain ⟨-, -, V, cap, f, e, -, h, -⟩ := B
  exact getI_of e h
theorem Bu.i3 (B : Bu g m sb val N l c) : getI 11 g sb 3 = some (I l.length) := by
  obtain ⟨-, -, V, cap, f, e, -, -, h, -⟩ := B
  exact getI_of e h
theorem Bu.o (B : Bu g m sb val N l c) : isO 11 g sb = some () := by
  obtain ⟨-, -, V, cap, f, e, -⟩ := B
  exact isO_of e
theorem Bu.ens (B : Bu g m sb val N l c) {k : Nat} (hk0 : k ≤ 175) (hl : l.length ≤ k) : ∃ g1 val1 N1, j5_ensureCapacityInternal_d00df sb (I k) g = some ((), g1) ∧ Bu g1 m sb val1 N1 l k ∧ Ap g g1 sb val N val1 N1 := by
  have B0 := B
  obtain ⟨h1, ⟨h2, h3, h4, h5, h6⟩, V, cap, f, e1, v0, v1, v3, e2, ⟨c1, c2, c3⟩, hf, hb⟩ := B
  unfold j5_ensureCapacityInternal_d00df
  rw [B0.r0, gb_s, alen_of e2, gb_s, B0.i1, gb_s, sr31]
  by_cases hk1 : k ≤ cap
  · rw [if_pos ((sub_le0 (by omega) (by omega)).mpr hk1)]
    exact ⟨g, val, N, rfl, ⟨h1, ⟨h2, h3, h4, h5, h6⟩, V, cap, f, e1, v0, v1, v3, e2, ⟨c1, hk1, c3⟩, hf, hb⟩, Ap.refl⟩
  · rw [if_neg (fun hc => hk1 ((sub_le0 (by omega) (by omega)).mp hc)), gb_s, B0.o, gb_s]
    have hnl : (if I k - I cap < I cap + 2 then I cap + 2 else I k - I cap) = I (max (k - cap) (cap + 2)) := by
      rw [I_sub (by omega), show I cap + 2 = I (cap + 2) from I_add cap 2]
      by_cases hc : k - cap < cap + 2
      · rw [if_pos (by rw [I_lt (by omega) (by omega)]; exact hc), Nat.max_eq_right (by omega)]
      · rw [if_neg (by rw [I_lt (by omega) (by omega)]; exact hc), Nat.max_eq_left (by omega)]
    generalize hnl2 : cap + max (k - cap) (cap + 2) = nl
    have b1 : k ≤ nl ∧ cap < nl ∧ nl ≤ 350 := by omega
    have eN : j5_newCapacity_0f7a4 sb (I k) g = some (I nl, g) := by
      unfold j5_newCapacity_0f7a4 j8_newLength_cabcc
      rw [B0.r0, gb_s, alen_of e2, gb_s, B0.i1, gb_s, gb_s, sl31, sl31, hnl, I_add, hnl2, if_neg (by rw [show (0 : Int32) = I 0 from rfl, I_le (by omega) (by decide)]; omega), if_neg (by rw [show (2147483639 : Int32) = I 2147483639 from rfl, I_lt (by decide) (by omega)]; omega), cb_s, if_neg (fun hc => by
        have := (I_eq (by omega) (by decide)).mp (show I nl = I 2147483647 from hc)
        omega), B0.i1, gb_s, sr31]
    have eA : newA 1 (.inl (fun _ => 0)) g (I nl) = some (N, hnew g N (.inr (1, nl, .inl (fun _ => 0)))) := by
      unfold newA
      rw [h1]
      dsimp only
      rw [I_nat (by omega), if_neg (by
        rintro (hc | hc)
        · exact nI_pos (by omega) hc
        · omega)]
    have eV : (hnew g N (.inr (1, nl, .inl (fun _ => 0)))).1 val = some (.inr (1, cap, .inl f)) := (if_neg (by omega)).trans e2
    have eS : (hnew g N (.inr (1, nl, .inl (fun _ => 0)))).1 sb = some (.inl (11, V)) := (if_neg (by omega)).trans e1
    have eC : acpyB (hnew g N (.inr (1, nl, .inl (fun _ => 0)))) val 0 N 0 (I cap) = some (hset (hnew g N (.inr (1, nl, .inl (fun _ => 0)))) N (.inr (1, nl, .inl (va_cpy f (fun _ => 0) 0 0 cap)))) := by
      unfold acpyB
      rw [eV, show (hnew g N (.inr (1, nl, .inl (fun _ => 0)))).1 N = some (.inr (1, nl, .inl (fun _ => 0))) from if_pos rfl]
      dsimp only
      rw [I_nat (by omega), show (0 : Int32).toNatClampNeg = 0 from rfl, if_pos ⟨rfl, rfl, by decide, by decide, nI_pos (by omega), by omega, by omega, fitBb_of.mpr hb⟩]
    have eP : j7_copyOf_9075b val (I nl) g = some (N, hset (hnew g N (.inr (1, nl, .inl (fun _ => 0)))) N (.inr (1, nl, .inl (va_cpy f (fun _ => 0) 0 0 cap)))) := by
      unfold j7_copyOf_9075b
      rw [alen_of e2, gb_s, if_neg (fun hc => by
        have := (I_eq (by omega) (by omega)).mp hc
        omega), I_nat (by omega), if_neg (by omega), eA, cb_s, alen_of eV, gb_s, if_neg (by rw [I_lt (by omega) (by omega)]; omega), eC, gb_s]
    have eS2 : (hset (hnew g N (.inr (1, nl, .inl (fun _ => 0)))) N (.inr (1, nl, .inl (va_cpy f (fun _ => 0) 0 0 cap)))).1 sb = some (.inl (11, V)) := (hset_ne (by omega)).trans eS
    rw [eN, cb_s, B0.i1, gb_s, sl31, eP, cb_s, putV_of eS2, gb_s]
    refine ⟨_, N, N + 1, rfl, ⟨rfl, ⟨h2, by omega, by omega, by omega, by omega⟩, updV V 0 (.ref N), nl, va_cpy f (fun _ => 0) 0 0 cap, hset_at, if_pos rfl, (if_neg (by decide)).trans v1, (if_neg (by decide)).trans v3, (hset_ne (by omega)).trans hset_at, ⟨by omega, b1.1, b1.2.2⟩, fun j hj => ?_, fun q hq => ?_⟩, by omega, Or.inr (Nat.le_refl _), fun a a1 a2 a3 => ?_⟩
    · show (if 0 ≤ j ∧ j < 0 + cap then f (0 + (j - 0)) else 0) = _
      rw [if_pos (by omega), ← hf j hj]
      congr 1
      omega
    · show fits .byte (.int (if 0 ≤ 0 + q ∧ 0 + q < 0 + cap then f (0 + (0 + q - 0)) else 0)) = true
      by_cases hq2 : q < cap
      · rw [if_pos (by omega), show 0 + (0 + q - 0) = 0 + q by omega]
        exact hb q hq2
      · rw [if_neg (by omega)]
        decide
    · rw [hset_ne a2, hset_ne (by omega)]
      exact if_neg (by omega)
/-- bytes are put behind the text -/
theorem Bu.wr (B : Bu g m sb val N l c) {w : List Int32} (hc : l.length + w.length ≤ c) {f1 : Nat → Int32} {g1 : AH} {V1 : Nat → Value} {cap : Nat} (e1 : g1.1 sb = some (.inl (11, V1))) (v0 : V1 0 = .ref val) (v1 : V1 1 = .int 0) (v3 : V1 3 = .int (I (l ++ w).length)) (e2 : g1.1 val = some (.inr (1, cap, .inl f1))) (hcap : c ≤ cap ∧ cap ≤ 350) (h2 : g1.2 = g.2) (hl : ∀ j, j < l.length → f1 j = l.getD j 0) (hw : ∀ j, j < w.length → f1 (l.length + j) = w.getD j 0) (hb : fitB f1 0 cap) : Bu g1 m sb val N (l ++ w) (l ++ w).length := by
  obtain ⟨h1, h3, -⟩ := B
  refine ⟨h2.trans h1, h3, V1, cap, f1, e1, v0, v1, v3, e2, ⟨by rw [List.length_append]; omega, by rw [List.length_append]; omega, hcap.2⟩, fun j hj => ?_, hb⟩
  rw [List.length_append] at hj
  by_cases hj2 : j < l.length
  · rw [hl j hj2]
    simp [List.getD_eq_getElem?_getD, List.getElem?_append_left hj2]
  · have := hw (j - l.length) (by omega)
    rw [show l.length + (j - l.length) = j by omega] at this
    rw [this]
    simp [List.getD_eq_getElem?_getD, List.getElem?_append_right (show l.length ≤ j by omega)]
theorem Bu.chr (B : Bu g m sb val N l c) {x : Int32} (hx : x = 32 ∨ x = 59) (hl : l.length + 1 ≤ 175) : ∃ g1 val1 N1, j4_append_cf468 sb x g = some (sb, g1) ∧ Bu g1 m sb val1 N1 (l ++ [x]) (l ++ [x]).length ∧ Ap g g1 sb val N val1 N1 := by
  obtain ⟨g1, val1, N1, p1, B1, A1⟩ := B.ens (k := l.length + 1) hl (by omega)
  obtain ⟨h1, ⟨h2, h3, h4, h5, h6⟩, V, cap, f, e1, v0, v1, v3, e2, ⟨c1, c2, c3⟩, hf, hb⟩ := B1
  have B1 : Bu g1 m sb val1 N1 l (l.length + 1) := ⟨h1, ⟨h2, h3, h4, h5, h6⟩, V, cap, f, e1, v0, v1, v3, e2, ⟨c1, c2, c3⟩, hf, hb⟩
  have ex : (x.toInt8.toInt32).toInt8.toInt32 = x ∧ ¬ 255 < x ∧ fits .byte (.int x) = true := by
    rcases hx with rfl | rfl <;> decide
  have e3 : (hset g1 sb (.inl (11, updV V 3 (.int (I l.length + 1))))).1 val1 = some (.inr (1, cap, .inl f)) := (hset_ne (by omega)).trans e2
  unfold j4_append_cf468 j5_append_3fe6f j5_isLatin1_aae02 j1_canEncode_fc78d
  rw [B.o, gb_s, B.i3, gb_s, gb_s, I_succ, p1, cb_s, B1.o, gb_s, if_neg (by decide), B1.i1, gb_s, if_pos rfl, cb_s, if_neg (by decide), if_neg ex.2.1, cb_s, if_neg (by decide), B1.r0, gb_s, B1.i3, gb_s, putV_of e1, gb_s, ex.1, astI_of e3 (by omega) (by omega), gb_s, cb_s]
  refine ⟨_, val1, N1, rfl, B1.wr (w := [x]) (by simp) (V1 := updV V 3 (.int (I l.length + 1))) (f1 := upd f l.length x) (cap := cap) ?_ ((if_neg (by decide)).trans v0) ((if_neg (by decide)).trans v1) ?_ hset_at ⟨c2, c3⟩ rfl (fun j hj => (upd_ne (by omega)).trans (hf j hj)) (fun j hj => ?_) (fun q hq => ?_), A1.1, A1.2.1, fun a a1 a2 a3 => ?_⟩
  · exact (hset_ne (by omega)).trans hset_at
  · rw [List.length_append, List.length_singleton, ← I_succ]
    exact if_pos rfl
  · have : j = 0 := by simpa using hj
    subst this
    exact upd_at
  · show fits .byte (.int (if 0 + q = l.length then x else f (0 + q))) = true
    split
    · exact ex.2.2
    · exact hb q hq
  · rw [hset_ne ?_, hset_ne a2]
    · exact A1.2.2 a a1 a2 a3
    · rcases A1.2.1 with e | e
      · rw [e]; exact a3
      · omega
theorem str_fit {k : Nat} (hk0 : k < 11) : ∀ j, j < wl k → fits .byte (.int (wc k j)) = true := by
  have : ∀ k, k < 11 → (List.range (wl k)).all (fun j => fits .byte (.int (wc k j))) = true := by decide +kernel
  intro j hj
  exact List.all_eq_true.mp (this k hk0) j (List.mem_range.mpr hj)
theorem Bu.str (B : Bu g m sb val N l c) {k : Nat} (hk0 : k < 11) (hl : l.length + wl k ≤ 175) : ∃ g1 val1 N1, j4_append_15ec4 sb k g = some (sb, g1) ∧ Bu g1 m sb val1 N1 (l ++ bytST k) (l ++ bytST k).length ∧ Ap g g1 sb val N val1 N1 := by
  obtain ⟨g1, val1, N1, p1, B1, A1⟩ := B.ens (k := l.length + wl k) hl (by omega)
  obtain ⟨h1, ⟨h2, h3, h4, h5, h6⟩, V, cap, f, e1, v0, v1, v3, e2, ⟨c1, c2, c3⟩, hf, hb⟩ := B1
  have B1 : Bu g1 m sb val1 N1 l (l.length + wl k) := ⟨h1, ⟨h2, h3, h4, h5, h6⟩, V, cap, f, e1, v0, v1, v3, e2, ⟨c1, c2, c3⟩, hf, hb⟩
  have hw := wl_le hk0
  have eC : acpyC g1 k 0 val1 (I l.length) (Int32.ofNat (bytST k).length) = some (hset g1 val1 (.inr (1, cap, .inl (va_cpy (fun q => (bytST k).getD q 0) f 0 l.length (wl k))))) := by
    unfold acpyC
    rw [e2]
    dsimp only
    rw [show Int32.ofNat (bytST k).length = I (wl k) from rfl, I_nat (by omega), I_nat (by omega), show (0 : Int32).toNatClampNeg = 0 from rfl, if_pos ⟨hk0, rfl, by decide, nI_pos (by omega), nI_pos (by omega), by show 0 + wl k ≤ wl k; omega, by omega⟩]
  have e3 : (hset g1 val1 (.inr (1, cap, .inl (va_cpy (fun q => (bytST k).getD q 0) f 0 l.length (wl k))))).1 sb = some (.inl (11, V)) := (hset_ne (by omega)).trans e1
  unfold j4_append_15ec4 j5_append_cf1ce j5_putStringAt_47b60 j5_inflateIfNeededFor_a7421 j0_getBytes_840e7
  rw [B.o, gb_s, str_len hk0, gb_s, B.i3, gb_s, gb_s, I_add, p1, cb_s, B1.i3, gb_s, B1.o, gb_s, gb_s, if_neg (by decide), B1.i1, gb_s, if_pos (show k < nST from hk0), if_pos rfl, cb_s, B1.r0, gb_s, B1.i1, gb_s, if_pos (show k < nST from hk0), if_pos (show k < nST from hk0), if_pos rfl, sl31, eC, gb_s, cb_s, cb_s, getI_of e3 v3, gb_s, putV_of e3, gb_s, cb_s]
  refine ⟨_, val1, N1, rfl, B1.wr (w := bytST k) (Nat.le_refl _) (V1 := updV V 3 (.int (I l.length + I (wl k)))) (f1 := va_cpy (fun q => (bytST k).getD q 0) f 0 l.length (wl k)) (cap := cap) hset_at ((if_neg (by decide)).trans v0) ((if_neg (by decide)).trans v1) ?_ ((hset_ne (by omega)).trans hset_at) ⟨c2, c3⟩ rfl (fun j hj => ?_) (fun j hj => ?_) (fun q hq => ?_), A1.1, A1.2.1, fun a a1 a2 a3 => ?_⟩
  · rw [List.length_append, ← I_add]
    exact if_pos rfl
  · show (if l.length ≤ j ∧ j < l.length + wl k then (bytST k).getD (0 + (j - l.length)) 0 else f j) = _
    rw [if_neg (by omega)]
    exact hf j hj
  · show (if l.length ≤ l.length + j ∧ l.length + j < l.length + wl k then (bytST k).getD (0 + (l.length + j - l.length)) 0 else f (l.length + j)) = _
    have : j < wl k := hj
    rw [if_pos (by omega)]
    congr 1
    omega
  · show fits .byte (.int (if l.length ≤ 0 + q ∧ 0 + q < l.length + wl k then (bytST k).getD (0 + (0 + q - l.length)) 0 else f (0 + q))) = true
    by_cases hq2 : l.length ≤ 0 + q ∧ 0 + q < l.length + wl k
    · rw [if_pos hq2]
      exact str_fit hk0 (0 + (0 + q - l.length)) (by omega)
    · rw [if_neg hq2]
      exact hb q hq
  · rw [hset_ne a2, hset_ne ?_]
    · exact A1.2.2 a a1 a2 a3
    · rcases A1.2.1 with e | e
      · rw [e]; exact a3
      · omega
end Build
