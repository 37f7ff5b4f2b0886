abbrev n32 (r : UInt32) : Prop := r &&& 0x7fffffff ≤ 0x7f800000
abbrev n64 (r : UInt64) : Prop := r &&& 0x7fffffffffffffff ≤ 0x7ff0000000000000
/-! String constants: length() and charAt() -/
theorem j_38 : Cond.fieldLink RJ0 38 "java/lang/String" "COMPACT_STRINGS" "Z" ∈ TBL := tb2 (i := 65) rfl rfl
theorem j_1053 : Cond.fieldLink RJ0 1053 "jdk/internal/util/Preconditions" "SIOOBE_FORMATTER" "Ljava/util/function/BiFunction;" ∈ TBL := tb2 (i := 81) rfl rfl
theorem j_9 : Cond.fieldLink RJ0 9 "java/lang/String" "value" "[B" ∈ TBL := tb5 (i := 31) rfl rfl
theorem j_15 : Cond.fieldLink RJ0 15 "java/lang/String" "coder" "B" ∈ TBL := tb5 (i := 32) rfl rfl
def strLen (k : Nat) : Option Int32 := if k < nST then some (Int32.ofNat (bytST k).length) else none
def strAt (k : Nat) (q : Int32) : Option Int32 := if k < nST then (if outI q (bytST k).length then none else some ((bytST k).getD q.toNatClampNeg 0)) else none
theorem bytST_ok : ∀ k : Nat, k < nST → (bytST k).length < 2 ^ 31 ∧ ∀ b ∈ bytST k, ((b &&& 255).toUInt32 % 65536).toInt32 = b ∧ narrow .char (.int b) = .int b := by decide +kernel
section Str
variable {M : MC} {G : GG} {cc : ByteArray} {nL : Nat} {own : String} {rm : Room} {Q : State → Prop} {kc ks : Nat} {g : AH} {pc : Nat} {L : List (Nat × Value)} {st : List Value}
theorem CX.str (X : CX M G cc nL own rm) {k : Nat} (hk : k < nST) : va_O "java/lang/String" (G.2.2.1 k) (gA G) (mS M) (mS M).heap ∧ va_OF "java/lang/String" "coder" "B" (.int 0) (G.2.2.1 k) (gA G) (mS M) (mS M).heap ∧ va_OF "java/lang/String" "value" "[B" (.ref (G.2.2.2.1 k)) (G.2.2.1 k) (gA G) (mS M) (mS M).heap ∧ va_T .byte (G.2.2.2.1 k) (bytST k).length (fun j => .int ((bytST k).getD j 0)) (gA G) (mS M) (mS M).heap := X.2.2.2.2.1.1 k hk
theorem r_sgetf (X : CX M G cc nL own rm) {i q : Nat} {n d : String} {v : Value} (dd : decode cc pc = .ok (.getfield i, 3)) (hw : Cond.fieldLink own i "java/lang/String" n d ∈ TBL) (hE : va_OF "java/lang/String" n d v q (gA G) (mS M) (mS M).heap) (kk : WW M G nL Q kc ks g (pc + 3) L (v :: st)) : WW M G nL Q kc ks g pc L (.ref q :: st) :=
  fun hk1 hk2 H locs ls hP hS hl => vk_getf X.1.1 X.1.2.1 hE hS X.1.2.2.2.1 (X.w hw) (fun _ h => h) dd (kk hk1 hk2 H locs ls hP hS hl)
theorem r_gets (X : CX M G cc nL own rm) {i : Nat} {C n d : String} {v : Value} (dd : decode cc pc = .ok (.getstatic i, 3)) (hw : Cond.fieldLink own i C n d ∈ TBL) (hZ : va_Z C n d v (gA G) (mS M) (mS M).heap) (kk : WW M G nL Q kc ks g (pc + 3) L (v :: st)) : WW M G nL Q kc ks g pc L st :=
  fun hk1 hk2 H locs ls hP hS hl => va_gets X.1.1 X.1.2.1 hZ hS X.1.2.2.2.1 (X.w hw) (fun _ h => h) dd (kk hk1 hk2 H locs ls hP hS hl)
theorem r_tlen (X : CX M G cc nL own rm) {t N : Nat} {f : Nat → Value} (dd : decode cc pc = .ok (.arraylength, 1)) (hT : va_T .byte t N f (gA G) (mS M) (mS M).heap) (kk : WW M G nL Q kc ks g (pc + 1) L (.int (Int32.ofNat N) :: st)) : WW M G nL Q kc ks g pc L (.ref t :: st) :=
  fun hk1 hk2 H locs ls hP hS hl => va_tlen X.1.1 X.1.2.1 hT hS rfl dd (kk hk1 hk2 H locs ls hP hS hl)
theorem r_tb (X : CX M G cc nL own rm) {t N : Nat} {f : Nat → Value} {q : Int32} {v : Value} (dd : decode cc pc = .ok (.baload, 1)) (hT : va_T .byte t N f (gA G) (mS M) (mS M).heap) (hin : ¬ outI q N) (hv : f q.toNatClampNeg = v) (kk : WW M G nL Q kc ks g (pc + 1) L (v :: st)) : WW M G nL Q kc ks g pc L (.int q :: .ref t :: st) :=
  fun hk1 hk2 H locs ls hP hS hl => va_tb X.1.1 X.1.2.1 hT hS hin hv dd (kk hk1 hk2 H locs ls hP hS hl)
theorem r_i2c (X : CX M G cc nL own rm) {x v : Int32} (d : decode cc pc = .ok (.i2c, 1)) (hv : (x.toUInt32 % 65536).toInt32 = v) (k : WW M G nL Q kc ks g (pc + 1) L (.int v :: st)) : WW M G nL Q kc ks g pc L (.int x :: st) := fun hk1 hk2 H locs ls hP hS hl => lv_i2c X.1.1 X.1.2.1 d hv (k hk1 hk2 H locs ls hP hS hl)
theorem r_nret (X : CX M G cc nL own rm) {v : Int32} {ty : FieldType} {mc ms : Nat} (hr : (mM M).sig.returnType = some ty) (hn : narrow ty (.int v) = .int v) (d : decode cc pc = .ok (.ireturn, 1)) (hc : kc ≤ mc) (hs : ks ≤ ms) : WW M G nL (RQ M G (some (.int v)) g mc ms) kc ks g pc L [.int v] := fun hk1 hk2 H locs ls hP hS hl =>
  W.widen hc hs (W.zret X.1.1 X.1.2.1 hr hn (fun t ht hW => ⟨⟨rfl, by rw [ht]; exact hP⟩, hS.F ht⟩) hS.2.2 d X.2.2.2.1)
/-- a call on a String constant -/
theorem r_callVs (X : CX M G cc nL own rm) {l : Launch} (hl0 : M.2.1 = l) {i n k : Nat} {y : MethodName} {bytes : ByteArray} {maxL : Nat} {ret : Option FieldType} {fr lo : Nat} {As : List Value} {r : Option Value} {st0 : List Value} (d : decode cc pc = .ok (.invokevirtual i, 3)) (yl : YL 0 y bytes maxL ret n) (hm : Cond.methodLink own i y ∈ TBL) (hk : k < nST) (hy : y.cls = "java/lang/String")
    (ct : Ct l G y bytes maxL ret ⟨fr, 0, 0, lo⟩ (.ref (G.2.2.1 k) :: As) g r g) (hst : st0 = As.reverse ++ .ref (G.2.2.1 k) :: st) (hn : As.length = n) (hcat : (st.map fun v => v.category).sum ≤ 8) (hR : fr + 1 ≤ rm.frames ∧ 8 + (maxL + 11) + lo ≤ rm.locals)
    (kk : WW M G nL Q kc ks g (pc + 3) L (r.toList ++ st)) : WW M G nL Q kc ks g pc L st0 := fun hk1 hk2 => by
  subst hl0
  have hR2 : kc + 0 ≤ rm.cells ∧ ks + 0 ≤ rm.slots := ⟨by rw [← X.2.2.2.2.2]; exact hk1, by rw [← X.2.2.2.2.2]; exact hk2⟩
  refine r_run X (mc := 0) (ms := 0) hR2 (a := (Value.ref (G.2.2.1 k) :: As).toArray) (fun H locs ls hP hS hl => ?_) kk hk1 hk2
  have h5 := yl.2.2.2.2.1 rfl
  obtain ⟨cell, h1, h2, h3, -⟩ := (X.str hk).1.kept hS.2.1
  exact va_runV (C := y.cls) X.1 ct ⟨X.callB yl hm hR, X.w h5.1, X.w h5.2⟩ ⟨PcG.blind, by rw [hy]; exact ⟨cell, h1, h2, h3⟩, X.pre hP hS⟩ rfl hn hl.1 hst (by show 2 * 0 + _ ≤ 8; omega) d (by rw [X.2.2.2.2.2]; exact hR2)
end Str
theorem t_coder {l : Launch} {G : GG} {k : Nat} {g : AH} (hk : k < nST) : Ct l G yJ0_coder_7d493 cJ0_coder_7d493 1 (some .byte) ⟨1, 0, 0, 60⟩ [.ref (G.2.2.1 k)] g (some (.int 0)) g :=
  ct_of (L0 := [(0, .ref (G.2.2.1 k))]) y_J0_coder_7d493 rfl (Nat.le_of_ble_eq_true rfl) fun M hl0 X hr hnm => by
  refine r_gets X dJ0_coder_7d493_0 j_38 X.2.2.2.2.1.2.2.2.2.2.1.1 ?_
  refine r_if_eq X 13 dJ0_coder_7d493_3 (by decide) (fun c1 => absurd c1 (by decide)) (fun _ => ?_)
  refine r_aload_n X 0 dJ0_coder_7d493_6 rfl rfl ?_
  refine r_sgetf X dJ0_coder_7d493_7 j_15 (X.str hk).2.1 ?_
  refine r_goto X 14 dJ0_coder_7d493_10 (by decide) ?_
  exact r_nret X hr rfl dJ0_coder_7d493_14 (by decide) (by decide)
theorem t_isLatin1 {l : Launch} {G : GG} {k : Nat} {g : AH} (hk : k < nST) : Ct l G yJ0_isLatin1_aae02 cJ0_isLatin1_aae02 1 (some .boolean) ⟨1, 0, 0, 60⟩ [.ref (G.2.2.1 k)] g (some (.int 1)) g :=
  ct_of (L0 := [(0, .ref (G.2.2.1 k))]) y_J0_isLatin1_aae02 rfl (Nat.le_of_ble_eq_true rfl) fun M hl0 X hr hnm => by
  refine r_gets X dJ0_isLatin1_aae02_0 j_38 X.2.2.2.2.1.2.2.2.2.2.1.1 ?_
  refine r_if_eq X 17 dJ0_isLatin1_aae02_3 (by decide) (fun c1 => absurd c1 (by decide)) (fun _ => ?_)
  refine r_aload_n X 0 dJ0_isLatin1_aae02_6 rfl rfl ?_
  refine r_sgetf X dJ0_isLatin1_aae02_7 j_15 (X.str hk).2.1 ?_
  refine r_if_ne X 17 dJ0_isLatin1_aae02_10 (by decide) (fun c1 => absurd rfl c1) (fun _ => ?_)
  refine r_iconst X (v := 1) dJ0_isLatin1_aae02_13 (by decide) ?_
  refine r_goto X 18 dJ0_isLatin1_aae02_14 (by decide) ?_
  exact r_nret X hr rfl dJ0_isLatin1_aae02_18 (by decide) (by decide)
theorem t_strLength {l : Launch} {G : GG} {k : Nat} {g : AH} (hk : k < nST) : Ct l G yJ0_length_8abf5 cJ0_length_8abf5 1 (some .int) ⟨2, 0, 0, 90⟩ [.ref (G.2.2.1 k)] g (some (.int (Int32.ofNat (bytST k).length))) g :=
  ct_of (L0 := [(0, .ref (G.2.2.1 k))]) y_J0_length_8abf5 rfl (Nat.le_of_ble_eq_true rfl) fun M hl0 X hr hnm => by
  refine r_aload_n X 0 dJ0_length_8abf5_0 rfl rfl ?_
  refine r_sgetf X dJ0_length_8abf5_1 j_9 (X.str hk).2.2.1 ?_
  refine r_tlen X dJ0_length_8abf5_4 (X.str hk).2.2.2 ?_
  refine r_aload_n X 0 dJ0_length_8abf5_5 rfl rfl ?_
  refine r_callVs X hl0 dJ0_length_8abf5_6 y_J0_coder_7d493 m_J0_335 hk rfl (t_coder hk) rfl rfl (Nat.le_of_ble_eq_true rfl) (by decide) ?_
  refine r_ishr X dJ0_length_8abf5_9 ?_
  rw [sb_shr0]
  exact r_iret X hr dJ0_length_8abf5_10 (by decide) (by decide)
theorem t_preCheck {l : Launch} {G : GG} {q n : Int32} {v : Value} {g : AH} (hv : v.category = 1) (h0 : ¬ q < 0) (h1 : q < n) : Ct l G yJ3_checkIndex_8e157 cJ3_checkIndex_8e157 3 (some .int) ⟨1, 0, 0, 60⟩ [.int q, .int n, v] g (some (.int q)) g :=
  ct_of (L0 := [(0, .int q), (1, .int n), (2, v)]) y_J3_checkIndex_8e157 (by simp [lv_args, hv, Value.category]) (by
    have c1 : (Value.int q).category = 1 := rfl
    have c2 : (Value.int n).category = 1 := rfl
    simp [lg_sl, hv, c1, c2]) fun M hl0 X hr hnm => by
  refine r_iload_n X 0 dJ3_checkIndex_8e157_0 rfl rfl ?_
  refine r_if_lt X 9 dJ3_checkIndex_8e157_1 (by decide) (fun c1 => absurd c1 h0) (fun _ => ?_)
  refine r_iload_n X 0 dJ3_checkIndex_8e157_4 rfl rfl ?_
  refine r_iload_n X 1 dJ3_checkIndex_8e157_5 rfl rfl ?_
  refine r_icmp_lt X 16 dJ3_checkIndex_8e157_6 (by decide) (fun _ => ?_) (fun c1 => absurd h1 c1)
  refine r_iload_n X 0 dJ3_checkIndex_8e157_16 rfl rfl ?_
  exact r_iret X hr dJ3_checkIndex_8e157_17 (by decide) (by decide)
theorem t_strCheck {l : Launch} {G : GG} {q n : Int32} {g : AH} (h0 : ¬ q < 0) (h1 : q < n) : Ct l G yJ0_checkIndex_df160 cJ0_checkIndex_df160 2 none ⟨2, 0, 0, 90⟩ [.int q, .int n] g none g :=
  ct_of (L0 := [(0, .int q), (1, .int n)]) y_J0_checkIndex_df160 rfl (Nat.le_of_ble_eq_true rfl) fun M hl0 X hr hnm => by
  have go : ∀ v : Value, v.category = 1 → va_Z "jdk/internal/util/Preconditions" "SIOOBE_FORMATTER" "Ljava/util/function/BiFunction;" v (gA G) (mS M) (mS M).heap → WW M G 2 (RQ M G none g 0 0) 0 0 g 0 [(0, .int q), (1, .int n)] [] := by
    intro v hv hZ
    refine r_iload_n X 0 dJ0_checkIndex_df160_0 rfl rfl ?_
    refine r_iload_n X 1 dJ0_checkIndex_df160_1 rfl rfl ?_
    refine r_gets X dJ0_checkIndex_df160_2 j_1053 hZ ?_
    refine r_callS0 X hl0 dJ0_checkIndex_df160_5 y_J3_checkIndex_8e157 m_J0_1059 (t_preCheck hv h0 h1) rfl rfl (Nat.le_of_ble_eq_true rfl) (by decide) ?_
    refine r_pop X dJ0_checkIndex_df160_8 rfl ?_
    exact r_vret X hr dJ0_checkIndex_df160_9 (by decide) (by decide)
  rcases X.2.2.2.2.1.2.2.2.2.2.1.2 with hZ | ⟨t, hZ⟩
  · exact go _ rfl hZ
  · exact go _ rfl hZ
theorem t_latAt {l : Launch} {G : GG} {k : Nat} {q v : Int32} {g : AH} (hk : k < nST) (hq : ¬ outI q (bytST k).length) (hv : v = (bytST k).getD q.toNatClampNeg 0) : Ct l G yJ1_charAt_3b067 cJ1_charAt_3b067 2 (some .char) ⟨3, 0, 0, 120⟩ [.ref (G.2.2.2.1 k), .int q] g (some (.int v)) g :=
  ct_of (L0 := [(0, .ref (G.2.2.2.1 k)), (1, .int q)]) y_J1_charAt_3b067 rfl (Nat.le_of_ble_eq_true rfl) fun M hl0 X hr hnm => by
  obtain ⟨hL, hb⟩ := bytST_ok k hk
  have hlt := in_lt hq
  have hmem : v ∈ bytST k := by
    have eq9 : (bytST k).getD q.toNatClampNeg 0 = (bytST k)[q.toNatClampNeg] := by simp [List.getD, List.getElem?_eq_getElem hlt]
    rw [hv, eq9]
    exact List.getElem_mem hlt
  have h0 : ¬ q < 0 := fun h => hq (Or.inl h)
  have h1 : q < Int32.ofNat (bytST k).length := by
    obtain ⟨j, hj, rfl⟩ := nI_of h0
    exact nI_lt (by rw [nI_clamp hj] at hlt; exact hlt) hL
  refine r_iload_n X 1 dJ1_charAt_3b067_0 rfl rfl ?_
  refine r_aload_n X 0 dJ1_charAt_3b067_1 rfl rfl ?_
  refine r_tlen X dJ1_charAt_3b067_2 (X.str hk).2.2.2 ?_
  refine r_callS0 X hl0 dJ1_charAt_3b067_3 y_J0_checkIndex_df160 m_J1_9 (t_strCheck h0 h1) rfl rfl (Nat.le_of_ble_eq_true rfl) (by decide) ?_
  refine r_aload_n X 0 dJ1_charAt_3b067_6 rfl rfl ?_
  refine r_iload_n X 1 dJ1_charAt_3b067_7 rfl rfl ?_
  refine r_tb X (v := .int v) dJ1_charAt_3b067_8 (X.str hk).2.2.2 hq (by rw [hv]) ?_
  refine r_sipush X (v := 255) dJ1_charAt_3b067_9 (by decide) ?_
  refine r_iand X dJ1_charAt_3b067_12 ?_
  refine r_i2c X (v := v) dJ1_charAt_3b067_13 (hb v hmem).1 ?_
  exact r_nret X hr (hb v hmem).2 dJ1_charAt_3b067_14 (by decide) (by decide)
theorem t_charAt {l : Launch} {G : GG} {k : Nat} {q v : Int32} {g : AH} (hk : k < nST) (hq : ¬ outI q (bytST k).length) (hv : v = (bytST k).getD q.toNatClampNeg 0) : Ct l G yJ0_charAt_5068e cJ0_charAt_5068e 2 (some .char) ⟨4, 0, 0, 160⟩ [.ref (G.2.2.1 k), .int q] g (some (.int v)) g :=
  ct_of (L0 := [(0, .ref (G.2.2.1 k)), (1, .int q)]) y_J0_charAt_5068e rfl (Nat.le_of_ble_eq_true rfl) fun M hl0 X hr hnm => by
  obtain ⟨hL, hb⟩ := bytST_ok k hk
  have hlt := in_lt hq
  have hmem : v ∈ bytST k := by
    have eq9 : (bytST k).getD q.toNatClampNeg 0 = (bytST k)[q.toNatClampNeg] := by simp [List.getD, List.getElem?_eq_getElem hlt]
    rw [hv, eq9]
    exact List.getElem_mem hlt
  refine r_aload_n X 0 dJ0_charAt_5068e_0 rfl rfl ?_
  refine r_callVs X hl0 dJ0_charAt_5068e_1 y_J0_isLatin1_aae02 m_J0_492 hk rfl (t_isLatin1 hk) rfl rfl (Nat.le_of_ble_eq_true rfl) (by decide) ?_
  refine r_if_eq X 16 dJ0_charAt_5068e_4 (by decide) (fun c1 => absurd c1 (by decide)) (fun _ => ?_)
  refine r_aload_n X 0 dJ0_charAt_5068e_7 rfl rfl ?_
  refine r_sgetf X dJ0_charAt_5068e_8 j_9 (X.str hk).2.2.1 ?_
  refine r_iload_n X 1 dJ0_charAt_5068e_11 rfl rfl ?_
  refine r_callS0 X hl0 dJ0_charAt_5068e_12 y_J1_charAt_3b067 m_J0_495 (t_latAt hk hq hv) rfl rfl (Nat.le_of_ble_eq_true rfl) (by decide) ?_
  exact r_nret X hr (hb v hmem).2 dJ0_charAt_5068e_15 (by decide) (by decide)
section StrRows
variable {M : MC} {G : GG} {cc : ByteArray} {nL : Nat} {own : String} {rm : Room} {Q : State → Prop} {kc ks : Nat} {g : AH} {pc : Nat} {L : List (Nat × Value)} {st : List Value}
theorem r_strLen (X : CX M G cc nL own rm) {l : Launch} (hl0 : M.2.1 = l) {i k : Nat} {x : Int32} (d : decode cc pc = .ok (.invokevirtual i, 3)) (hm : Cond.methodLink own i yJ0_length_8abf5 ∈ TBL) (e : strLen k = some x) (hcat : (st.map fun v => v.category).sum ≤ 8) (hR : 2 + 1 ≤ rm.frames ∧ 8 + (1 + 11) + 90 ≤ rm.locals) (kk : WW M G nL Q kc ks g (pc + 3) L (.int x :: st)) : WW M G nL Q kc ks g pc L (.ref (G.2.2.1 k) :: st) := by
  unfold strLen at e
  by_cases hk : k < nST
  · rw [if_pos hk] at e
    cases e
    exact r_callVs X hl0 d y_J0_length_8abf5 hm hk rfl (t_strLength hk) rfl rfl hcat hR kk
  · rw [if_neg hk] at e
    cases e
theorem r_strAt (X : CX M G cc nL own rm) {l : Launch} (hl0 : M.2.1 = l) {i k : Nat} {q x : Int32} (d : decode cc pc = .ok (.invokevirtual i, 3)) (hm : Cond.methodLink own i yJ0_charAt_5068e ∈ TBL) (e : strAt k q = some x) (hcat : (st.map fun v => v.category).sum ≤ 8) (hR : 4 + 1 ≤ rm.frames ∧ 8 + (2 + 11) + 160 ≤ rm.locals) (kk : WW M G nL Q kc ks g (pc + 3) L (.int x :: st)) : WW M G nL Q kc ks g pc L (.int q :: .ref (G.2.2.1 k) :: st) := by
  unfold strAt at e
  by_cases hk : k < nST
  · rw [if_pos hk] at e
    by_cases hq : outI q (bytST k).length
    · rw [if_pos hq] at e
      cases e
    · rw [if_neg hq] at e
      cases e
      exact r_callVs X hl0 d y_J0_charAt_5068e hm hk rfl (t_charAt hk hq rfl) rfl rfl hcat hR kk
  · rw [if_neg hk] at e
    cases e
end StrRows
theorem r_ldcSw {M : MC} {G : GG} {cc : ByteArray} {nL : Nat} {own : String} {rm : Room} {Q : State → Prop} {kc ks : Nat} {g : AH} {pc : Nat} {L : List (Nat × Value)} {st : List Value} (X : CX M G cc nL own rm) {i j : Nat} {tx : String} (d : decode cc pc = .ok (.ldc_w i, 3)) (hw : (own, i, tx, j) ∈ strTab) (k : WW M G nL Q kc ks g (pc + 3) L (.ref (G.2.2.1 j) :: st)) : WW M G nL Q kc ks g pc L st := fun hk1 hk2 H locs ls hP hS hl T hT X9 => by
  obtain ⟨t, a1, b1⟩ := k hk1 hk2 H locs ls hP hS hl T hT X9
  have hZ := X.2.2.2.2.1.2.1 _ hw
  exact ⟨t, X9.ldcStringW X.1.1 X.1.2.2.2.1 (text := tx) (a := G.2.2.1 j) hZ.1 hZ.2 (g := F0 (mI M) pc ls st) rfl (by rw [X.1.2.1]; exact d) t a1, b1⟩
