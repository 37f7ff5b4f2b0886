/-! the library's checks, calls on String constants that write -/
def chkI (q n : Int32) : Option Unit := if q < 0 then none else if q < n then some () else none
theorem chkI_spec {q n : Int32} (h : chkI q n = some ()) : ¬ q < 0 ∧ q < n := by
  unfold chkI at h
  by_cases h1 : q < 0
  · rw [if_pos h1] at h; cases h
  · rw [if_neg h1] at h
    by_cases h2 : q < n
    · exact ⟨h1, h2⟩
    · rw [if_neg h2] at h; cases h
theorem t_objCheck {l : Launch} {G : GG} {q n : Int32} {g : AH} (h0 : ¬ q < 0) (h1 : q < n) : Ct l G yJ15_checkIndex_7cf53 cJ15_checkIndex_7cf53 2 (some .int) ⟨2, 0, 0, 90⟩ [.int q, .int n] g (some (.int q)) g :=
  ct_of (L0 := [(0, .int q), (1, .int n)]) y_J15_checkIndex_7cf53 rfl (Nat.le_of_ble_eq_true rfl) fun M hl0 X hr hnm => by
  refine r_iload_n X 0 dJ15_checkIndex_7cf53_0 rfl rfl ?_
  refine r_iload_n X 1 dJ15_checkIndex_7cf53_1 rfl rfl ?_
  refine r_null X dJ15_checkIndex_7cf53_2 ?_
  refine r_callS0 X hl0 dJ15_checkIndex_7cf53_3 y_J3_checkIndex_8e157 m_J15_105 (t_preCheck (v := va_rf none) rfl h0 h1) rfl rfl (Nat.le_of_ble_eq_true rfl) (by decide) ?_
  exact r_iret X hr dJ15_checkIndex_7cf53_6 (by decide) (by decide)
def narI (ty : FieldType) (x : Int32) : Int32 := match narrow ty (.int x) with
  | .int y => y
  | _ => 0
theorem nar_of {ty : FieldType} {x : Int32} (h : ty = .byte ∨ ty = .char) (e : narI ty x = x) : narrow ty (.int x) = .int x := by
  unfold narI at e
  rcases h with rfl | rfl
  · have e2 : narrow .byte (.int x) = .int (x.toInt8.toInt32) := rfl
    rw [e2] at e ⊢
    rw [show x.toInt8.toInt32 = x from e]
  · have e2 : ∃ y, narrow .char (.int x) = .int y := ⟨_, rfl⟩
    obtain ⟨y, hy⟩ := e2
    rw [hy] at e ⊢
    rw [show y = x from e]
theorem ct_of9 {l : Launch} {G : GG} {y : MethodName} {bytes : ByteArray} {maxL : Nat} {ret : Option FieldType} {rm : Room} {av : List Value} {g g1 : AH} {r : Option Value} {L0 : List (Nat × Value)} (hpl : Jvm.plainName y.cls = true) (hL : lv_args 0 av = L0) (hlen : (lg_sl av).length ≤ maxL)
    (body : ∀ M : MC, M.2.1 = l → CX M G bytes maxL y.cls rm → (mM M).sig.returnType = ret → (mM M).name = y.name → WW M G maxL (RQ M G r g1 rm.cells rm.slots) 0 0 g 0 L0 []) : Ct l G y bytes maxL ret rm av g r g1 := by
  refine Met.ofW (cc := bytes) (maxL := maxL) (ret := ret) hpl rfl ?_
  intro p e s m args below meth c s₁ B hml hv
  obtain ⟨rfl, hP, hK, hSC, hB⟩ := hv
  have hts := atoms_spec (ws := cw y bytes maxL ret) B.pre
  rw [lg_entry_eq]
  have hl := lv_entry av (n := maxL) hlen
  rw [hL] at hl
  exact body (p, l, e, rm, s, m, av.toArray, below, meth, c) rfl ⟨⟨B.exec, B.bytes, hml, findClass_of_methodNamed B.named, fun w hw => hts w (List.mem_cons_of_mem _ hw)⟩, hK, hB, B.notSynchronized, hSC, rfl⟩ B.returns (name_of_methodNamed B.named B.method).1 (Nat.zero_le _) (Nat.zero_le _) s.heap [] _ hP va_S.rf hl
section RowsZ
variable {M : MC} {G : GG} {cc : ByteArray} {nL : Nat} {own : String} {rm : Room} {Q : State → Prop} {kc ks : Nat} {g : AH} {pc : Nat} {L : List (Nat × Value)} {st : List Value}

theorem r_chkS (X : CX M G cc nL own rm) {l : Launch} (hl0 : M.2.1 = l) {i : Nat} {q n : Int32} (d : decode cc pc = .ok (.invokestatic i, 3)) (hm : Cond.methodLink own i yJ0_checkIndex_df160 ∈ TBL) (e : chkI q n = some ()) (hcat : (st.map fun v => v.category).sum ≤ 8) (hR : 2 + 1 ≤ rm.frames ∧ 8 + (2 + 11) + 90 ≤ rm.locals) (kk : WW M G nL Q kc ks g (pc + 3) L st) : WW M G nL Q kc ks g pc L (.int n :: .int q :: st) := by
  obtain ⟨h0, h1⟩ := chkI_spec e
  exact r_callS0 X hl0 d y_J0_checkIndex_df160 hm (t_strCheck h0 h1) rfl rfl hcat hR kk
theorem r_chkO (X : CX M G cc nL own rm) {l : Launch} (hl0 : M.2.1 = l) {i : Nat} {q n : Int32} (d : decode cc pc = .ok (.invokestatic i, 3)) (hm : Cond.methodLink own i yJ15_checkIndex_7cf53 ∈ TBL) (e : chkI q n = some ()) (hcat : (st.map fun v => v.category).sum ≤ 8) (hR : 2 + 1 ≤ rm.frames ∧ 8 + (2 + 11) + 90 ≤ rm.locals) (kk : WW M G nL Q kc ks g (pc + 3) L (.int q :: st)) : WW M G nL Q kc ks g pc L (.int n :: .int q :: st) := by
  obtain ⟨h0, h1⟩ := chkI_spec e
  exact r_callS0 X hl0 d y_J15_checkIndex_7cf53 hm (t_objCheck h0 h1) rfl rfl hcat hR kk
theorem r_callVsg (X : CX M G cc nL own rm) {l : Launch} (hl0 : M.2.1 = l) {i n k : Nat} {y : MethodName} {bytes : ByteArray} {maxL : Nat} {ret : Option FieldType} {fr lo : Nat} {As : List Value} {r : Option Value} {g1 : AH} {st0 : List Value} (d : decode cc pc = .ok (.invokevirtual i, 3)) (yl : YL 0 y bytes maxL ret n) (hm : Cond.methodLink own i y ∈ TBL) (hk : k < nST) (hy : y.cls = "java/lang/String")
    (ct : Ct l G y bytes maxL ret ⟨fr, 0, 0, lo⟩ (.ref (G.2.2.1 k) :: As) g r g1) (hst : st0 = As.reverse ++ .ref (G.2.2.1 k) :: st) (hn : As.length = n) (hcat : (st.map fun v => v.category).sum ≤ 8) (hR : fr + 1 ≤ rm.frames ∧ 8 + (maxL + 11) + lo ≤ rm.locals)
    (kk : WW M G nL Q kc ks g1 (pc + 3) L (r.toList ++ st)) : WW M G nL Q kc ks g pc L st0 := fun hk1 hk2 => by
  subst hl0
  have hR2 : kc + 0 ≤ rm.cells ∧ ks + 0 ≤ rm.slots := ⟨by rw [← X.2.2.2.2.2]; exact hk1, by rw [← X.2.2.2.2.2]; exact hk2⟩
  refine r_run X (mc := 0) (ms := 0) hR2 (a := (Value.ref (G.2.2.1 k) :: As).toArray) (fun H locs ls hP hS hl => ?_) kk hk1 hk2
  have h5 := yl.2.2.2.2.1 rfl
  obtain ⟨cell, h1, h2, h3, -⟩ := (X.str hk).1.kept hS.2.1
  exact va_runV (C := y.cls) X.1 ct ⟨X.callB yl hm hR, X.w h5.1, X.w h5.2⟩ ⟨PcG.blind, by rw [hy]; exact ⟨cell, h1, h2, h3⟩, X.pre hP hS⟩ rfl hn hl.1 hst (by show 2 * 0 + _ ≤ 8; omega) d (by rw [X.2.2.2.2.2]; exact hR2)
end RowsZ
