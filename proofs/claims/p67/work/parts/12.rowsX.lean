/-! switches, throws, texts -/
section RowsX
variable {M : MC} {G : GG} {cc : ByteArray} {nL : Nat} {own : String} {rm : Room} {Q : State → Prop} {kc ks : Nat} {g : AH} {pc : Nat} {L : List (Nat × Value)} {st : List Value}
theorem r_tswI (X : CX M G cc nL own rm) {dflt lo hi : Int} {offs : Array Int} {len : Nat} {x : Int32} {off : Int} (v : Int32) (tgt : Nat) (d : decode cc pc = .ok (.tableswitch dflt lo hi offs, len)) (hx : x = v) (h1 : ¬ v.toInt < lo) (h2 : ¬ hi < v.toInt) (ho : offs[(v.toInt - lo).toNat]? = some off) (ht : (pc : Int) + off = (tgt : Int)) (k : WW M G nL Q kc ks g tgt L st) : WW M G nL Q kc ks g pc L (.int x :: st) := by
  subst hx
  exact fun hk1 hk2 H locs ls hP hS hl => lv_tableIn X.1.1 X.1.2.1 d h1 h2 ho ht (k hk1 hk2 H locs ls hP hS hl)
theorem r_tswD (X : CX M G cc nL own rm) {dflt lo hi : Int} {offs : Array Int} {len : Nat} {x : Int32} (tgt : Nat) (d : decode cc pc = .ok (.tableswitch dflt lo hi offs, len)) (h : x.toInt < lo ∨ hi < x.toInt) (ht : (pc : Int) + dflt = (tgt : Int)) (k : WW M G nL Q kc ks g tgt L st) : WW M G nL Q kc ks g pc L (.int x :: st) :=
  fun hk1 hk2 H locs ls hP hS hl => lv_tableOut X.1.1 X.1.2.1 d h ht (k hk1 hk2 H locs ls hP hS hl)
theorem tsw_out {x : Int32} {lo hi : Int} (h : ∀ k : Int, lo ≤ k → k ≤ hi → ¬ x = Int32.ofInt k) : x.toInt < lo ∨ hi < x.toInt := by
  rcases Int.lt_or_le x.toInt lo with h1 | h1
  · exact Or.inl h1
  · rcases Int.lt_or_le hi x.toInt with h2 | h2
    · exact Or.inr h2
    · exact absurd (Int32.ofInt_toInt x).symm (h x.toInt h1 h2)
/-- the words of one place that throws -/
def TH (own : String) (ic : Nat) (E9 : String) : Prop := Bundle.fit E9 = true ∧ (∀ w ∈ vx_atS own ic E9 ["java/lang/RuntimeException", "java/lang/Exception"], w ∈ TBL ∨ w ∈ extraW) ∧ Cond.initialized E9 ∈ TBL
theorem th_names : ∀ n ∈ ["java/lang/RuntimeException", "java/lang/Exception"], Bundle.fit n = true := by decide +kernel
theorem CX.th {M : MC} {G : GG} {cc : ByteArray} {nL : Nat} {own : String} {rm : Room} (X : CX M G cc nL own rm) {w : Cond} (h : w ∈ TBL ∨ w ∈ extraW) : w.before (mA M) (mS M) = true := by
  rcases h with h | h
  · exact X.w h
  · exact va_tabs (extra_on w h).1 rfl (X.2.2.2.2.1.2.2.2.2.2.2.1 w h)
theorem th_ot {w : Cond} (h : w ∈ TBL ∨ w ∈ extraW) : vx_ot w = true := by
  rcases h with h | h
  · unfold vx_ot
    rw [(List.mem_filter.mp h).2, Bool.or_true]
  · unfold vx_ot
    rw [(extra_on w h).1, Bool.true_or]
theorem vx_ot_TBL {w : Cond} (h : w ∈ TBL) : vx_ot w = true := by
  unfold vx_ot
  rw [(List.mem_filter.mp h).2, Bool.or_true]
theorem r_throw (X : CX M G cc nL own rm) {l : Launch} (hl0 : M.2.1 = l) (hst : l.stackTraces = false) (hnt : ∀ x ∈ (mC M).exceptionTable.toList, False) {ik is ic j : Nat} {E9 tx : String} {mc ms : Nat} (th : TH own ic E9) (hk : Cond.classLink own ik E9 ∈ TBL) (hw : (own, is, tx, j) ∈ strTab)
    (d0 : decode cc pc = .ok (.new ik, 3)) (d3 : decode cc (pc + 3) = .ok (.dup, 1)) (d4 : decode cc (pc + 4) = .ok (.ldc is, 2)) (d6 : decode cc (pc + 6) = .ok (.invokespecial ic, 3)) (d9 : decode cc (pc + 9) = .ok (.athrow, 1))
    (hR : 5 < rm.frames ∧ (st.map fun v => v.category).sum + 82 ≤ rm.locals) (hc : kc + 1 ≤ mc ∧ mc ≤ rm.cells) (hs : ks + 6 ≤ ms ∧ ms ≤ rm.slots) : WW M G nL (RX M G (.inr E9) (hcut g) mc ms) kc ks g pc L st := by
  subst hl0
  intro hk1 hk2 H locs ls hP hS hl
  have hRR := X.2.2.2.2.2
  exact vx_throwS X.1.1 X.1.2.1 hst X.1.2.2.2.1 th.1 th_names (X.w hk) (X.w th.2.2) (X.2.2.2.2.1.2.1 _ hw) (fun w h => X.th (th.2.1 w h)) (fun w h => th_ot (by
      rcases List.mem_cons.mp h with h | h
      · rw [h]; exact Or.inl hk
      · rcases List.mem_cons.mp h with h | h
        · rw [h]; exact Or.inl th.2.2
        · exact th.2.1 w h)) X.2.2.2.2.1.2.2.2.2.1.1 X.2.2.2.2.1.2.2.2.2.1.2 hS (by rw [hl.1, X.1.2.2.1]) d0 d3 d4 d6 d9 (fun x hx => (hnt x hx).elim)
    (by rw [hRR]; exact hR.1) (by rw [hRR]; exact hR.2) (by rw [hRR]; omega) (by rw [hRR]; omega) X.2.2.2.1
    (fun t hv hz ho => ⟨rfl, hP.cut ho, Nat.le_trans hS.1 hz, fun q h1 h2 => (ho q (Nat.lt_of_lt_of_le h1 hS.1)).trans (hS.2.1 q h1 h2)⟩) hS.2.2 hc.1 hs.1
theorem r_throwW (X : CX M G cc nL own rm) {l : Launch} (hl0 : M.2.1 = l) (hst : l.stackTraces = false) (hnt : ∀ x ∈ (mC M).exceptionTable.toList, False) {ik is ic j : Nat} {E9 tx : String} {mc ms : Nat} (th : TH own ic E9) (hk : Cond.classLink own ik E9 ∈ TBL) (hw : (own, is, tx, j) ∈ strTab)
    (d0 : decode cc pc = .ok (.new ik, 3)) (d3 : decode cc (pc + 3) = .ok (.dup, 1)) (d4 : decode cc (pc + 4) = .ok (.ldc_w is, 3)) (d6 : decode cc (pc + 7) = .ok (.invokespecial ic, 3)) (d9 : decode cc (pc + 10) = .ok (.athrow, 1))
    (hR : 5 < rm.frames ∧ (st.map fun v => v.category).sum + 82 ≤ rm.locals) (hc : kc + 1 ≤ mc ∧ mc ≤ rm.cells) (hs : ks + 6 ≤ ms ∧ ms ≤ rm.slots) : WW M G nL (RX M G (.inr E9) (hcut g) mc ms) kc ks g pc L st := by
  subst hl0
  intro hk1 hk2 H locs ls hP hS hl
  have hRR := X.2.2.2.2.2
  exact vx_throwSW X.1.1 X.1.2.1 hst X.1.2.2.2.1 th.1 th_names (X.w hk) (X.w th.2.2) (X.2.2.2.2.1.2.1 _ hw) (fun w h => X.th (th.2.1 w h)) (fun w h => th_ot (by
      rcases List.mem_cons.mp h with h | h
      · rw [h]; exact Or.inl hk
      · rcases List.mem_cons.mp h with h | h
        · rw [h]; exact Or.inl th.2.2
        · exact th.2.1 w h)) X.2.2.2.2.1.2.2.2.2.1.1 X.2.2.2.2.1.2.2.2.2.1.2 hS (by rw [hl.1, X.1.2.2.1]) d0 d3 d4 d6 d9 (fun x hx => (hnt x hx).elim)
    (by rw [hRR]; exact hR.1) (by rw [hRR]; exact hR.2) (by rw [hRR]; omega) (by rw [hRR]; omega) X.2.2.2.1
    (fun t hv hz ho => ⟨rfl, hP.cut ho, Nat.le_trans hS.1 hz, fun q h1 h2 => (ho q (Nat.lt_of_lt_of_le h1 hS.1)).trans (hS.2.1 q h1 h2)⟩) hS.2.2 hc.1 hs.1
abbrev ovI (o : Int32 ⊕ String) : Option Value ⊕ String := Sum.map (fun v => some (.int v)) id o
abbrev ovU (o : Unit ⊕ String) : Option Value ⊕ String := Sum.map (fun _ => none) id o
theorem r_runX (X : CX M G cc nL own rm) {mc ms : Nat} (hR9 : kc + mc ≤ rm.cells ∧ ks + ms ≤ rm.slots) {r : Option Value} {g1 : AH} {a : Array Value} {st0 : List Value}
    (hrun : ∀ (H : Heap) (locs : List Loc) (ls : Array Slot), Pic G g H → va_S (gA G) (mS M).heap H locs → lv_has ls nL L → vx_Run M.1 M.2.1 M.2.2.1 M.2.2.2.1 (mS M) (mI M) (mA M) (mB M) (mM M) (mC M) H locs kc ks mc ms (F0 (mI M) pc ls st0) st (QcX G (.inl r) g1 a) (XcX G (.inl r) g1) (gA G))
    (kk : WW M G nL Q (kc + mc) (ks + ms) g1 (pc + 3) L (r.toList ++ st)) : WW M G nL Q kc ks g pc L st0 := by
  intro hk1 hk2 H locs ls hP hS hl T hT X9
  rcases hrun H locs ls hP hS hl T hT X9 with ⟨v, st₀, t, T', Lc, h0, X', hL, e1, e2, ⟨⟨hv, hp⟩, hz, hk⟩, stp⟩ | ⟨q, st₀, t, T', Lc, E, ce, h0, X', hL, e1, e2, hF, -⟩
  · cases hv
    rw [h0] at hz hk
    obtain ⟨t2, a1, b1⟩ := kk (by rw [X.2.2.2.2.2]; exact hR9.1) (by rw [X.2.2.2.2.2]; exact hR9.2) T'.heap (locs ++ Lc) ls (by rw [e1]; exact hp)
      ⟨Nat.le_trans hS.1 (by rw [e1]; exact hz), fun q h1 h2 => by rw [e1, hk q (Nat.lt_of_lt_of_le h1 hS.1) h2]; exact hS.2.1 q h1 h2, fun q hq => by
        rcases List.mem_append.mp hq with h | h
        · exact hS.2.2 q h
        · exact hL q h⟩ hl T' rfl X'
    exact ⟨t2, stp t2 a1, b1⟩
  · exact hF.elim
/-- a callee has thrown; it isn't caught here -/
theorem r_runT (X : CX M G cc nL own rm) (hnt : ∀ x ∈ (mC M).exceptionTable.toList, False) {mc ms mc9 ms9 : Nat} (hc9 : kc + mc ≤ mc9) (hs9 : ks + ms ≤ ms9) {E9 : String} {g1 : AH} {a : Array Value} {st0 : List Value}
    (hrun : ∀ (H : Heap) (locs : List Loc) (ls : Array Slot), Pic G g H → va_S (gA G) (mS M).heap H locs → lv_has ls nL L → vx_Run M.1 M.2.1 M.2.2.1 M.2.2.2.1 (mS M) (mI M) (mA M) (mB M) (mM M) (mC M) H locs kc ks mc ms (F0 (mI M) pc ls st0) st (QcX G (.inr E9) g1 a) (XcX G (.inr E9) g1) (gA G)) :
    WW M G nL (RX M G (.inr E9) g1 mc9 ms9) kc ks g pc L st0 := by
  intro hk1 hk2 H locs ls hP hS hl T hT X9
  rcases hrun H locs ls hP hS hl T hT X9 with ⟨v, st₀, t, T', Lc, h0, X', hL, e1, e2, hF, -⟩ | ⟨q, st₀, t, T', Lc, E, ce, h0, X', hL, e1, e2, ⟨rfl, hp, hz, hk⟩, hce, hcv, hcl, stp⟩
  · exact hF.elim
  · rw [h0] at hz hk
    have hS' : va_S (gA G) (mS M).heap T'.heap (locs ++ Lc) := ⟨Nat.le_trans hS.1 (by rw [e1]; exact hz), fun q h1 h2 => by rw [e1, hk q (Nat.lt_of_lt_of_le h1 hS.1) h2]; exact hS.2.1 q h1 h2, fun q hq => by
        rcases List.mem_append.mp hq with h | h
        · exact hS.2.2 q h
        · exact hL q h⟩
    obtain ⟨t2, a1, b1⟩ := vx_out (H := T'.heap) (pc := pc) (ls := ls) (rest := st) (E := E) (ce := ce) (Qc := QcX G (.inr E) g1) (XC := XcX G (.inr E) g1) (free := gA G) (fun x hx => (hnt x hx).elim) X.2.2.2.1 (by rw [e1]; exact hce) hcv hcl
      (fun t9 ht9 _ => ⟨rfl, by rw [ht9, e1]; exact hp, hS'.F ht9⟩) hS'.2.2 hc9 hs9 T' rfl X'
    exact ⟨t2, stp.trans a1, b1⟩
theorem r_callVX (X : CX M G cc nL own rm) {l : Launch} (hl0 : M.2.1 = l) {i n ci b : Nat} {y : MethodName} {bytes : ByteArray} {maxL : Nat} {ret : Option FieldType} {rmc : Room} {As : List Value} {r : Option Value} {g1 : AH} {st0 : List Value} {rc : vw_C} (d : decode cc pc = .ok (.invokevirtual i, 3)) (yl : YL 0 y bytes maxL ret n) (hm : Cond.methodLink own i y ∈ TBL) (hc : vwCl[ci]? = some rc) (hy : y.cls = rc.1) (hb : isO ci g b = some ())
    (ct : CtX l G y bytes maxL ret rmc (.ref b :: As) g (.inl r) g1) (hst : st0 = As.reverse ++ .ref b :: st) (hn : As.length = n) (hcat : (st.map fun v => v.category).sum ≤ 8) (hR : (rmc.frames + 1 ≤ rm.frames ∧ 8 + (maxL + 11) + rmc.locals ≤ rm.locals) ∧ kc + rmc.cells ≤ rm.cells ∧ ks + rmc.slots ≤ rm.slots)
    (kk : WW M G nL Q (kc + rmc.cells) (ks + rmc.slots) g1 (pc + 3) L (r.toList ++ st)) : WW M G nL Q kc ks g pc L st0 := by
  subst hl0
  refine r_runX X hR.2 (a := (Value.ref b :: As).toArray) (fun H locs ls hP hS hl => ?_) kk
  have h5 := yl.2.2.2.2.1 rfl
  exact vx_runV (C := y.cls) X.1 ct ⟨X.callB yl hm hR.1, X.w h5.1, X.w h5.2⟩ ⟨PcG.blind, by rw [hy]; exact X.recv hP hc hb, X.pre hP hS⟩ rfl hn hl.1 hst (by show 2 * 0 + _ ≤ 8; omega) d (by rw [X.2.2.2.2.2]; exact hR.2)
theorem r_thrV (X : CX M G cc nL own rm) {l : Launch} (hl0 : M.2.1 = l) (hnt : ∀ x ∈ (mC M).exceptionTable.toList, False) {i n ci b : Nat} {y : MethodName} {bytes : ByteArray} {maxL : Nat} {ret : Option FieldType} {rmc : Room} {As : List Value} {E9 : String} {g1 : AH} {st0 : List Value} {rc : vw_C} {mc ms : Nat} (d : decode cc pc = .ok (.invokevirtual i, 3)) (yl : YL 0 y bytes maxL ret n) (hm : Cond.methodLink own i y ∈ TBL) (hc : vwCl[ci]? = some rc) (hy : y.cls = rc.1) (hb : isO ci g b = some ())
    (ct : CtX l G y bytes maxL ret rmc (.ref b :: As) g (.inr E9) g1) (hst : st0 = As.reverse ++ .ref b :: st) (hn : As.length = n) (hcat : (st.map fun v => v.category).sum ≤ 8) (hR : rmc.frames + 1 ≤ rm.frames ∧ 8 + (maxL + 11) + rmc.locals ≤ rm.locals) (hc9 : kc + rmc.cells ≤ mc ∧ mc ≤ rm.cells) (hs9 : ks + rmc.slots ≤ ms ∧ ms ≤ rm.slots) : WW M G nL (RX M G (.inr E9) g1 mc ms) kc ks g pc L st0 := by
  subst hl0
  refine r_runT X hnt hc9.1 hs9.1 (a := (Value.ref b :: As).toArray) (st := st) (fun H locs ls hP hS hl => ?_)
  have h5 := yl.2.2.2.2.1 rfl
  exact vx_runV (C := y.cls) X.1 ct ⟨X.callB yl hm hR, X.w h5.1, X.w h5.2⟩ ⟨PcG.blind, by rw [hy]; exact X.recv hP hc hb, X.pre hP hS⟩ rfl hn hl.1 hst (by show 2 * 0 + _ ≤ 8; omega) d (by rw [X.2.2.2.2.2]; omega)
theorem r_callSX (X : CX M G cc nL own rm) {l : Launch} (hl0 : M.2.1 = l) {i n : Nat} {y : MethodName} {bytes : ByteArray} {maxL : Nat} {ret : Option FieldType} {rmc : Room} {As : List Value} {r : Option Value} {g1 : AH} {st0 : List Value} (d : decode cc pc = .ok (.invokestatic i, 3)) (yl : YL 1 y bytes maxL ret n) (hm : Cond.methodLink own i y ∈ TBL)
    (ct : CtX l G y bytes maxL ret rmc As g (.inl r) g1) (hst : st0 = As.reverse ++ st) (hn : As.length = n) (hcat : (st.map fun v => v.category).sum ≤ 8) (hR : (rmc.frames + 1 ≤ rm.frames ∧ 8 + (maxL + 11) + rmc.locals ≤ rm.locals) ∧ kc + rmc.cells ≤ rm.cells ∧ ks + rmc.slots ≤ rm.slots)
    (kk : WW M G nL Q (kc + rmc.cells) (ks + rmc.slots) g1 (pc + 3) L (r.toList ++ st)) : WW M G nL Q kc ks g pc L st0 := by
  subst hl0
  refine r_runX X hR.2 (a := As.toArray) (fun H locs ls hP hS hl => ?_) kk
  exact vx_runS X.1 ct ⟨X.callB yl hm hR.1, X.w (yl.2.2.2.2.2.1 rfl)⟩ ⟨PcG.blind, X.pre hP hS⟩ rfl hn hl.1 hst (by show 2 * 0 + _ ≤ 8; omega) d (by rw [X.2.2.2.2.2]; exact hR.2)
theorem r_thrS (X : CX M G cc nL own rm) {l : Launch} (hl0 : M.2.1 = l) (hnt : ∀ x ∈ (mC M).exceptionTable.toList, False) {i n : Nat} {y : MethodName} {bytes : ByteArray} {maxL : Nat} {ret : Option FieldType} {rmc : Room} {As : List Value} {E9 : String} {g1 : AH} {st0 : List Value} {mc ms : Nat} (d : decode cc pc = .ok (.invokestatic i, 3)) (yl : YL 1 y bytes maxL ret n) (hm : Cond.methodLink own i y ∈ TBL)
    (ct : CtX l G y bytes maxL ret rmc As g (.inr E9) g1) (hst : st0 = As.reverse ++ st) (hn : As.length = n) (hcat : (st.map fun v => v.category).sum ≤ 8) (hR : rmc.frames + 1 ≤ rm.frames ∧ 8 + (maxL + 11) + rmc.locals ≤ rm.locals) (hc9 : kc + rmc.cells ≤ mc ∧ mc ≤ rm.cells) (hs9 : ks + rmc.slots ≤ ms ∧ ms ≤ rm.slots) : WW M G nL (RX M G (.inr E9) g1 mc ms) kc ks g pc L st0 := by
  subst hl0
  refine r_runT X hnt hc9.1 hs9.1 (a := As.toArray) (st := st) (fun H locs ls hP hS hl => ?_)
  exact vx_runS X.1 ct ⟨X.callB yl hm hR, X.w (yl.2.2.2.2.2.1 rfl)⟩ ⟨PcG.blind, X.pre hP hS⟩ rfl hn hl.1 hst (by show 2 * 0 + _ ≤ 8; omega) d (by rw [X.2.2.2.2.2]; omega)
end RowsX
theorem ctX_of {l : Launch} {G : GG} {kind n : Nat} {y : MethodName} {bytes : ByteArray} {maxL : Nat} {ret : Option FieldType} {rm : Room} {av : List Value} {g g1 : AH} {o : Option Value ⊕ String} {L0 : List (Nat × Value)} (yl : YL kind y bytes maxL ret n) (hL : lv_args 0 av = L0) (hlen : (lg_sl av).length ≤ maxL)
    (body : ∀ M : MC, M.2.1 = l → CX M G bytes maxL y.cls rm → (mM M).sig.returnType = ret → (mM M).name = y.name → (∀ x ∈ (mC M).exceptionTable.toList, False) → WW M G maxL (RX M G o g1 rm.cells rm.slots) 0 0 g 0 L0 []) : CtX l G y bytes maxL ret rm av g o g1 := by
  refine vx_ofW (cc := bytes) (maxL := maxL) (ret := ret) yl.1 rfl ?_
  intro p e s m args below meth c s₁ B hml hnt hv
  obtain ⟨rfl, hP, hK, hSC, hB⟩ := hv
  have hts := atoms_spec (ws := cw y bytes maxL ret) B.pre
  rw [lg_entry_eq]
  have hl := lv_entry av (n := maxL) hlen
  rw [hL] at hl
  exact body (p, l, e, rm, s, m, av.toArray, below, meth, c) rfl ⟨⟨B.exec, B.bytes, hml, findClass_of_methodNamed B.named, fun w hw => hts w (List.mem_cons_of_mem _ hw)⟩, hK, hB, B.notSynchronized, hSC, rfl⟩ B.returns (name_of_methodNamed B.named B.method).1 hnt (Nat.zero_le _) (Nat.zero_le _) s.heap [] _ hP va_S.rf hl
