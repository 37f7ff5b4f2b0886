/-! calls, returns, throws -/
def cw (y : MethodName) (bytes : ByteArray) (maxL : Nat) (ret : Option FieldType) : List Cond := Cond.code y bytes maxL ret :: TBL
def PcG (G : GG) (g : AH) (av : List Value) : Array Value → State → Prop := va_Pc av (fun U => Pic G g U.heap ∧ va_K G.1.1 vwCl (tysG G) U ∧ SC G U U.heap ∧ G.2.1 ≤ U.heap.size)
def QcG (G : GG) (r : Option Value) (g1 : AH) : Array Value → State → Outcome → State → Prop := fun _ st oc t => (oc = .returned r ∧ Pic G g1 t.heap) ∧ va_F (gA G) st t
def QcX (G : GG) (o : Option Value ⊕ String) (g1 : AH) : Array Value → State → Outcome → State → Prop := match o with
  | .inl r => QcG G r g1
  | .inr _ => fun _ _ _ _ => False
def XcX (G : GG) (o : Option Value ⊕ String) (g1 : AH) : String → State → State → Prop := match o with
  | .inl _ => fun _ _ _ => False
  | .inr E9 => fun E st t => E = E9 ∧ Pic G g1 t.heap ∧ va_F (gA G) st t
/-- a method's contract: from the picture g, with these arguments, it returns r and leaves the picture g1 -/
def Ct (l : Launch) (G : GG) (y : MethodName) (bytes : ByteArray) (maxL : Nat) (ret : Option FieldType) (rm : Room) (av : List Value) (g : AH) (r : Option Value) (g1 : AH) : Prop :=
  Met l y (cw y bytes maxL ret) rm (PcG G g av) (QcG G r g1) rm.cells rm.slots (gA G)
/-- .. or throws -/
def CtX (l : Launch) (G : GG) (y : MethodName) (bytes : ByteArray) (maxL : Nat) (ret : Option FieldType) (rm : Room) (av : List Value) (g : AH) (o : Option Value ⊕ String) (g1 : AH) : Prop :=
  vx_Met l y (cw y bytes maxL ret) rm (PcG G g av) (QcX G o g1) (XcX G o g1) rm.cells rm.slots (gA G)
def RQ (M : MC) (G : GG) (r : Option Value) (g1 : AH) (mc ms : Nat) : State → Prop := MQ (mB M) (QcG G r g1) (mA M) (mS M) mc ms (gA G)
def RX (M : MC) (G : GG) (o : Option Value ⊕ String) (g1 : AH) (mc ms : Nat) : State → Prop := vx_MQ (mB M) (QcX G o g1) (XcX G o g1) (mA M) (mS M) mc ms (gA G)
theorem PcG.blind {G : GG} {g : AH} {av : List Value} : FrameBlind (PcG G g av) := fun a U gg mk h =>
  ⟨h.1, h.2.1, va_K.moved (u := U) (U := U.calling gg mk a) (Vm.Alike.refl U.vm) h.2.2.1, SC.same h.2.2.2.1 rfl, h.2.2.2.2⟩
section RowsC
variable {M : MC} {G : GG} {cc : ByteArray} {nL : Nat} {own : String} {rm : Room} {Q : State → Prop} {kc ks : Nat} {g : AH} {pc : Nat} {L : List (Nat × Value)} {st : List Value}
theorem acpy_spec {g g1 : AH} {a b : Nat} {i j n : Int32} (h : acpy g a i b j n = some g1) : ∃ (n0 n1 : Nat) (f f1 : Nat → Int32), g.1 a = some (.inr (0, n0, .inl f)) ∧ g.1 b = some (.inr (0, n1, .inl f1)) ∧ ¬ i < 0 ∧ ¬ j < 0 ∧ ¬ n < 0 ∧ i.toNatClampNeg + n.toNatClampNeg ≤ n0 ∧ j.toNatClampNeg + n.toNatClampNeg ≤ n1 ∧ g1 = hset g b (.inr (0, n1, .inl (va_cpy f f1 i.toNatClampNeg j.toNatClampNeg n.toNatClampNeg))) := by
  unfold acpy at h
  split at h
  · rename_i k n0 f k1 n1 f1 h1 h2
    split at h
    · rename_i hc
      obtain ⟨rfl, rfl, c1, c2, c3, c4, c5⟩ := hc
      exact ⟨n0, n1, f, f1, h1, h2, c1, c2, c3, c4, c5, (Option.some.inj h).symm⟩
    · cases h
  · cases h
theorem r_copy (X : CX M G cc nL own rm) {i a b : Nat} {sp dp n : Int32} {g1 : AH} (d : decode cc pc = .ok (.invokestatic i, 3)) (hm : Cond.methodLink own i arraycopyName ∈ TBL) (hR1 : 1 ≤ rm.frames) (hR2 : (st.map fun v => v.category).sum + (nativeFrameWords "java/lang/System" "arraycopy" 5 + 11) ≤ rm.locals) (h : acpy g a sp b dp n = some g1)
    (kk : WW M G nL Q kc ks g1 (pc + 3) L st) : WW M G nL Q kc ks g pc L (.int n :: .int dp :: .ref b :: .int sp :: .ref a :: st) := by
  obtain ⟨n0, n1, f, f1, ha, hb, h1, h2, h3, h4, h5, rfl⟩ := acpy_spec h
  have nn : ∀ z : Int32, ¬ z < 0 → z.toInt = (z.toNatClampNeg : Int) := by
    intro z hz
    have hz0 : (0 : Int) ≤ z.toInt := by
      have := Int32.not_lt.mp hz
      simpa using Int32.le_iff_toInt_le.mp this
    show z.toInt = ((z.toInt.toNat : Nat) : Int)
    omega
  intro hk1 hk2 H locs ls hP hS hl T hT X9
  have hc0 : H[a]? = some (vp_cell (G.1.2 0) (n0, .inl f)) := (hP.1 a _ ha).1
  have hc1 : H[b]? = some (vp_cell (G.1.2 0) (n1, .inl f1)) := (hP.1 b _ hb).1
  have hBb := (hP.1 b _ hb).2
  have hq1 := hk1
  have hq2 := hk2
  obtain ⟨-, k0, hk0, cm0, hkk0⟩ := (X.arr (t := 0) (by decide)).1 n0 (fun j => .int (f j))
  obtain ⟨-, k1, hk1, cm1, hkk1⟩ := (X.arr (t := 0) (by decide)).1 n1 (fun j => .int (f1 j))
  obtain ⟨vm', X', step⟩ := X9.arraycopy X.1.1 X.1.2.2.2.1 (X.w hm) (X.w z_copy.1) (X.w z_copy.2.1) (X.w z_copy.2.2) (src := a) (dst := b) (cs := vp_cell (G.1.2 0) (n0, .inl f)) (cd := vp_cell (G.1.2 0) (n1, .inl f1)) (srcPos := sp) (destPos := dp) (n := n) (by rw [hT]; exact hc0) (by rw [hT]; exact hc1)
    (fun _ h => by cases h) (fun _ h => by cases h) (fun h => by cases h) (fun h => by cases h) hk0 hk1 hkk0 hkk1 (by rfl) h1 h2 h3
    (by rw [nn sp h1, nn n h3]; show ¬ _ > ((arrV (G.1.2 0) n0 (fun j => .int (f j))).slots.size : Int); rw [arrV_size]; omega)
    (by rw [nn dp h2, nn n h3]; show ¬ _ > ((arrV (G.1.2 0) n1 (fun j => .int (f1 j))).slots.size : Int); rw [arrV_size]; omega)
    (fun vm₁ _ i hi => by
      have e : (vp_cell (G.1.2 0) (n0, .inl f)).slots.getD (sp.toNatClampNeg + i) .null = .int (f (sp.toNatClampNeg + i)) := by
        show (arrV (G.1.2 0) n0 (fun j => .int (f j))).slots.getD _ _ = _
        rw [Array.getD_eq_getD_getElem?, arrV_read _ _ (by omega)]
        rfl
      refine ⟨?_, ?_⟩
      · rw [e]
        rfl
      · rw [e]
        exact trivial)
    (g := F0 (mI M) pc ls (.int n :: .int dp :: .ref b :: .int sp :: .ref a :: st)) rfl (by show ls.size = _; rw [hl.1, X.1.2.2.1]) (rest := st) rfl (by rw [X.1.2.1]; exact d) (by rw [X.2.2.2.2.2]; exact hR1) (by rw [X.2.2.2.2.2]; show 2 * 0 + _ + _ ≤ _; omega)
  have e1 : copied (vp_cell (G.1.2 0) (n0, .inl f)) (vp_cell (G.1.2 0) (n1, .inl f1)) sp dp n = vp_cell (G.1.2 0) (n1, .inl (va_cpy f f1 sp.toNatClampNeg dp.toNatClampNeg n.toNatClampNeg)) := va_copied (fun z => .int z) (G.1.2 0) (G.1.2 0) f f1 h4
  rw [e1] at X' step
  have hlb : b < H.size := (Array.getElem?_eq_some_iff.mp hc1).1
  have hheap : ((T.setVm vm').setCell b (vp_cell (G.1.2 0) (n1, .inl (va_cpy f f1 sp.toNatClampNeg dp.toNatClampNeg n.toNatClampNeg)))).heap = H.setIfInBounds b (vp_cell (G.1.2 0) (n1, .inl (va_cpy f f1 sp.toNatClampNeg dp.toNatClampNeg n.toNatClampNeg))) := by rw [← hT]; rfl
  have oq : ∀ q : Nat, q ≠ b → (H.setIfInBounds b (vp_cell (G.1.2 0) (n1, .inl (va_cpy f f1 sp.toNatClampNeg dp.toNatClampNeg n.toNatClampNeg))))[q]? = H[q]? := fun q hq => by simp [Array.getElem?_setIfInBounds, Ne.symm hq]
  obtain ⟨t, a1, b1⟩ := kk hq1 hq2 _ _ ls (hP.set hBb (show (H.setIfInBounds b _)[b]? = some _ by simp [Array.getElem?_setIfInBounds, hlb]; rfl) (by simp) oq) ⟨by simp; exact hS.1, fun q g1 g2 => by
      rw [oq q (fun e => g2 (by rw [e]; exact hBb))]
      exact hS.2.1 q g1 g2, fun q hq => by
      rcases List.mem_append.mp hq with h | h
      · exact hS.2.2 q h
      · obtain ⟨z, -, hz⟩ := List.mem_map.mp h
        rw [← hz]
        exact hBb⟩ hl _ hheap X'
  exact ⟨t, step t a1, b1⟩
theorem good_TBL {w : Cond} (h : w ∈ TBL) : (w.onTables && w.keeps) = true ∨ ∃ ty, w = .arrayClass ty := good_of_word (List.mem_filter.mp h).2
theorem CX.ws (X : CX M G cc nL own rm) {y : MethodName} {bytes : ByteArray} {maxL : Nat} {ret : Option FieldType} (hc : Cond.code y bytes maxL ret ∈ TBL) : ∀ w ∈ cw y bytes maxL ret, ∀ (a' : Array Value) (U : State), (mS M).WarmedH U.vm → w.before a' U = true := by
  intro w hw a' U hW
  have hT : w ∈ TBL := by
    rcases List.mem_cons.mp hw with h | h
    · rw [h]; exact hc
    · exact h
  exact word_at hW (good_TBL hT) (X.w hT)
theorem desc_n {y : MethodName} {n : Nat} (h : (parseMethodDescriptor y.desc).map (fun d => d.parameters.length) = some n) : ∀ sig, parseMethodDescriptor y.desc = some sig → n = sig.parameters.length := by
  intro sig hs
  rw [hs] at h
  exact (Option.some.inj h).symm
theorem CX.callB (X : CX M G cc nL own rm) {kind i n : Nat} {y : MethodName} {bytes : ByteArray} {maxL : Nat} {ret : Option FieldType} {rmc : Room} (yl : YL kind y bytes maxL ret n) (hm : Cond.methodLink own i y ∈ TBL) (hR : rmc.frames + 1 ≤ rm.frames ∧ 8 + (maxL + 11) + rmc.locals ≤ rm.locals) :
    CallB M.2.2.2.1 (mS M) (mA M) own i y bytes maxL ret (cw y bytes maxL ret) rmc rmc.cells rmc.slots n :=
  ⟨rfl, rfl, by rw [X.2.2.2.2.2]; exact hR.1, by rw [X.2.2.2.2.2]; exact hR.2, X.ws yl.2.1, List.mem_cons_self, X.w yl.2.1, X.w yl.2.2.1, ⟨yl.2.2.2.1.1, yl.2.2.2.1.2.1⟩, desc_n yl.2.2.2.1.2.2, X.w hm⟩
theorem CX.callN (X : CX M G cc nL own rm) {kind i n : Nat} {y : MethodName} {bytes : ByteArray} {maxL : Nat} {ret : Option FieldType} {rmc : Room} (yl : YL kind y bytes maxL ret n) (hm : (own, i, y) ∈ nestTab) (hR : rmc.frames + 1 ≤ rm.frames ∧ 8 + (maxL + 11) + rmc.locals ≤ rm.locals) :
    va_CN M.2.2.2.1 (mS M) (mA M) own i y "HutLedger" bytes maxL ret (cw y bytes maxL ret) rmc rmc.cells rmc.slots n :=
  ⟨⟨rfl, rfl, by rw [X.2.2.2.2.2]; exact hR.1, by rw [X.2.2.2.2.2]; exact hR.2, X.ws yl.2.1, List.mem_cons_self⟩, X.w yl.2.1, X.w yl.2.2.1, ⟨yl.2.2.2.1.1, yl.2.2.2.1.2.1⟩, desc_n yl.2.2.2.1.2.2, va_Nw.use rfl (X.2.2.2.2.1.2.2.1 _ hm)⟩
theorem CX.pre (X : CX M G cc nL own rm) {H : Heap} {locs : List Loc} (hP : Pic G g H) (hS : va_S (gA G) (mS M).heap H locs) {av : List Value} : ∀ U : State, U.heap = H → (mS M).WarmedH U.vm → PcG G g av av.toArray U := by
  intro U hU hW
  subst hU
  exact ⟨rfl, hP, va_K.moved hW.alike X.2.1, X.2.2.2.2.1.warm hW (fun q h1 h2 => hS.2.1 q h1 h2), Nat.le_trans X.2.2.1 hS.1⟩
theorem CX.recv (X : CX M G cc nL own rm) {H : Heap} (hP : Pic G g H) {ci b : Nat} {r : vw_C} (hc : vwCl[ci]? = some r) (hb : isO ci g b = some ()) : ∃ cell : Cell, H[b]? = some cell ∧ cell.vm.isStatics = false ∧ (mS M).vm.findClass r.1 = some cell.cls := by
  obtain ⟨V, hV⟩ := isO_spec hb
  obtain ⟨⟨q', h1, cell, g1, g2, g3, -⟩, -⟩ := hP.1 b _ hV
  exact ⟨cell, g1, by rw [g3]; rfl, by rw [g2]; exact (X.2.1.1 ci r hc).2.1⟩
theorem r_run (X : CX M G cc nL own rm) {mc ms : Nat} (hR9 : kc + mc ≤ rm.cells ∧ ks + ms ≤ rm.slots) {r : Option Value} {g1 : AH} {a : Array Value} {st0 : List Value}
    (hrun : ∀ (H : Heap) (locs : List Loc) (ls : Array Slot), Pic G g H → va_S (gA G) (mS M).heap H locs → lv_has ls nL L → va_Run M.1 M.2.1 M.2.2.1 M.2.2.2.1 (mS M) (mI M) (mA M) (mB M) (mM M) (mC M) H locs kc ks mc ms (F0 (mI M) pc ls st0) st (QcG G r g1 a) (gA G))
    (kk : WW M G nL Q (kc + mc) (ks + ms) g1 (pc + 3) L (r.toList ++ st)) : WW M G nL Q kc ks g pc L st0 := by
  intro hk1 hk2 H locs ls hP hS hl T hT X9
  obtain ⟨v, st₀, t, T', Lc, h0, X', hL, e1, e2, ⟨⟨hv, hp⟩, hz, hk⟩, stp⟩ := hrun H locs ls hP hS hl T hT X9
  cases hv
  rw [h0] at hz hk
  obtain ⟨t2, a1, b1⟩ := kk (by rw [X.2.2.2.2.2]; exact hR9.1) (by rw [X.2.2.2.2.2]; exact hR9.2) T'.heap (locs ++ Lc) ls (by rw [e1]; exact hp)
    ⟨Nat.le_trans hS.1 (by rw [e1]; exact hz), fun q h1 h2 => by rw [e1, hk q (Nat.lt_of_lt_of_le h1 hS.1) h2]; exact hS.2.1 q h1 h2, fun q hq => by
      rcases List.mem_append.mp hq with h | h
      · exact hS.2.2 q h
      · exact hL q h⟩ hl T' rfl X'
  exact ⟨t2, stp t2 a1, b1⟩
theorem r_callV (X : CX M G cc nL own rm) {l : Launch} (hl0 : M.2.1 = l) {i n ci b : Nat} {y : MethodName} {bytes : ByteArray} {maxL : Nat} {ret : Option FieldType} {rmc : Room} {As : List Value} {r : Option Value} {g1 : AH} {st0 : List Value} {rc : vw_C} (d : decode cc pc = .ok (.invokevirtual i, 3)) (yl : YL 0 y bytes maxL ret n) (hm : Cond.methodLink own i y ∈ TBL) (hc : vwCl[ci]? = some rc) (hy : y.cls = rc.1) (hb : isO ci g b = some ())
    (ct : Ct l G y bytes maxL ret rmc (.ref b :: As) g r g1) (hst : st0 = As.reverse ++ .ref b :: st) (hn : As.length = n) (hcat : (st.map fun v => v.category).sum ≤ 8) (hR : (rmc.frames + 1 ≤ rm.frames ∧ 8 + (maxL + 11) + rmc.locals ≤ rm.locals) ∧ kc + rmc.cells ≤ rm.cells ∧ ks + rmc.slots ≤ rm.slots)
    (kk : WW M G nL Q (kc + rmc.cells) (ks + rmc.slots) g1 (pc + 3) L (r.toList ++ st)) : WW M G nL Q kc ks g pc L st0 := by
  subst hl0
  refine r_run X hR.2 (a := (Value.ref b :: As).toArray) (fun H locs ls hP hS hl => ?_) kk
  have h5 := yl.2.2.2.2.1 rfl
  exact va_runV (C := y.cls) X.1 ct ⟨X.callB yl hm hR.1, X.w h5.1, X.w h5.2⟩ ⟨PcG.blind, by rw [hy]; exact X.recv hP hc hb, X.pre hP hS⟩ rfl hn hl.1 hst (by show 2 * 0 + _ ≤ 8; omega) d (by rw [X.2.2.2.2.2]; exact hR.2)
theorem r_callVN (X : CX M G cc nL own rm) {l : Launch} (hl0 : M.2.1 = l) {i n ci b : Nat} {y : MethodName} {bytes : ByteArray} {maxL : Nat} {ret : Option FieldType} {rmc : Room} {As : List Value} {r : Option Value} {g1 : AH} {st0 : List Value} {rc : vw_C} (d : decode cc pc = .ok (.invokevirtual i, 3)) (yl : YL 0 y bytes maxL ret n) (hm : (own, i, y) ∈ nestTab) (hc : vwCl[ci]? = some rc) (hy : y.cls = rc.1) (hb : isO ci g b = some ())
    (ct : Ct l G y bytes maxL ret rmc (.ref b :: As) g r g1) (hst : st0 = As.reverse ++ .ref b :: st) (hn : As.length = n) (hcat : (st.map fun v => v.category).sum ≤ 8) (hR : (rmc.frames + 1 ≤ rm.frames ∧ 8 + (maxL + 11) + rmc.locals ≤ rm.locals) ∧ kc + rmc.cells ≤ rm.cells ∧ ks + rmc.slots ≤ rm.slots)
    (kk : WW M G nL Q (kc + rmc.cells) (ks + rmc.slots) g1 (pc + 3) L (r.toList ++ st)) : WW M G nL Q kc ks g pc L st0 := by
  subst hl0
  refine r_run X hR.2 (a := (Value.ref b :: As).toArray) (fun H locs ls hP hS hl => ?_) kk
  have h5 := yl.2.2.2.2.1 rfl
  exact va_runVN (C := y.cls) X.1 ct ⟨X.callN yl hm hR.1, X.w h5.1, X.w h5.2⟩ ⟨PcG.blind, by rw [hy]; exact X.recv hP hc hb, X.pre hP hS⟩ rfl hn hl.1 hst (by show 2 * 0 + _ ≤ 8; omega) d (by rw [X.2.2.2.2.2]; exact hR.2)
theorem r_callS (X : CX M G cc nL own rm) {l : Launch} (hl0 : M.2.1 = l) {i n : Nat} {y : MethodName} {bytes : ByteArray} {maxL : Nat} {ret : Option FieldType} {rmc : Room} {As : List Value} {r : Option Value} {g1 : AH} {st0 : List Value} (d : decode cc pc = .ok (.invokestatic i, 3)) (yl : YL 1 y bytes maxL ret n) (hm : Cond.methodLink own i y ∈ TBL)
    (ct : Ct l G y bytes maxL ret rmc As g r g1) (hst : st0 = As.reverse ++ st) (hn : As.length = n) (hcat : (st.map fun v => v.category).sum ≤ 8) (hR : (rmc.frames + 1 ≤ rm.frames ∧ 8 + (maxL + 11) + rmc.locals ≤ rm.locals) ∧ kc + rmc.cells ≤ rm.cells ∧ ks + rmc.slots ≤ rm.slots)
    (kk : WW M G nL Q (kc + rmc.cells) (ks + rmc.slots) g1 (pc + 3) L (r.toList ++ st)) : WW M G nL Q kc ks g pc L st0 := by
  subst hl0
  refine r_run X hR.2 (a := As.toArray) (fun H locs ls hP hS hl => ?_) kk
  exact va_runS X.1 ct ⟨X.callB yl hm hR.1, X.w (yl.2.2.2.2.2.1 rfl)⟩ ⟨PcG.blind, X.pre hP hS⟩ rfl hn hl.1 hst (by show 2 * 0 + _ ≤ 8; omega) d (by rw [X.2.2.2.2.2]; exact hR.2)
theorem r_callSN (X : CX M G cc nL own rm) {l : Launch} (hl0 : M.2.1 = l) {i n : Nat} {y : MethodName} {bytes : ByteArray} {maxL : Nat} {ret : Option FieldType} {rmc : Room} {As : List Value} {r : Option Value} {g1 : AH} {st0 : List Value} (d : decode cc pc = .ok (.invokestatic i, 3)) (yl : YL 1 y bytes maxL ret n) (hm : (own, i, y) ∈ nestTab)
    (ct : Ct l G y bytes maxL ret rmc As g r g1) (hst : st0 = As.reverse ++ st) (hn : As.length = n) (hcat : (st.map fun v => v.category).sum ≤ 8) (hR : (rmc.frames + 1 ≤ rm.frames ∧ 8 + (maxL + 11) + rmc.locals ≤ rm.locals) ∧ kc + rmc.cells ≤ rm.cells ∧ ks + rmc.slots ≤ rm.slots)
    (kk : WW M G nL Q (kc + rmc.cells) (ks + rmc.slots) g1 (pc + 3) L (r.toList ++ st)) : WW M G nL Q kc ks g pc L st0 := by
  subst hl0
  refine r_run X hR.2 (a := As.toArray) (fun H locs ls hP hS hl => ?_) kk
  exact va_runSN X.1 ct ⟨X.callN yl hm hR.1, X.w (yl.2.2.2.2.2.1 rfl), trivial⟩ ⟨PcG.blind, X.pre hP hS⟩ rfl hn hl.1 hst (by show 2 * 0 + _ ≤ 8; omega) d (by rw [X.2.2.2.2.2]; exact hR.2)
theorem r_callI (X : CX M G cc nL own rm) {l : Launch} (hl0 : M.2.1 = l) {i n b : Nat} {y : MethodName} {bytes : ByteArray} {maxL : Nat} {rmc : Room} {As : List Value} {r : Option Value} {g1 : AH} {st0 : List Value} (d : decode cc pc = .ok (.invokespecial i, 3)) (yl : YL 2 y bytes maxL none n) (hm : Cond.methodLink own i y ∈ TBL)
    (ct : Ct l G y bytes maxL none rmc (.ref b :: As) g r g1) (hst : st0 = As.reverse ++ .ref b :: st) (hn : As.length = n) (hcat : (st.map fun v => v.category).sum ≤ 8) (hR : (rmc.frames + 1 ≤ rm.frames ∧ 8 + (maxL + 11) + rmc.locals ≤ rm.locals) ∧ kc + rmc.cells ≤ rm.cells ∧ ks + rmc.slots ≤ rm.slots)
    (kk : WW M G nL Q (kc + rmc.cells) (ks + rmc.slots) g1 (pc + 3) L (r.toList ++ st)) : WW M G nL Q kc ks g pc L st0 := by
  subst hl0
  refine r_run X hR.2 (a := (Value.ref b :: As).toArray) (fun H locs ls hP hS hl => ?_) kk
  have h5 := yl.2.2.2.2.2.2 rfl
  exact va_runI X.1 ct ⟨X.callB yl hm hR.1, h5.2, X.w h5.1⟩ ⟨PcG.blind, X.pre hP hS⟩ rfl hn hl.1 hst (by show 2 * 0 + _ ≤ 8; omega) d (by rw [X.2.2.2.2.2]; exact hR.2)
theorem r_callIN (X : CX M G cc nL own rm) {l : Launch} (hl0 : M.2.1 = l) {i n b : Nat} {y : MethodName} {bytes : ByteArray} {maxL : Nat} {rmc : Room} {As : List Value} {r : Option Value} {g1 : AH} {st0 : List Value} (d : decode cc pc = .ok (.invokespecial i, 3)) (yl : YL 2 y bytes maxL none n) (hm : (own, i, y) ∈ nestTab)
    (ct : Ct l G y bytes maxL none rmc (.ref b :: As) g r g1) (hst : st0 = As.reverse ++ .ref b :: st) (hn : As.length = n) (hcat : (st.map fun v => v.category).sum ≤ 8) (hR : (rmc.frames + 1 ≤ rm.frames ∧ 8 + (maxL + 11) + rmc.locals ≤ rm.locals) ∧ kc + rmc.cells ≤ rm.cells ∧ ks + rmc.slots ≤ rm.slots)
    (kk : WW M G nL Q (kc + rmc.cells) (ks + rmc.slots) g1 (pc + 3) L (r.toList ++ st)) : WW M G nL Q kc ks g pc L st0 := by
  subst hl0
  refine r_run X hR.2 (a := (Value.ref b :: As).toArray) (fun H locs ls hP hS hl => ?_) kk
  have h5 := yl.2.2.2.2.2.2 rfl
  exact va_runIN X.1 ct ⟨X.callN yl hm hR.1, h5.2, X.w h5.1⟩ ⟨PcG.blind, X.pre hP hS⟩ rfl hn hl.1 hst (by show 2 * 0 + _ ≤ 8; omega) d (by rw [X.2.2.2.2.2]; exact hR.2)
theorem r_callV0 (X : CX M G cc nL own rm) {l : Launch} (hl0 : M.2.1 = l) {i n ci b : Nat} {y : MethodName} {bytes : ByteArray} {maxL : Nat} {ret : Option FieldType} {fr lo : Nat} {As : List Value} {r : Option Value} {g1 : AH} {st0 : List Value} {rc : vw_C} (d : decode cc pc = .ok (.invokevirtual i, 3)) (yl : YL 0 y bytes maxL ret n) (hm : Cond.methodLink own i y ∈ TBL) (hc : vwCl[ci]? = some rc) (hy : y.cls = rc.1) (hb : isO ci g b = some ())
    (ct : Ct l G y bytes maxL ret ⟨fr, 0, 0, lo⟩ (.ref b :: As) g r g1) (hst : st0 = As.reverse ++ .ref b :: st) (hn : As.length = n) (hcat : (st.map fun v => v.category).sum ≤ 8) (hR : fr + 1 ≤ rm.frames ∧ 8 + (maxL + 11) + lo ≤ rm.locals)
    (kk : WW M G nL Q kc ks g1 (pc + 3) L (r.toList ++ st)) : WW M G nL Q kc ks g pc L st0 := fun hk1 hk2 =>
  r_callV (rmc := ⟨fr, 0, 0, lo⟩) X hl0 d yl hm hc hy hb ct hst hn hcat ⟨hR, by rw [← X.2.2.2.2.2]; exact hk1, by rw [← X.2.2.2.2.2]; exact hk2⟩ kk hk1 hk2
theorem r_callVN0 (X : CX M G cc nL own rm) {l : Launch} (hl0 : M.2.1 = l) {i n ci b : Nat} {y : MethodName} {bytes : ByteArray} {maxL : Nat} {ret : Option FieldType} {fr lo : Nat} {As : List Value} {r : Option Value} {g1 : AH} {st0 : List Value} {rc : vw_C} (d : decode cc pc = .ok (.invokevirtual i, 3)) (yl : YL 0 y bytes maxL ret n) (hm : (own, i, y) ∈ nestTab) (hc : vwCl[ci]? = some rc) (hy : y.cls = rc.1) (hb : isO ci g b = some ())
    (ct : Ct l G y bytes maxL ret ⟨fr, 0, 0, lo⟩ (.ref b :: As) g r g1) (hst : st0 = As.reverse ++ .ref b :: st) (hn : As.length = n) (hcat : (st.map fun v => v.category).sum ≤ 8) (hR : fr + 1 ≤ rm.frames ∧ 8 + (maxL + 11) + lo ≤ rm.locals)
    (kk : WW M G nL Q kc ks g1 (pc + 3) L (r.toList ++ st)) : WW M G nL Q kc ks g pc L st0 := fun hk1 hk2 =>
  r_callVN (rmc := ⟨fr, 0, 0, lo⟩) X hl0 d yl hm hc hy hb ct hst hn hcat ⟨hR, by rw [← X.2.2.2.2.2]; exact hk1, by rw [← X.2.2.2.2.2]; exact hk2⟩ kk hk1 hk2
theorem r_callS0 (X : CX M G cc nL own rm) {l : Launch} (hl0 : M.2.1 = l) {i n : Nat} {y : MethodName} {bytes : ByteArray} {maxL : Nat} {ret : Option FieldType} {fr lo : Nat} {As : List Value} {r : Option Value} {g1 : AH} {st0 : List Value} (d : decode cc pc = .ok (.invokestatic i, 3)) (yl : YL 1 y bytes maxL ret n) (hm : Cond.methodLink own i y ∈ TBL)
    (ct : Ct l G y bytes maxL ret ⟨fr, 0, 0, lo⟩ As g r g1) (hst : st0 = As.reverse ++ st) (hn : As.length = n) (hcat : (st.map fun v => v.category).sum ≤ 8) (hR : fr + 1 ≤ rm.frames ∧ 8 + (maxL + 11) + lo ≤ rm.locals)
    (kk : WW M G nL Q kc ks g1 (pc + 3) L (r.toList ++ st)) : WW M G nL Q kc ks g pc L st0 := fun hk1 hk2 =>
  r_callS (rmc := ⟨fr, 0, 0, lo⟩) X hl0 d yl hm ct hst hn hcat ⟨hR, by rw [← X.2.2.2.2.2]; exact hk1, by rw [← X.2.2.2.2.2]; exact hk2⟩ kk hk1 hk2
theorem r_callSN0 (X : CX M G cc nL own rm) {l : Launch} (hl0 : M.2.1 = l) {i n : Nat} {y : MethodName} {bytes : ByteArray} {maxL : Nat} {ret : Option FieldType} {fr lo : Nat} {As : List Value} {r : Option Value} {g1 : AH} {st0 : List Value} (d : decode cc pc = .ok (.invokestatic i, 3)) (yl : YL 1 y bytes maxL ret n) (hm : (own, i, y) ∈ nestTab)
    (ct : Ct l G y bytes maxL ret ⟨fr, 0, 0, lo⟩ As g r g1) (hst : st0 = As.reverse ++ st) (hn : As.length = n) (hcat : (st.map fun v => v.category).sum ≤ 8) (hR : fr + 1 ≤ rm.frames ∧ 8 + (maxL + 11) + lo ≤ rm.locals)
    (kk : WW M G nL Q kc ks g1 (pc + 3) L (r.toList ++ st)) : WW M G nL Q kc ks g pc L st0 := fun hk1 hk2 =>
  r_callSN (rmc := ⟨fr, 0, 0, lo⟩) X hl0 d yl hm ct hst hn hcat ⟨hR, by rw [← X.2.2.2.2.2]; exact hk1, by rw [← X.2.2.2.2.2]; exact hk2⟩ kk hk1 hk2
theorem r_callI0 (X : CX M G cc nL own rm) {l : Launch} (hl0 : M.2.1 = l) {i n b : Nat} {y : MethodName} {bytes : ByteArray} {maxL : Nat} {fr lo : Nat} {As : List Value} {r : Option Value} {g1 : AH} {st0 : List Value} (d : decode cc pc = .ok (.invokespecial i, 3)) (yl : YL 2 y bytes maxL none n) (hm : Cond.methodLink own i y ∈ TBL)
    (ct : Ct l G y bytes maxL none ⟨fr, 0, 0, lo⟩ (.ref b :: As) g r g1) (hst : st0 = As.reverse ++ .ref b :: st) (hn : As.length = n) (hcat : (st.map fun v => v.category).sum ≤ 8) (hR : fr + 1 ≤ rm.frames ∧ 8 + (maxL + 11) + lo ≤ rm.locals)
    (kk : WW M G nL Q kc ks g1 (pc + 3) L (r.toList ++ st)) : WW M G nL Q kc ks g pc L st0 := fun hk1 hk2 =>
  r_callI (rmc := ⟨fr, 0, 0, lo⟩) X hl0 d yl hm ct hst hn hcat ⟨hR, by rw [← X.2.2.2.2.2]; exact hk1, by rw [← X.2.2.2.2.2]; exact hk2⟩ kk hk1 hk2
theorem r_callIN0 (X : CX M G cc nL own rm) {l : Launch} (hl0 : M.2.1 = l) {i n b : Nat} {y : MethodName} {bytes : ByteArray} {maxL : Nat} {fr lo : Nat} {As : List Value} {r : Option Value} {g1 : AH} {st0 : List Value} (d : decode cc pc = .ok (.invokespecial i, 3)) (yl : YL 2 y bytes maxL none n) (hm : (own, i, y) ∈ nestTab)
    (ct : Ct l G y bytes maxL none ⟨fr, 0, 0, lo⟩ (.ref b :: As) g r g1) (hst : st0 = As.reverse ++ .ref b :: st) (hn : As.length = n) (hcat : (st.map fun v => v.category).sum ≤ 8) (hR : fr + 1 ≤ rm.frames ∧ 8 + (maxL + 11) + lo ≤ rm.locals)
    (kk : WW M G nL Q kc ks g1 (pc + 3) L (r.toList ++ st)) : WW M G nL Q kc ks g pc L st0 := fun hk1 hk2 =>
  r_callIN (rmc := ⟨fr, 0, 0, lo⟩) X hl0 d yl hm ct hst hn hcat ⟨hR, by rw [← X.2.2.2.2.2]; exact hk1, by rw [← X.2.2.2.2.2]; exact hk2⟩ kk hk1 hk2
/-! returns -/
theorem r_iret (X : CX M G cc nL own rm) {v : Int32} {mc ms : Nat} (hr : (mM M).sig.returnType = some .int) (d : decode cc pc = .ok (.ireturn, 1)) (hc : kc ≤ mc) (hs : ks ≤ ms) : WW M G nL (RQ M G (some (.int v)) g mc ms) kc ks g pc L [.int v] := fun hk1 hk2 H locs ls hP hS hl =>
  W.widen hc hs (W.iret X.1.1 X.1.2.1 hr (fun t ht hW => ⟨⟨rfl, by rw [ht]; exact hP⟩, hS.F ht⟩) hS.2.2 d X.2.2.2.1)
abbrev bz (v : Int32) : Prop := v = 0 ∨ v = 1
theorem bz_nar {v : Int32} (h : bz v) : narrow .boolean (.int v) = .int v := by
  rcases h with rfl | rfl <;> rfl
theorem r_zret (X : CX M G cc nL own rm) {v : Int32} {mc ms : Nat} (hr : (mM M).sig.returnType = some .boolean) (hb : bz v) (d : decode cc pc = .ok (.ireturn, 1)) (hc : kc ≤ mc) (hs : ks ≤ ms) : WW M G nL (RQ M G (some (.int v)) g mc ms) kc ks g pc L [.int v] := fun hk1 hk2 H locs ls hP hS hl =>
  W.widen hc hs (W.zret X.1.1 X.1.2.1 hr (bz_nar hb) (fun t ht hW => ⟨⟨rfl, by rw [ht]; exact hP⟩, hS.F ht⟩) hS.2.2 d X.2.2.2.1)
theorem r_vret (X : CX M G cc nL own rm) {mc ms : Nat} (hr : (mM M).sig.returnType = none) (d : decode cc pc = .ok (.return_, 1)) (hc : kc ≤ mc) (hs : ks ≤ ms) : WW M G nL (RQ M G none g mc ms) kc ks g pc L [] := fun hk1 hk2 H locs ls hP hS hl =>
  W.widen hc hs (W.vret X.1.1 X.1.2.1 hr (fun t ht hW => ⟨⟨rfl, by rw [ht]; exact hP⟩, hS.F ht⟩) hS.2.2 d X.2.2.2.1)
theorem r_aret (X : CX M G cc nL own rm) {a mc ms : Nat} {rt : FieldType} (hr : (mM M).sig.returnType = some rt) (hrt : (∃ n, rt = .object n) ∨ ∃ t, rt = .array t) (d : decode cc pc = .ok (.areturn, 1)) (hc : kc ≤ mc) (hs : ks ≤ ms) : WW M G nL (RQ M G (some (.ref a)) g mc ms) kc ks g pc L [.ref a] := fun hk1 hk2 H locs ls hP hS hl =>
  W.widen hc hs (W.aret X.1.1 X.1.2.1 hr hrt (Or.inr ⟨a, rfl⟩) (fun t ht hW => ⟨⟨rfl, by rw [ht]; exact hP⟩, hS.F ht⟩) hS.2.2 d X.2.2.2.1)
theorem r_fret (X : CX M G cc nL own rm) {v : UInt32} {mc ms : Nat} (hr : (mM M).sig.returnType = some .float) (d : decode cc pc = .ok (.freturn, 1)) (hc : kc ≤ mc) (hs : ks ≤ ms) : WW M G nL (RQ M G (some (.float v)) g mc ms) kc ks g pc L [.float v] := fun hk1 hk2 H locs ls hP hS hl =>
  W.widen hc hs (W.fret X.1.1 X.1.2.1 hr (fun t ht hW => ⟨⟨rfl, by rw [ht]; exact hP⟩, hS.F ht⟩) hS.2.2 d X.2.2.2.1)
theorem r_dret (X : CX M G cc nL own rm) {v : UInt64} {mc ms : Nat} (hr : (mM M).sig.returnType = some .double) (d : decode cc pc = .ok (.dreturn, 1)) (hc : kc ≤ mc) (hs : ks ≤ ms) : WW M G nL (RQ M G (some (.double v)) g mc ms) kc ks g pc L [.double v] := fun hk1 hk2 H locs ls hP hS hl =>
  W.widen hc hs (W.dret X.1.1 X.1.2.1 hr (fun t ht hW => ⟨⟨rfl, by rw [ht]; exact hP⟩, hS.F ht⟩) hS.2.2 d X.2.2.2.1)
/-- a return of a method that may throw -/
theorem r_ret {r : Option Value} {g1 : AH} {mc ms : Nat} (k : WW M G nL (RQ M G r g1 mc ms) kc ks g pc L st) : WW M G nL (RX M G (.inl r) g1 mc ms) kc ks g pc L st := fun hk1 hk2 H locs ls hP hS hl => vx_ret (k hk1 hk2 H locs ls hP hS hl)
end RowsC
/-! from a body to its contract -/
theorem ct_of {l : Launch} {G : GG} {kind n : Nat} {y : MethodName} {bytes : ByteArray} {maxL : Nat} {ret : Option FieldType} {rm : Room} {av : List Value} {g g1 : AH} {r : Option Value} {L0 : List (Nat × Value)} (yl : YL kind y bytes maxL ret n) (hL : lv_args 0 av = L0) (hlen : (lg_sl av).length ≤ maxL)
    (body : ∀ M : MC, M.2.1 = l → CX M G bytes maxL y.cls rm → (mM M).sig.returnType = ret → (mM M).name = y.name → WW M G maxL (RQ M G r g1 rm.cells rm.slots) 0 0 g 0 L0 []) : Ct l G y bytes maxL ret rm av g r g1 := by
  refine Met.ofW (cc := bytes) (maxL := maxL) (ret := ret) yl.1 rfl ?_
  intro p e s m args below meth c s₁ B hml hv
  obtain ⟨rfl, hP, hK, hSC, hB⟩ := hv
  have hts := atoms_spec (ws := cw y bytes maxL ret) B.pre
  rw [lg_entry_eq]
  have hl := lv_entry av (n := maxL) hlen
  rw [hL] at hl
  exact body (p, l, e, rm, s, m, av.toArray, below, meth, c) rfl ⟨⟨B.exec, B.bytes, hml, findClass_of_methodNamed B.named, fun w hw => hts w (List.mem_cons_of_mem _ hw)⟩, hK, hB, B.notSynchronized, hSC, rfl⟩ B.returns (name_of_methodNamed B.named B.method).1 (Nat.zero_le _) (Nat.zero_le _) s.heap [] _ hP va_S.rf hl
