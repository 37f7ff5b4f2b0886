/-! rows that the law and the library's classes want: a nest mate's fields, inherited methods, super calls, rows of bytes, the empty row, the script -/
section RowsY
variable {M : MC} {G : GG} {cc : ByteArray} {nL : Nat} {own : String} {rm : Room} {Q : State → Prop} {kc ks : Nat} {g : AH} {pc : Nat} {L : List (Nat × Value)} {st : List Value}

theorem get_VN (X : CX M G cc nL RL rm) {i k : Nat} (d : decode cc pc = .ok (.getfield i, 3)) (f : (RL, i, RX9, (TX9 k).2.1, (TX9 k).2.2.1) ∈ fnestT) (hd1 : (TX9 k).1 = RX9) (hk : k < 8) {a : Nat} {V : Nat → Value} (ha : g.1 a = some (.inl (9, V))) (kk : WW M G nL Q kc ks g (pc + 3) L (V k :: st)) : WW M G nL Q kc ks g pc L (.ref a :: st) := by
  intro hk1 hk2 H locs ls hP hS hl
  obtain ⟨⟨r, h1, cell, q1, q2, q3, q4⟩, -⟩ := hP.1 a _ ha
  have hr : r = (RX9, TX9, 8) := Option.some.inj (h1.symm.trans rfl)
  subst hr
  obtain ⟨hSl, hfc, kC, hkC, hkind⟩ := X.2.1.1 9 _ rfl
  obtain ⟨cf, kf, fi, f9, hi, hsl⟩ := hSl k hk
  have hi2 : (mS M).fieldFound? RX9 (TX9 k).2.1 (TX9 k).2.2.1 = some (cf, kf, fi, f9) := by rw [← hd1]; exact hi
  refine va_Wgetf X.1.1 X.1.2.1 X.1.2.2.2.1 (va_Nw.use rfl (X.sx.2.1 _ f)) hi2 (u_facts hfc hkC (u_lays X.1.2.2.2.2 in_X9 hk) hi).1 q1 (by rw [q3]; exact fun h => by cases h) (v := V k) ?_ rfl rfl d (kk hk1 hk2 H locs ls hP hS hl)
  rw [hsl]
  exact q4 k hk
theorem r_getIN (X : CX M G cc nL RL rm) {i k a : Nat} {x : Int32} (d : decode cc pc = .ok (.getfield i, 3)) (f : (RL, i, RX9, (TX9 k).2.1, (TX9 k).2.2.1) ∈ fnestT) (hd1 : (TX9 k).1 = RX9) (hk : k < 8) (h : getI 9 g a k = some x) (kk : WW M G nL Q kc ks g (pc + 3) L (.int x :: st)) : WW M G nL Q kc ks g pc L (.ref a :: st) := by
  obtain ⟨V, ha, hv⟩ := getI_spec h
  exact get_VN X d f hd1 hk ha (by rw [hv]; exact kk)
theorem r_getRN (X : CX M G cc nL RL rm) {i k a : Nat} {x : Nat} (d : decode cc pc = .ok (.getfield i, 3)) (f : (RL, i, RX9, (TX9 k).2.1, (TX9 k).2.2.1) ∈ fnestT) (hd1 : (TX9 k).1 = RX9) (hk : k < 8) (h : getR 9 g a k = some x) (kk : WW M G nL Q kc ks g (pc + 3) L (.ref x :: st)) : WW M G nL Q kc ks g pc L (.ref a :: st) := by
  obtain ⟨V, ha, hv⟩ := getR_spec h
  exact get_VN X d f hd1 hk ha (by rw [hv]; exact kk)
theorem r_putN (X : CX M G cc nL RL rm) {i k a : Nat} {v : Value} {g1 : AH} (d : decode cc pc = .ok (.putfield i, 3)) (f : (RL, i, RX9, (TX9 k).2.1, (TX9 k).2.2.1) ∈ fnestT) (hd1 : (TX9 k).1 = RX9) (hk : k < 8) (hfin : (TX9 k).2.2.2 = false) (hn : narrow (tyX9 k) v = v) (hfit : fits (tyX9 k) v = true) (h : putV 9 g a k v = some g1) (kk : WW M G nL Q kc ks g1 (pc + 3) L st) : WW M G nL Q kc ks g pc L (v :: .ref a :: st) := by
  obtain ⟨V, ha, rfl⟩ := putV_spec h
  intro hk1 hk2 H locs ls hP hS hl
  have hap := va_apart (own := RL) X.1.2.2.2.2 in_X9 tyX9 tyX9_ok nmX9 X.2.1 (show vwCl[9]? = some (RX9, TX9, 8) from rfl)
  obtain ⟨⟨r, h1, cell, q1, q2, q3, q4⟩, hBa⟩ := hP.1 a _ ha
  have hr : r = (RX9, TX9, 8) := Option.some.inj (h1.symm.trans rfl)
  subst hr
  obtain ⟨hSl, hfc, kC, hkC, hkind⟩ := X.2.1.1 9 _ rfl
  obtain ⟨cf, kf, fi, f9, hi, hsl⟩ := hSl k hk
  have hi2 : (mS M).fieldFound? RX9 (TX9 k).2.1 (TX9 k).2.2.1 = some (cf, kf, fi, f9) := by rw [← hd1]; exact hi
  have hlay := X.w (in_X9 _ (u_in_lay hk))
  unfold u_lay at hlay
  rw [if_neg (by rw [hfin]; decide)] at hlay
  have hst := (u_facts hfc hkC (u_lays X.1.2.2.2.2 in_X9 hk) hi).1
  have h6 := u_store hfc hkC hkind hlay hi (tyX9_ok k hk) hn hfit
  refine va_WputK X.1.1 X.1.2.1 (f := f9) X.1.2.2.2.1 (va_Nw.use rfl (X.sx.2.1 _ f)) hi2 hst (by rw [q2]; exact h6) q1 q3 (by rw [hsl]; exact k2_hasslot (q4 k hk)) rfl rfl d fun H' e1 e2 e3 => ?_
  rw [hsl] at e1 ⊢
  exact kk hk1 hk2 H' _ ls (hP.set hBa ⟨_, rfl, ⟨_, e1, q2, q3, t_set q4 hap hk v⟩⟩ e2 e3) (hS.put e2 e3 hBa) hl
theorem CX.callU (X : CX M G cc nL own rm) {C : String} {i n : Nat} {y : MethodName} {bytes : ByteArray} {maxL : Nat} {ret : Option FieldType} {rmc : Room} (yu : YU C y bytes maxL ret n) (hm : Cond.methodLink own i y ∈ TBL) (hR : rmc.frames + 1 ≤ rm.frames ∧ 8 + (maxL + 11) + rmc.locals ≤ rm.locals) :
    va_CU M.2.2.2.1 (mS M) (mA M) own C y.cls i y y bytes maxL ret (cw y bytes maxL ret) rmc rmc.cells rmc.slots n :=
  ⟨⟨rfl, rfl, by rw [X.2.2.2.2.2]; exact hR.1, by rw [X.2.2.2.2.2]; exact hR.2, X.ws yu.2.1, List.mem_cons_self⟩, X.w yu.2.1, X.w yu.2.2.1, ⟨yu.2.2.2.1.1, yu.2.2.2.1.2.1⟩, desc_n yu.2.2.2.1.2.2, X.w hm, X.w yu.2.2.2.2.1, va_Decl.of (X.w yu.2.2.2.2.2.2) (X.w yu.2.1), X.w yu.2.2.2.2.2.1, X.w yu.2.2.2.2.2.2⟩
theorem r_callU (X : CX M G cc nL own rm) {l : Launch} (hl0 : M.2.1 = l) {i n ci b : Nat} {y : MethodName} {bytes : ByteArray} {maxL : Nat} {ret : Option FieldType} {rmc : Room} {As : List Value} {r : Option Value} {g1 : AH} {st0 : List Value} {rc : vw_C} (d : decode cc pc = .ok (.invokevirtual i, 3)) (yu : YU rc.1 y bytes maxL ret n) (hm : Cond.methodLink own i y ∈ TBL) (hc : vwCl[ci]? = some rc) (hb : isO ci g b = some ())
    (ct : Ct l G y bytes maxL ret rmc (.ref b :: As) g r g1) (hst : st0 = As.reverse ++ .ref b :: st) (hn : As.length = n) (hcat : (st.map fun v => v.category).sum ≤ 8) (hR : (rmc.frames + 1 ≤ rm.frames ∧ 8 + (maxL + 11) + rmc.locals ≤ rm.locals) ∧ kc + rmc.cells ≤ rm.cells ∧ ks + rmc.slots ≤ rm.slots)
    (kk : WW M G nL Q (kc + rmc.cells) (ks + rmc.slots) g1 (pc + 3) L (r.toList ++ st)) : WW M G nL Q kc ks g pc L st0 := by
  subst hl0
  refine r_run X hR.2 (a := (Value.ref b :: As).toArray) (fun H locs ls hP hS hl => ?_) kk
  exact va_runU X.1 ct (X.callU yu hm hR.1) ⟨PcG.blind, X.recv hP hc hb, X.pre hP hS⟩ rfl hn hl.1 hst (by show 2 * 0 + _ ≤ 8; omega) d (by rw [X.2.2.2.2.2]; exact hR.2)
theorem r_callO (X : CX M G cc nL own rm) {l : Launch} (hl0 : M.2.1 = l) {i b n ci : Nat} {x y : MethodName} {bytes : ByteArray} {maxL : Nat} {ret : Option FieldType} {rmc : Room} {As : List Value} {r : Option Value} {g1 : AH} {st0 : List Value} {rc : vw_C} (d : decode cc pc = .ok (.invokevirtual i, 3)) (yo : YO rc.1 x y bytes maxL ret n) (hm : Cond.methodLink own i x ∈ TBL) (hc : vwCl[ci]? = some rc) (hb : isO ci g b = some ())
    (ct : Ct l G y bytes maxL ret rmc (.ref b :: As) g r g1) (hst : st0 = As.reverse ++ .ref b :: st) (hn : As.length = n) (hcat : (st.map fun v => v.category).sum ≤ 8) (hR : (rmc.frames + 1 ≤ rm.frames ∧ 8 + (maxL + 11) + rmc.locals ≤ rm.locals) ∧ kc + rmc.cells ≤ rm.cells ∧ ks + rmc.slots ≤ rm.slots)
    (kk : WW M G nL Q (kc + rmc.cells) (ks + rmc.slots) g1 (pc + 3) L (r.toList ++ st)) : WW M G nL Q kc ks g pc L st0 := by
  subst hl0
  refine r_run X hR.2 (a := (Value.ref b :: As).toArray) (fun H locs ls hP hS hl => ?_) kk
  obtain ⟨b0, m0, r0, hx0⟩ := yo.1.2.2.2
  have hcu : va_CU M.2.2.2.1 (mS M) (mA M) own rc.1 x.cls i x y bytes maxL ret (cw y bytes maxL ret) rmc rmc.cells rmc.slots n :=
    ⟨⟨rfl, rfl, by rw [X.2.2.2.2.2]; exact hR.1.1, by rw [X.2.2.2.2.2]; exact hR.1.2, X.ws yo.1.2.1, List.mem_cons_self⟩, X.w yo.1.2.1, X.w yo.1.2.2.1, ⟨yo.2.1.1, yo.2.1.2.1⟩, desc_n yo.2.1.2.2, X.w hm, X.w yo.2.2.1, va_Decl.of (X.w yo.2.2.2.1) (X.w hx0), X.w yo.2.2.2.2.1, X.w yo.2.2.2.2.2⟩
  exact va_runU X.1 ct hcu ⟨PcG.blind, X.recv hP hc hb, X.pre hP hS⟩ rfl hn hl.1 hst (by show 2 * 0 + _ ≤ 8; omega) d (by rw [X.2.2.2.2.2]; exact hR.2)
theorem r_callSU (X : CX M G cc nL RJ4 rm) {l : Launch} (hl0 : M.2.1 = l) {i n b : Nat} {y : MethodName} {bytes : ByteArray} {maxL : Nat} {ret : Option FieldType} {rmc : Room} {As : List Value} {r : Option Value} {g1 : AH} {st0 : List Value} (d : decode cc pc = .ok (.invokespecial i, 3)) (ys : YS RJ4 y bytes maxL ret n) (hm : Cond.methodLink RJ4 i y ∈ TBL) (hb : isO 11 g b = some ())
    (ct : Ct l G y bytes maxL ret rmc (.ref b :: As) g r g1) (hst : st0 = As.reverse ++ .ref b :: st) (hn : As.length = n) (hcat : (st.map fun v => v.category).sum ≤ 8) (hR : (rmc.frames + 1 ≤ rm.frames ∧ 8 + (maxL + 11) + rmc.locals ≤ rm.locals) ∧ kc + rmc.cells ≤ rm.cells ∧ ks + rmc.slots ≤ rm.slots)
    (kk : WW M G nL Q (kc + rmc.cells) (ks + rmc.slots) g1 (pc + 3) L (r.toList ++ st)) : WW M G nL Q kc ks g pc L st0 := by
  subst hl0
  refine r_run X hR.2 (a := (Value.ref b :: As).toArray) (fun H locs ls hP hS hl => ?_) kk
  have hcs : va_CS M.2.2.2.1 (mS M) (mA M) RJ4 i y bytes maxL ret (cw y bytes maxL ret) rmc rmc.cells rmc.slots n :=
    ⟨⟨rfl, rfl, by rw [X.2.2.2.2.2]; exact hR.1.1, by rw [X.2.2.2.2.2]; exact hR.1.2, X.ws ys.2.1, List.mem_cons_self⟩, X.w hm, X.w ys.2.2.2.2.1, X.w ys.2.2.2.2.2.1, X.w ys.2.2.2.2.2.2, X.w ys.2.2.1, X.w ys.2.1, ys.2.2.2.1.1, desc_n ys.2.2.2.1.2⟩
  exact va_runSU (C := RJ4) (X.2.1.1 11 _ rfl).2 X.1 ct hcs ⟨PcG.blind, X.recv hP (show vwCl[11]? = some (RJ4, TJ4, 4) from rfl) hb, X.pre hP hS⟩ rfl hn hl.1 hst (by show 2 * 0 + _ ≤ 8; omega) d (by rw [X.2.2.2.2.2]; exact hR.2)
theorem CX.callN2 (X : CX M G cc nL own rm) {kind i n : Nat} {y : MethodName} {bytes : ByteArray} {maxL : Nat} {ret : Option FieldType} {rmc : Room} (yl : YL kind y bytes maxL ret n) (hm : (own, i, y) ∈ nestT2) (hR : rmc.frames + 1 ≤ rm.frames ∧ 8 + (maxL + 11) + rmc.locals ≤ rm.locals) :
    va_CN M.2.2.2.1 (mS M) (mA M) own i y "HutLedgerLaw" bytes maxL ret (cw y bytes maxL ret) rmc rmc.cells rmc.slots n :=
  ⟨⟨rfl, rfl, by rw [X.2.2.2.2.2]; exact hR.1, by rw [X.2.2.2.2.2]; exact hR.2, X.ws yl.2.1, List.mem_cons_self⟩, X.w yl.2.1, X.w yl.2.2.1, ⟨yl.2.2.2.1.1, yl.2.2.2.1.2.1⟩, desc_n yl.2.2.2.1.2.2, va_Nw.use rfl (X.sx.2.2.1 _ hm)⟩
theorem r_callIN2 (X : CX M G cc nL own rm) {l : Launch} (hl0 : M.2.1 = l) {i n b : Nat} {y : MethodName} {bytes : ByteArray} {maxL : Nat} {rmc : Room} {As : List Value} {r : Option Value} {g1 : AH} {st0 : List Value} (d : decode cc pc = .ok (.invokespecial i, 3)) (yl : YL 2 y bytes maxL none n) (hm : (own, i, y) ∈ nestT2)
    (ct : Ct l G y bytes maxL none rmc (.ref b :: As) g r g1) (hst : st0 = As.reverse ++ .ref b :: st) (hn : As.length = n) (hcat : (st.map fun v => v.category).sum ≤ 8) (hR : (rmc.frames + 1 ≤ rm.frames ∧ 8 + (maxL + 11) + rmc.locals ≤ rm.locals) ∧ kc + rmc.cells ≤ rm.cells ∧ ks + rmc.slots ≤ rm.slots)
    (kk : WW M G nL Q (kc + rmc.cells) (ks + rmc.slots) g1 (pc + 3) L (r.toList ++ st)) : WW M G nL Q kc ks g pc L st0 := by
  subst hl0
  refine r_run X hR.2 (a := (Value.ref b :: As).toArray) (fun H locs ls hP hS hl => ?_) kk
  have h5 := yl.2.2.2.2.2.2 rfl
  exact va_runIN X.1 ct ⟨X.callN2 yl hm hR.1, h5.2, X.w h5.1⟩ ⟨PcG.blind, X.pre hP hS⟩ rfl hn hl.1 hst (by show 2 * 0 + _ ≤ 8; omega) d (by rw [X.2.2.2.2.2]; exact hR.2)
/-! a cast to the object's own class -/
theorem r_cast (X : CX M G cc nL own rm) {i ci a : Nat} {rc : vw_C} (d : decode cc pc = .ok (.checkcast i, 3)) (hc : vwCl[ci]? = some rc) (hk : Cond.classLink own i rc.1 ∈ TBL) (h : isO ci g a = some ()) (k : WW M G nL Q kc ks g (pc + 3) L (.ref a :: st)) : WW M G nL Q kc ks g pc L (.ref a :: st) := fun hk1 hk2 H locs ls hP hS hl =>
  va_castS X.1.1 X.1.2.1 X.1.2.2.2.1 (X.w hk) (X.2.1.1 ci _ hc).2 (X.recv hP hc h) d (k hk1 hk2 H locs ls hP hS hl)
/-! rows of bytes -/
def fitB (f : Nat → Int32) (i n : Nat) : Prop := ∀ q : Nat, q < n → fits .byte (.int (f (i + q))) = true
theorem fitB_dec (f : Nat → Int32) (i n : Nat) : fitB f i n ∨ ¬ fitB f i n := Classical.em _
def fitBb (f : Nat → Int32) (i n : Nat) : Bool := (List.range n).all (fun q => fits .byte (.int (f (i + q))))
theorem fitBb_of {f : Nat → Int32} {i n : Nat} : fitBb f i n = true ↔ fitB f i n := by
  unfold fitBb fitB
  rw [List.all_eq_true]
  constructor
  · intro h q hq
    exact h q (List.mem_range.mpr hq)
  · intro h q hq
    exact h q (List.mem_range.mp hq)
def isByt (g : AH) (a : Nat) : Option Unit := match g.1 a with
  | some (.inr (1, _, .inl _)) => some ()
  | _ => none
def acpyB (g : AH) (a : Nat) (i : Int32) (b : Nat) (j n : Int32) : Option AH := match g.1 a, g.1 b with
  | some (.inr (k, n0, .inl f)), some (.inr (k1, n1, .inl f1)) => if k = 1 ∧ k1 = 1 ∧ ¬ i < 0 ∧ ¬ j < 0 ∧ ¬ n < 0 ∧ i.toNatClampNeg + n.toNatClampNeg ≤ n0 ∧ j.toNatClampNeg + n.toNatClampNeg ≤ n1 ∧ fitBb f i.toNatClampNeg n.toNatClampNeg = true then some (hset g b (.inr (1, n1, .inl (va_cpy f f1 i.toNatClampNeg j.toNatClampNeg n.toNatClampNeg)))) else none
  | _, _ => none
/-- from the bytes of the String constant k -/
def acpyC (g : AH) (k : Nat) (i : Int32) (b : Nat) (j n : Int32) : Option AH := match g.1 b with
  | some (.inr (k1, n1, .inl f1)) => if k < nST ∧ k1 = 1 ∧ ¬ i < 0 ∧ ¬ j < 0 ∧ ¬ n < 0 ∧ i.toNatClampNeg + n.toNatClampNeg ≤ (bytST k).length ∧ j.toNatClampNeg + n.toNatClampNeg ≤ n1 then some (hset g b (.inr (1, n1, .inl (va_cpy (fun q => (bytST k).getD q 0) f1 i.toNatClampNeg j.toNatClampNeg n.toNatClampNeg)))) else none
  | _ => none
def clonB (g : AH) (a : Nat) : Option (Nat × AH) := match g.2, g.1 a with
  | some q, some (.inr (k, n, .inl f)) => if k = 1 ∧ n ≤ 400 ∧ fitBb f 0 n = true then some (q, hnew g q (.inr (1, n, .inl f))) else none
  | _, _ => none
theorem acpyB_spec {g g1 : AH} {a b : Nat} {i j n : Int32} (h : acpyB g a i b j n = some g1) : ∃ (n0 n1 : Nat) (f f1 : Nat → Int32), g.1 a = some (.inr (1, n0, .inl f)) ∧ g.1 b = some (.inr (1, n1, .inl f1)) ∧ ¬ i < 0 ∧ ¬ j < 0 ∧ ¬ n < 0 ∧ i.toNatClampNeg + n.toNatClampNeg ≤ n0 ∧ j.toNatClampNeg + n.toNatClampNeg ≤ n1 ∧ fitB f i.toNatClampNeg n.toNatClampNeg ∧ g1 = hset g b (.inr (1, n1, .inl (va_cpy f f1 i.toNatClampNeg j.toNatClampNeg n.toNatClampNeg))) := by
  unfold acpyB at h
  split at h
  · rename_i k n0 f k1 n1 f1 h1 h2
    split at h
    · rename_i hc
      obtain ⟨rfl, rfl, c1, c2, c3, c4, c5, c6⟩ := hc
      exact ⟨n0, n1, f, f1, h1, h2, c1, c2, c3, c4, c5, fitBb_of.mp c6, (Option.some.inj h).symm⟩
    · cases h
  · cases h
theorem acpyC_spec {g g1 : AH} {k b : Nat} {i j n : Int32} (h : acpyC g k i b j n = some g1) : ∃ (n1 : Nat) (f1 : Nat → Int32), k < nST ∧ g.1 b = some (.inr (1, n1, .inl f1)) ∧ ¬ i < 0 ∧ ¬ j < 0 ∧ ¬ n < 0 ∧ i.toNatClampNeg + n.toNatClampNeg ≤ (bytST k).length ∧ j.toNatClampNeg + n.toNatClampNeg ≤ n1 ∧ g1 = hset g b (.inr (1, n1, .inl (va_cpy (fun q => (bytST k).getD q 0) f1 i.toNatClampNeg j.toNatClampNeg n.toNatClampNeg))) := by
  unfold acpyC at h
  split at h
  · rename_i k1 n1 f1 h2
    split at h
    · rename_i hc
      obtain ⟨c0, rfl, c1, c2, c3, c4, c5⟩ := hc
      exact ⟨n1, f1, c0, h2, c1, c2, c3, c4, c5, (Option.some.inj h).symm⟩
    · cases h
  · cases h
theorem clonB_spec {g g1 : AH} {a q : Nat} (h : clonB g a = some (q, g1)) : ∃ (n : Nat) (f : Nat → Int32), g.2 = some q ∧ g.1 a = some (.inr (1, n, .inl f)) ∧ n ≤ 400 ∧ fitB f 0 n ∧ g1 = hnew g q (.inr (1, n, .inl f)) := by
  unfold clonB at h
  split at h
  · rename_i q9 k n f h1 h2
    split at h
    · rename_i hc
      obtain ⟨rfl, c1, c2⟩ := hc
      cases h
      exact ⟨n, f, h1, h2, c1, fitBb_of.mp c2, rfl⟩
    · cases h
  · cases h
theorem toN_of {z : Int32} (hz : ¬ z < 0) : z.toInt = (z.toNatClampNeg : Int) := by
  have hz0 : (0 : Int) ≤ z.toInt := by
    have := Int32.not_lt.mp hz
    simpa using Int32.le_iff_toInt_le.mp this
  show z.toInt = ((z.toInt.toNat : Nat) : Int)
  omega
theorem r_copyB (X : CX M G cc nL own rm) {i b : Nat} {a : Nat} {sp dp n : Int32} {g1 : AH} (d : decode cc pc = .ok (.invokestatic i, 3)) (hm : Cond.methodLink own i arraycopyName ∈ TBL) (hR1 : 1 ≤ rm.frames) (hR2 : (st.map fun v => v.category).sum + (nativeFrameWords "java/lang/System" "arraycopy" 5 + 11) ≤ rm.locals) (h : acpyB g a sp b dp n = some g1)
    (kk : WW M G nL Q kc ks g1 (pc + 3) L st) : WW M G nL Q kc ks g pc L (.int n :: .int dp :: .ref b :: .int sp :: .ref a :: st) := by
  obtain ⟨n0, n1, f, f1, ha, hb, h1, h2, h3, h4, h5, h6, rfl⟩ := acpyB_spec h
  intro hk1 hk2 H locs ls hP hS hl T hT X9
  have hc0 : H[a]? = some (arrV (G.1.2 1) n0 (fun j => .int (f j))) := (hP.1 a _ ha).1
  obtain ⟨-, k0, hk0, cm0, hkk0⟩ := (X.arr (t := 1) (by decide)).1 n0 (fun j => .int (f j))
  have hc1 : H[b]? = some (arrV (G.1.2 1) n1 (fun j => .int (f1 j))) := (hP.1 b _ hb).1
  have hBb := (hP.1 b _ hb).2
  have hq1 := hk1
  have hq2 := hk2
  obtain ⟨-, k1, hk1, cm1, hkk1⟩ := (X.arr (t := 1) (by decide)).1 n1 (fun j => .int (f1 j))
  obtain ⟨vm', X', step⟩ := X9.arraycopy X.1.1 X.1.2.2.2.1 (X.w hm) (X.w z_copy.1) (X.w z_copy.2.1) (X.w z_copy.2.2) (src := a) (dst := b) (cs := arrV (G.1.2 1) n0 (fun j => .int (f j))) (cd := arrV (G.1.2 1) n1 (fun j => .int (f1 j))) (srcPos := sp) (destPos := dp) (n := n) (by rw [hT]; exact hc0) (by rw [hT]; exact hc1)
    (fun _ h => by cases h) (fun _ h => by cases h) (fun h => by cases h) (fun h => by cases h) hk0 hk1 hkk0 hkk1 (by simp [refKind, kT]) h1 h2 h3
    (by rw [toN_of h1, toN_of h3]; rw [arrV_size]; omega)
    (by rw [toN_of h2, toN_of h3, arrV_size]; omega)
    (fun vm₁ _ i hi => by
      have e : (arrV (G.1.2 1) n0 (fun j => .int (f j))).slots.getD (sp.toNatClampNeg + i) .null = .int (f (sp.toNatClampNeg + i)) := by
        rw [Array.getD_eq_getD_getElem?, arrV_read _ _ (by omega)]
        rfl
      refine ⟨?_, ?_⟩
      · rw [e]
        exact h6 i hi
      · rw [e]
        exact trivial)
    (g := F0 (mI M) pc ls (.int n :: .int dp :: .ref b :: .int sp :: .ref a :: st)) rfl (by show ls.size = _; rw [hl.1, X.1.2.2.1]) (rest := st) rfl (by rw [X.1.2.1]; exact d) (by rw [X.2.2.2.2.2]; exact hR1) (by rw [X.2.2.2.2.2]; show 2 * 0 + _ + _ ≤ _; omega)
  have e1 : copied (arrV (G.1.2 1) n0 (fun j => .int (f j))) (arrV (G.1.2 1) n1 (fun j => .int (f1 j))) sp dp n = arrV (G.1.2 1) n1 (fun j => .int (va_cpy f f1 sp.toNatClampNeg dp.toNatClampNeg n.toNatClampNeg j)) := va_copied (fun z => .int z) (G.1.2 1) (G.1.2 1) f f1 h4
  rw [e1] at X' step
  have hlb : b < H.size := (Array.getElem?_eq_some_iff.mp hc1).1
  generalize hcell : arrV (G.1.2 1) n1 (fun j => .int (va_cpy f f1 sp.toNatClampNeg dp.toNatClampNeg n.toNatClampNeg j)) = cell at X' step
  have hheap : ((T.setVm vm').setCell b cell).heap = H.setIfInBounds b cell := by rw [← hT]; rfl
  have oq : ∀ q : Nat, q ≠ b → (H.setIfInBounds b cell)[q]? = H[q]? := fun q hq => by simp [Array.getElem?_setIfInBounds, Ne.symm hq]
  obtain ⟨t, a1, b1⟩ := kk hq1 hq2 _ _ ls (hP.set hBb (show (H.setIfInBounds b cell)[b]? = some _ by simp [Array.getElem?_setIfInBounds, hlb]; exact hcell.symm) (by simp) oq) ⟨by simp; exact hS.1, fun q g1 g2 => by
      rw [oq q (fun e => g2 (by rw [e]; exact hBb))]
      exact hS.2.1 q g1 g2, fun q hq => by
      rcases List.mem_append.mp hq with h | h
      · exact hS.2.2 q h
      · obtain ⟨z, -, hz⟩ := List.mem_map.mp h
        rw [← hz]
        exact hBb⟩ hl _ hheap X'
  exact ⟨t, step t a1, b1⟩
theorem bytST_fit : ∀ k : Nat, k < nST → ∀ q : Nat, q < (bytST k).length → fits .byte (.int ((bytST k).getD q 0)) = true := by decide +kernel
theorem r_copyC (X : CX M G cc nL own rm) {i b : Nat} {k : Nat} {sp dp n : Int32} {g1 : AH} (d : decode cc pc = .ok (.invokestatic i, 3)) (hm : Cond.methodLink own i arraycopyName ∈ TBL) (hR1 : 1 ≤ rm.frames) (hR2 : (st.map fun v => v.category).sum + (nativeFrameWords "java/lang/System" "arraycopy" 5 + 11) ≤ rm.locals) (h : acpyC g k sp b dp n = some g1)
    (kk : WW M G nL Q kc ks g1 (pc + 3) L st) : WW M G nL Q kc ks g pc L (.int n :: .int dp :: .ref b :: .int sp :: .ref (G.2.2.2.1 k) :: st) := by
  obtain ⟨n1, f1, h0, hb, h1, h2, h3, h4, h5, rfl⟩ := acpyC_spec h
  intro hk1 hk2 H locs ls hP hS hl T hT X9
  obtain ⟨cs0, s1, ⟨s6, k0, hk0, cm0, hkk0⟩, s3, s4, -, s5, s7⟩ := (X.str h0).2.2.2.kept hS.2.1
  have hc0 : H[G.2.2.2.1 k]? = some cs0 := s1
  have hc1 : H[b]? = some (arrV (G.1.2 1) n1 (fun j => .int (f1 j))) := (hP.1 b _ hb).1
  have hBb := (hP.1 b _ hb).2
  have hq1 := hk1
  have hq2 := hk2
  obtain ⟨-, k1, hk1, cm1, hkk1⟩ := (X.arr (t := 1) (by decide)).1 n1 (fun j => .int (f1 j))
  obtain ⟨vm', X', step⟩ := X9.arraycopy X.1.1 X.1.2.2.2.1 (X.w hm) (X.w z_copy.1) (X.w z_copy.2.1) (X.w z_copy.2.2) (src := (G.2.2.2.1 k)) (dst := b) (cs := cs0) (cd := arrV (G.1.2 1) n1 (fun j => .int (f1 j))) (srcPos := sp) (destPos := dp) (n := n) (by rw [hT]; exact hc0) (by rw [hT]; exact hc1)
    s6 (fun _ h => by cases h) s3 (fun h => by cases h) hk0 hk1 hkk0 hkk1 (by simp [refKind, kT]) h1 h2 h3
    (by rw [toN_of h1, toN_of h3]; omega)
    (by rw [toN_of h2, toN_of h3, arrV_size]; omega)
    (fun vm₁ _ i hi => by
      have e : (cs0).slots.getD (sp.toNatClampNeg + i) .null = .int ((fun q => (bytST k).getD q 0) (sp.toNatClampNeg + i)) := by
        rw [Array.getD_eq_getD_getElem?, s5 _ (by omega)]
        rfl
      refine ⟨?_, ?_⟩
      · rw [e]
        exact bytST_fit k h0 (sp.toNatClampNeg + i) (by omega)
      · rw [e]
        exact trivial)
    (g := F0 (mI M) pc ls (.int n :: .int dp :: .ref b :: .int sp :: .ref (G.2.2.2.1 k) :: st)) rfl (by show ls.size = _; rw [hl.1, X.1.2.2.1]) (rest := st) rfl (by rw [X.1.2.1]; exact d) (by rw [X.2.2.2.2.2]; exact hR1) (by rw [X.2.2.2.2.2]; show 2 * 0 + _ + _ ≤ _; omega)
  have e1 : copied (cs0) (arrV (G.1.2 1) n1 (fun j => .int (f1 j))) sp dp n = arrV (G.1.2 1) n1 (fun j => .int (va_cpy (fun q => (bytST k).getD q 0) f1 sp.toNatClampNeg dp.toNatClampNeg n.toNatClampNeg j)) := va_copiedX (fun z => .int z) cs0 (G.1.2 1) (fun q => (bytST k).getD q 0) f1 s5 h4
  rw [e1] at X' step
  have hlb : b < H.size := (Array.getElem?_eq_some_iff.mp hc1).1
  generalize hcell : arrV (G.1.2 1) n1 (fun j => .int (va_cpy (fun q => (bytST k).getD q 0) f1 sp.toNatClampNeg dp.toNatClampNeg n.toNatClampNeg j)) = cell at X' step
  have hheap : ((T.setVm vm').setCell b cell).heap = H.setIfInBounds b cell := by rw [← hT]; rfl
  have oq : ∀ q : Nat, q ≠ b → (H.setIfInBounds b cell)[q]? = H[q]? := fun q hq => by simp [Array.getElem?_setIfInBounds, Ne.symm hq]
  obtain ⟨t, a1, b1⟩ := kk hq1 hq2 _ _ ls (hP.set hBb (show (H.setIfInBounds b cell)[b]? = some _ by simp [Array.getElem?_setIfInBounds, hlb]; exact hcell.symm) (by simp) oq) ⟨by simp; exact hS.1, fun q g1 g2 => by
      rw [oq q (fun e => g2 (by rw [e]; exact hBb))]
      exact hS.2.1 q g1 g2, fun q hq => by
      rcases List.mem_append.mp hq with h | h
      · exact hS.2.2 q h
      · obtain ⟨z, -, hz⟩ := List.mem_map.mp h
        rw [← hz]
        exact hBb⟩ hl _ hheap X'
  exact ⟨t, step t a1, b1⟩
theorem CX.byteName (X : CX M G cc nL own rm) : (mS M).vm.findClass "[B" = some (G.1.2 1) := (X.arr (t := 1) (by decide)).2
theorem r_castB (X : CX M G cc nL own rm) {i a : Nat} (d : decode cc pc = .ok (.checkcast i, 3)) (hk : Cond.classLink own i "[B" ∈ TBL) (h : isByt g a = some ()) (k : WW M G nL Q kc ks g (pc + 3) L (.ref a :: st)) : WW M G nL Q kc ks g pc L (.ref a :: st) := by
  have h9 : ∃ (n : Nat) (f : Nat → Int32), g.1 a = some (.inr (1, n, .inl f)) := by
    unfold isByt at h
    split at h
    · rename_i n f e
      exact ⟨n, f, e⟩
    · cases h
  obtain ⟨n, f, ha⟩ := h9
  intro hk1 hk2 H locs ls hP hS hl T hT X9
  have hc1 : H[a]? = some (arrV (G.1.2 1) n (fun j => .int (f j))) := (hP.1 a _ ha).1
  obtain ⟨vm', X', stp⟩ := X9.checkcastYes X.1.1 X.1.2.2.2.1 (X.w hk) (by rw [hT]; exact hc1) (by rfl) X.byteName (va_asg _ _) (g := F0 (mI M) pc ls (.ref a :: st)) rfl rfl (by rw [X.1.2.1]; exact d)
  obtain ⟨t, a1, b1⟩ := k hk1 hk2 H locs ls hP hS hl (T.setVm vm') hT X'
  exact ⟨t, stp t a1, b1⟩
theorem r_clone (X : CX M G cc nL own rm) {i a q : Nat} {g1 : AH} (d : decode cc pc = .ok (.invokevirtual i, 3)) (hm : Cond.methodLink own i ⟨"[B", "clone", "()Ljava/lang/Object;"⟩ ∈ TBL) (hR1 : 1 ≤ rm.frames) (hR2 : (st.map fun v => v.category).sum + 14 ≤ rm.locals) (hR : kc + 1 ≤ rm.cells ∧ ks + 400 ≤ rm.slots) (h : clonB g a = some (q, g1))
    (kk : WW M G nL Q (kc + 1) (ks + 400) g1 (pc + 3) L (.ref q :: st)) : WW M G nL Q kc ks g pc L (.ref a :: st) := by
  obtain ⟨n, f, hz, ha, hn, hf, rfl⟩ := clonB_spec h
  intro hk1 hk2 H locs ls hP hS hl
  have hB : G.2.1 ≤ H.size := Nat.le_trans X.2.2.1 hS.1
  have en : H.size = q := hP.2 q hz
  subst en
  have hc1 : H[a]? = some (arrV (G.1.2 1) n (fun j => .int (f j))) := (hP.1 a _ ha).1
  obtain ⟨c0, t0', f1, f2, f3⟩ := Cond.castable_spec (va_Nw.use (A := (mA M)) rfl X.sx.1.2.2)
  cases X.byteName.symm.trans f1
  intro T hT X9
  have hcellT : T.heap[a]? = some (arrV (G.1.2 1) n (fun j => .int (f j))) := by rw [hT]; exact hc1
  obtain ⟨-, kA, hkA, comp, hkind⟩ := State.isArrayOf_alike X9.warmed.alike ((X.arr (t := 1) (by decide)).1 0 (fun _ => .null))
  obtain ⟨-, kS, hkS, compS, hkindS⟩ := (X.arr (t := 1) (by decide)).1 0 (fun _ => .null)
  obtain ⟨vm', X', stp⟩ := X9.cloneArray X.1.1 X.1.2.2.2.1 (X.w hm) (X.w z_clone.2.2.1) (X.w z_clone.1) (X.w z_clone.2.1) (X.w z_clone.2.2.2) (a := a) (cell := arrV (G.1.2 1) n (fun j => .int (f j))) hcellT (fun k h => by cases h) (fun h => by cases h) X.byteName f2 f3
    (fun i v hv => by
      have hk' : T.vm.classes[G.1.2 1]? = some kA := hkA
      have hv2 : fits .byte v = true := by
        have hi : i < n := by
          have := (Array.getElem?_eq_some_iff.mp hv).1
          rw [arrV_size] at this
          exact this
        rw [arrV_read _ _ hi] at hv
        cases hv
        have := hf i hi
        rw [Nat.zero_add] at this
        exact this
      simpa [State.fitsSlot, State.slotType?, arrV, hk', hkind, kT] using hv2)
    (g := F0 (mI M) pc ls (.ref a :: st)) rfl (by show ls.size = _; rw [hl.1, X.1.2.2.1]) rfl (by rw [X.1.2.1]; exact d) (by rw [X.2.2.2.2.2]; exact hR1) (by rw [X.2.2.2.2.2]; show 2 * 0 + _ + 14 ≤ _; omega) (by rw [X.2.2.2.2.2]; exact hR.1) (by rw [X.2.2.2.2.2, arrV_size]; omega) (hloader := Vm.clonesLoader_of_array hkS hkindS)
  rw [arrV_size] at X'
  generalize hH1 : H.push (arrV (G.1.2 1) n (fun j => .int (f j))) = H1
  have z1 : H1.size = H.size + 1 := by rw [← hH1, Array.size_push]
  have e1 : H1[H.size]? = some (arrV (G.1.2 1) n (fun j => .int (f j))) := by rw [← hH1, Array.getElem?_push_size]
  have o1 : ∀ q : Nat, q < H.size → H1[q]? = H[q]? := fun q hq => by rw [← hH1, Array.getElem?_push, if_neg (Nat.ne_of_lt hq)]
  obtain ⟨-, hP1⟩ := hP.push hz hB (e := .inr (1, n, .inl f)) e1 z1 o1
  obtain ⟨t, b1, b2⟩ := (W.widen (Nat.le_refl _) (Nat.add_le_add_left hn ks) (kk (by rw [X.2.2.2.2.2]; exact hR.1) (by rw [X.2.2.2.2.2]; exact hR.2) H1 locs ls hP1 ⟨Nat.le_trans hS.1 (by omega), fun x h1 h2 => (o1 x (Nat.lt_of_lt_of_le h1 hS.1)).trans (hS.2.1 x h1 h2), hS.2.2⟩ hl)) ((T.setVm vm').pushCell (arrV (G.1.2 1) n (fun j => .int (f j)))) (by rw [← hH1, ← hT]; rfl) X'
  refine ⟨t, stp t ?_, b2⟩
  rw [hT]
  exact b1
/-! rows of objects of any class -/
def astN (t : Nat) (g : AH) (a : Nat) (i : Int32) : Option AH := match g.1 a with
  | some (.inr (k, n, .inr (.inr f))) => if k = t then (if outI i n then none else some (hset g a (.inr (t, n, .inr (.inr (va_up f i.toNatClampNeg none)))))) else none
  | _ => none
theorem astN_spec {t : Nat} {g g1 : AH} {a : Nat} {i : Int32} (h : astN t g a i = some g1) : ∃ (n : Nat) (f : Nat → Option Nat), g.1 a = some (.inr (t, n, .inr (.inr f))) ∧ ¬ outI i n ∧ g1 = hset g a (.inr (t, n, .inr (.inr (va_up f i.toNatClampNeg none)))) := by
  unfold astN at h
  split at h
  · rename_i k n f hk
    by_cases h1 : k = t
    · subst h1
      rw [if_pos rfl] at h
      by_cases h2 : outI i n
      · rw [if_pos h2] at h; cases h
      · rw [if_neg h2] at h
        exact ⟨n, f, hk, h2, (Option.some.inj h).symm⟩
    · rw [if_neg h1] at h; cases h
  · cases h
theorem upd_V0 {f : Nat → Option Nat} {k : Nat} : updV (fun j => va_rf (f j)) k .null = fun j => va_rf (va_up f k none j) := by
  funext q
  by_cases hq : q = k
  · subst hq; simp [updV, va_up, va_rf]
  · simp [updV, va_up, hq]
theorem r_aastN (X : CX M G cc nL own rm) {a : Nat} {i : Int32} {g1 : AH} (d : decode cc pc = .ok (.aastore, 1)) (h : astN 6 g a i = some g1) (kk : WW M G nL Q kc ks g1 (pc + 1) L st) : WW M G nL Q kc ks g pc L (va_rf none :: .int i :: .ref a :: st) := by
  obtain ⟨n, f, ha, hin, rfl⟩ := astN_spec h
  intro hk1 hk2 H locs ls hP hS hl
  have hBa := (hP.1 a _ ha).2
  refine va_WaastN (C := "java/lang/Object") X.1.1 X.1.2.1 (hP.1 a _ ha).1 ((X.arr (t := 6) (by decide)).1 n _) (fun h => by cases h) (in_size hin) rfl rfl d fun H1 e z oq => ?_
  refine kk hk1 hk2 H1 _ ls (hP.set hBa ?_ z oq) (hS.put z oq hBa) hl
  show H1[a]? = some (arrV _ _ _)
  rw [e, arrV_store, upd_V0]
theorem r_aastO (X : CX M G cc nL own rm) {a : Nat} {i : Int32} {x : Nat} {g1 : AH} (d : decode cc pc = .ok (.aastore, 1)) (h : astR 6 9 g a i x = some g1) (kk : WW M G nL Q kc ks g1 (pc + 1) L st) : WW M G nL Q kc ks g pc L (.ref x :: .int i :: .ref a :: st) := by
  obtain ⟨n, f, ha, hin, hx, rfl⟩ := astR_spec h
  obtain ⟨V, hV⟩ := isO_spec hx
  intro hk1 hk2 H locs ls hP hS hl
  have hBa := (hP.1 a _ ha).2
  have h0 : ¬ i < 0 := fun q => hin (Or.inl q)
  obtain ⟨⟨r', hr', cellV, g1, g2, g3, -⟩, -⟩ := hP.1 x _ hV
  have hcls := (X.2.1.1 9 (RX9, TX9, 8) rfl).2
  obtain ⟨kA, comp, k1, k2, k3, -⟩ := (X.arr (t := 6) (by decide)).2
  obtain ⟨kE, hkE, -⟩ := Vm.findClass_spec k3
  obtain ⟨c0, t1, f1, f2, f3⟩ := Cond.castable_spec (va_Nw.use (A := (mA M)) rfl X.sx.1.2.1)
  cases hcls.1.symm.trans f1
  cases k3.symm.trans f2
  obtain ⟨kC, hkC, -⟩ := hcls.2
  refine W.aast X.1.1 X.1.2.1 (hP.1 a _ ha).1 (fun q h => by cases h) (fun h => by cases h) k1 k2 rfl hkE ⟨h0, by show _ < (arrV _ _ _).slots.size; rw [arrV_size]; exact in_lt hin⟩ g1 (fun q h => by rw [g3] at h; cases h) (by rw [g2]; exact hkC) (by rw [g2]; exact f3) rfl rfl d fun H1 e z oq => ?_
  refine kk hk1 hk2 H1 _ ls (hP.set hBa ?_ z oq) (hS.put z oq hBa) hl
  show H1[a]? = some (arrV _ _ _)
  rw [e, arrV_store, upd_VR]
/-! what the functions are told of the start: the empty row's place, the script's, the script -/
abbrev KK : Type := Nat × Nat × Nat × (Nat → Int32)
abbrev GK (G : GG) : KK := (G.2.2.1 100, G.2.2.1 101, G.2.2.2.2.1, G.2.2.2.2.2)
def alenQ (z : Nat) (g : AH) (a : Nat) : Option Int32 := if a = z then some 0 else alen 6 g a
def slenS (k9 : KK) (a : Nat) : Option Int32 := if a = k9.2.1 then some (Int32.ofNat k9.2.2.1) else none
def saldS (k9 : KK) (a : Nat) (i : Int32) : Option Int32 := if a = k9.2.1 then (if outI i k9.2.2.1 then none else some (k9.2.2.2 i.toNatClampNeg)) else none
theorem r_alenQ (X : CX M G cc nL own rm) {a : Nat} {x : Int32} (d : decode cc pc = .ok (.arraylength, 1)) (h : alenQ (GK G).1 g a = some x) (kk : WW M G nL Q kc ks g (pc + 1) L (.int x :: st)) : WW M G nL Q kc ks g pc L (.ref a :: st) := by
  unfold alenQ at h
  by_cases hz : a = (GK G).1
  · rw [if_pos hz] at h
    cases h
    subst hz
    exact fun hk1 hk2 H locs ls hP hS hl => va_tlen X.1.1 X.1.2.1 X.sx.2.2.2.1.2 hS rfl d (kk hk1 hk2 H locs ls hP hS hl)
  · rw [if_neg hz] at h
    exact r_alen X 6 (by decide) d h kk
theorem r_slenS (X : CX M G cc nL own rm) {a : Nat} {x : Int32} (d : decode cc pc = .ok (.arraylength, 1)) (h : slenS (GK G) a = some x) (kk : WW M G nL Q kc ks g (pc + 1) L (.int x :: st)) : WW M G nL Q kc ks g pc L (.ref a :: st) := by
  unfold slenS at h
  by_cases hz : a = (GK G).2.1
  · rw [if_pos hz] at h
    cases h
    subst hz
    obtain ⟨h1, h2, h3⟩ := X.sx.2.2.2.2.2.2
    exact fun hk1 hk2 H locs ls hP hS hl => va_slen X.1.1 X.1.2.1 h1 h2 h3 hS d (kk hk1 hk2 H locs ls hP hS hl)
  · rw [if_neg hz] at h; cases h
theorem r_saldS (X : CX M G cc nL own rm) {a : Nat} {i x : Int32} (d : decode cc pc = .ok (.iaload, 1)) (h : saldS (GK G) a i = some x) (kk : WW M G nL Q kc ks g (pc + 1) L (.int x :: st)) : WW M G nL Q kc ks g pc L (.int i :: .ref a :: st) := by
  unfold saldS at h
  by_cases hz : a = (GK G).2.1
  · rw [if_pos hz] at h
    by_cases h9 : outI i (GK G).2.2.1
    · rw [if_pos h9] at h; cases h
    · rw [if_neg h9] at h
      cases h
      subst hz
      obtain ⟨h1, h2, h3⟩ := X.sx.2.2.2.2.2.2
      exact fun hk1 hk2 H locs ls hP hS hl => va_sld X.1.1 X.1.2.1 h1 h2 h3 hS h9 d (kk hk1 hk2 H locs ls hP hS hl)
  · rw [if_neg hz] at h; cases h
/-! the library's digits -/
def digB (k : Nat) (i : Int32) : Option Int32 := if outI i 100 then none else some ((bytD k).getD i.toNatClampNeg 0)
theorem r_digB (X : CX M G cc nL own rm) {k : Nat} {i x : Int32} (hk : k = 0 ∨ k = 1) (d : decode cc pc = .ok (.baload, 1)) (h : digB k i = some x) (kk : WW M G nL Q kc ks g (pc + 1) L (.int x :: st)) : WW M G nL Q kc ks g pc L (.int i :: .ref (G.2.2.2.1 (100 + k)) :: st) := by
  unfold digB at h
  by_cases h9 : outI i 100
  · rw [if_pos h9] at h; cases h
  · rw [if_neg h9] at h
    cases h
    rcases hk with rfl | rfl
    · exact fun hk1 hk2 H locs ls hP hS hl => va_tb X.1.1 X.1.2.1 X.sx.2.2.2.2.1.2 hS h9 rfl d (kk hk1 hk2 H locs ls hP hS hl)
    · exact fun hk1 hk2 H locs ls hP hS hl => va_tb X.1.1 X.1.2.1 X.sx.2.2.2.2.2.1.2 hS h9 rfl d (kk hk1 hk2 H locs ls hP hS hl)
theorem r_gets0 (X : CX M G cc nL own rm) {i : Nat} {C n d : String} {v : Value} (dd : decode cc pc = .ok (.getstatic i, 3)) (hw : Cond.fieldLink own i C n d ∈ TBL) (hZ : va_Z C n d v (gA G) (mS M) (mS M).heap) (kk : WW M G nL Q kc ks g (pc + 3) L (v :: st)) : WW M G nL Q kc ks g pc L st :=
  fun hk1 hk2 H locs ls hP hS hl => va_gets X.1.1 X.1.2.1 hZ hS X.1.2.2.2.1 (X.w hw) (fun _ h => h) dd (kk hk1 hk2 H locs ls hP hS hl)
/-! a result that may be null -/
theorem r_qret (X : CX M G cc nL own rm) {o : Option Nat} {mc ms : Nat} {rt : FieldType} (hr : (mM M).sig.returnType = some rt) (hrt : (∃ n, rt = .object n) ∨ ∃ t, rt = .array t) (d : decode cc pc = .ok (.areturn, 1)) (hc : kc ≤ mc) (hs : ks ≤ ms) : WW M G nL (RQ M G (some (va_rf o)) g mc ms) kc ks g pc L [va_rf o] := fun hk1 hk2 H locs ls hP hS hl =>
  W.widen hc hs (W.aret X.1.1 X.1.2.1 hr hrt (by cases o with
    | none => exact Or.inl rfl
    | some a => exact Or.inr ⟨a, rfl⟩) (fun t ht hW => ⟨⟨rfl, by rw [ht]; exact hP⟩, hS.F ht⟩) hS.2.2 d X.2.2.2.1)
def nb {α β : Type} (o : Option α) (z : Option β) (f : α → Option β) : Option β := match o with
  | none => z
  | some a => f a
theorem nb_none {α β : Type} {z : Option β} {f : α → Option β} : nb none z f = z := rfl
theorem nb_some {α β : Type} {a : α} {z : Option β} {f : α → Option β} : nb (some a) z f = f a := rfl
/-! the heap's size is what it is -/
theorem r_aloadQ (X : CX M G cc nL own rm) {i : Nat} {o : Option Nat} (d : decode cc pc = .ok (.aload i, 2)) (h : L.lookup i = some (va_rf o)) (k : WW M G nL Q kc ks g (pc + 2) L (va_rf o :: st)) : WW M G nL Q kc ks g pc L st := fun hk1 hk2 H locs ls hP hS hl => by
  cases o with
  | none => exact lv_aloadN X.1.1 X.1.2.1 d (lk hl h) (k hk1 hk2 H locs ls hP hS hl)
  | some x => exact lv_aload X.1.1 X.1.2.1 d (lk hl h) (k hk1 hk2 H locs ls hP hS hl)
theorem r_aloadQ_n (X : CX M G cc nL own rm) {j : Fin 4} (i : Nat) {o : Option Nat} (d : decode cc pc = .ok (.aload_n j, 1)) (hi : (j : Nat) = i) (h : L.lookup i = some (va_rf o)) (k : WW M G nL Q kc ks g (pc + 1) L (va_rf o :: st)) : WW M G nL Q kc ks g pc L st := fun hk1 hk2 H locs ls hP hS hl => by
  cases o with
  | none => exact lv_aload_nN X.1.1 X.1.2.1 d hi (lk hl h) (k hk1 hk2 H locs ls hP hS hl)
  | some x => exact lv_aload_n X.1.1 X.1.2.1 d hi (lk hl h) (k hk1 hk2 H locs ls hP hS hl)
theorem r_astoreQ (X : CX M G cc nL own rm) {i : Nat} {o : Option Nat} {L1 : List (Nat × Value)} (d : decode cc pc = .ok (.astore i, 2)) (hn : i < nL) (hl1 : lset1 L i (va_rf o) = L1) (k : WW M G nL Q kc ks g (pc + 2) L1 st) : WW M G nL Q kc ks g pc L (va_rf o :: st) := fun hk1 hk2 H locs ls hP hS hl => by
  cases o with
  | none => exact lv_astoreN X.1.1 X.1.2.1 d hl hn hl1 (fun ls' hl' => k hk1 hk2 H locs ls' hP hS hl')
  | some x => exact lv_astore X.1.1 X.1.2.1 d hl hn hl1 (fun ls' hl' => k hk1 hk2 H locs ls' hP hS hl')
theorem r_astoreQ_n (X : CX M G cc nL own rm) {j : Fin 4} (i : Nat) {o : Option Nat} {L1 : List (Nat × Value)} (d : decode cc pc = .ok (.astore_n j, 1)) (hi : (j : Nat) = i) (hn : i < nL) (hl1 : lset1 L i (va_rf o) = L1) (k : WW M G nL Q kc ks g (pc + 1) L1 st) : WW M G nL Q kc ks g pc L (va_rf o :: st) := fun hk1 hk2 H locs ls hP hS hl => by
  cases o with
  | none => exact lv_astore_nN X.1.1 X.1.2.1 d hi hl hn hl1 (fun ls' hl' => k hk1 hk2 H locs ls' hP hS hl')
  | some x => exact lv_astore_n X.1.1 X.1.2.1 d hi hl hn hl1 (fun ls' hl' => k hk1 hk2 H locs ls' hP hS hl')
theorem r_size (X : CX M G cc nL own rm) {f : Nat → Option hE} {o : Option Nat} (k : ∀ n : Nat, (∀ (a : Nat) (e : hE), f a = some e → a < n) → WW M G nL Q kc ks (f, some n) pc L st) : WW M G nL Q kc ks (f, o) pc L st := fun hk1 hk2 H locs ls hP hS hl =>
  k H.size (fun a e ha => (hP.1 a e ha).1.lt) hk1 hk2 H locs ls ⟨hP.1, fun n hn => (by cases hn; rfl)⟩ hS hl
theorem r_weak (X : CX M G cc nL own rm) {g2 : AH} (h : ∀ (a : Nat) (e : hE), g2.1 a = some e → g.1 a = some e) (h2 : g2.2 = none) (k : WW M G nL Q kc ks g2 pc L st) : WW M G nL Q kc ks g pc L st := fun hk1 hk2 H locs ls hP hS hl =>
  k hk1 hk2 H locs ls ⟨fun a e ha => hP.1 a e (h a e ha), fun n hn => (by rw [h2] at hn; cases hn)⟩ hS hl
end RowsY
