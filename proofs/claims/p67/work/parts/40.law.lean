/-! the law's own: methods with a table of handlers, the script, the end -/
def cwH (y : MethodName) (bytes : ByteArray) (maxL : Nat) (ret : Option FieldType) (hh : List (Nat × Nat × Nat × Nat)) : List Cond := Cond.codeWith y bytes maxL ret hh :: TBL
def YW (y : MethodName) (bytes : ByteArray) (maxL : Nat) (ret : Option FieldType) (hh : List (Nat × Nat × Nat × Nat)) (n : Nat) : Prop := Jvm.plainName y.cls = true ∧ Cond.codeWith y bytes maxL ret hh ∈ TBL ∧ Cond.initialized y.cls ∈ TBL ∧ (y.cls ≠ "java/lang/invoke/MethodHandle" ∧ y.cls ≠ "java/lang/invoke/VarHandle" ∧ (parseMethodDescriptor y.desc).map (fun d => d.parameters.length) = some n) ∧ Cond.static y ∈ TBL
def CtW (l : Launch) (G : GG) (y : MethodName) (bytes : ByteArray) (maxL : Nat) (ret : Option FieldType) (hh : List (Nat × Nat × Nat × Nat)) (rm : Room) (av : List Value) (g : AH) (r : Option Value) (g1 : AH) : Prop :=
  vx_Met l y (cwH y bytes maxL ret hh) rm (PcG G g av) (QcX G (.inl r) g1) (XcX G (.inl r) g1) rm.cells rm.slots (gA G)
theorem ctW_of {l : Launch} {G : GG} {n : Nat} {y : MethodName} {bytes : ByteArray} {maxL : Nat} {ret : Option FieldType} {hh : List (Nat × Nat × Nat × Nat)} {rm : Room} {av : List Value} {g g1 : AH} {r : Option Value} {L0 : List (Nat × Value)} (yw : YW y bytes maxL ret hh n) (hL : lv_args 0 av = L0) (hlen : (lg_sl av).length ≤ maxL)
    (body : ∀ M : MC, M.2.1 = l → CX M G bytes maxL y.cls rm → (mM M).sig.returnType = ret → (mC M).exceptionTable.toList = tableOf hh → WW M G maxL (RX M G (.inl r) g1 rm.cells rm.slots) 0 0 g 0 L0 []) : CtW l G y bytes maxL ret hh rm av g r g1 := by
  refine vx_ofWH (cc := bytes) (maxL := maxL) (ret := ret) (hh := hh) yw.1 rfl ?_
  intro p e s m args below meth c s₁ B hml hv
  obtain ⟨rfl, hP, hK, hSC, hB⟩ := hv
  have hts := atoms_spec (ws := cwH y bytes maxL ret hh) B.pre
  have htab := vx_table (x := y) B (hts _ List.mem_cons_self)
  rw [lg_entry_eq]
  have hl := lv_entry av (n := maxL) hlen
  rw [hL] at hl
  exact body (p, l, e, rm, s, m, av.toArray, below, meth, c) rfl ⟨⟨B.exec, B.bytes, hml, findClass_of_methodNamed B.named, fun w hw => hts w (List.mem_cons_of_mem _ hw)⟩, hK, hB, B.notSynchronized, hSC, rfl⟩ B.returns htab (Nat.zero_le _) (Nat.zero_le _) s.heap [] _ hP va_S.rf hl
section RowsL
variable {M : MC} {G : GG} {cc : ByteArray} {nL : Nat} {own : String} {rm : Room} {Q : State → Prop} {kc ks : Nat} {g : AH} {pc : Nat} {L : List (Nat × Value)} {st : List Value}
theorem r_callW (X : CX M G cc nL own rm) {l : Launch} (hl0 : M.2.1 = l) {i n : Nat} {y : MethodName} {bytes : ByteArray} {maxL : Nat} {ret : Option FieldType} {hh : List (Nat × Nat × Nat × Nat)} {rmc : Room} {As : List Value} {r : Option Value} {g1 : AH} {st0 : List Value} (d : decode cc pc = .ok (.invokestatic i, 3)) (yw : YW y bytes maxL ret hh n) (hm : Cond.methodLink own i y ∈ TBL)
    (ct : CtW l G y bytes maxL ret hh rmc As g r g1) (hst : st0 = As.reverse ++ st) (hn : As.length = n) (hcat : (st.map fun v => v.category).sum ≤ 8) (hR : (rmc.frames + 1 ≤ rm.frames ∧ 8 + (maxL + 11) + rmc.locals ≤ rm.locals) ∧ kc + rmc.cells ≤ rm.cells ∧ ks + rmc.slots ≤ rm.slots)
    (kk : WW M G nL Q (kc + rmc.cells) (ks + rmc.slots) g1 (pc + 3) L (r.toList ++ st)) : WW M G nL Q kc ks g pc L st0 := by
  subst hl0
  refine r_runX X hR.2 (a := As.toArray) (fun H locs ls hP hS hl => ?_) kk
  have hws : ∀ w ∈ cwH y bytes maxL ret hh, ∀ (a' : Array Value) (U : State), (mS M).WarmedH U.vm → w.before a' U = true := by
    intro w hw a' U hW
    have hT : w ∈ TBL := by
      rcases List.mem_cons.mp hw with h | h
      · rw [h]; exact yw.2.1
      · exact h
    exact word_at hW (good_TBL hT) (X.w hT)
  exact vx_runSX (hh := hh) (bytes := bytes) (maxL := maxL) (ret := ret) X.1 ct ⟨⟨rfl, rfl, by rw [X.2.2.2.2.2]; exact hR.1.1, by rw [X.2.2.2.2.2]; exact hR.1.2, hws, List.mem_cons_self⟩, X.w yw.2.1, X.w yw.2.2.1, ⟨yw.2.2.2.1.1, yw.2.2.2.1.2.1⟩, desc_n yw.2.2.2.1.2.2, X.w hm, X.w yw.2.2.2.2⟩ ⟨PcG.blind, X.pre hP hS⟩ rfl hn hl.1 hst (by show 2 * 0 + _ ≤ 8; omega) d (by rw [X.2.2.2.2.2]; exact hR.2)
/-- a callee has thrown E9; the row x of this method's table takes it -/
theorem r_catch (X : CX M G cc nL own rm) {l : Launch} (hl0 : M.2.1 = l) {hh : List (Nat × Nat × Nat × Nat)} (ht : (mC M).exceptionTable.toList = tableOf hh) {i n ci b : Nat} {y : MethodName} {bytes : ByteArray} {maxL : Nat} {ret : Option FieldType} {rmc : Room} {As : List Value} {E9 : String} {g1 : AH} {st0 : List Value} {rc : vw_C} (d : decode cc pc = .ok (.invokevirtual i, 3)) (yl : YL 0 y bytes maxL ret n) (hm : Cond.methodLink own i y ∈ TBL) (hc : vwCl[ci]? = some rc) (hy : y.cls = rc.1) (hb : isO ci g b = some ())
    (ct : CtX l G y bytes maxL ret rmc (.ref b :: As) g (.inr E9) g1) (hst : st0 = As.reverse ++ .ref b :: st) (hn : As.length = n) (hcat : (st.map fun v => v.category).sum ≤ 8) (hR : (rmc.frames + 1 ≤ rm.frames ∧ 8 + (maxL + 11) + rmc.locals ≤ rm.locals) ∧ kc + rmc.cells ≤ rm.cells ∧ ks + rmc.slots ≤ rm.slots)
    (pre : List (Nat × Nat × Nat × Nat)) (x : Nat × Nat × Nat × Nat) (suf : List (Nat × Nat × Nat × Nat)) (hsp : hh = pre ++ x :: suf) (hE : E9 ∈ excTab) (hpass : ∀ z ∈ pre, z.2.2.2 ≠ 0 ∧ ∃ nm ∈ excTab, E9 ≠ nm ∧ Cond.classLink own z.2.2.2 nm ∈ TBL) (hcov : covers ⟨x.1, x.2.1, x.2.2.1, x.2.2.2⟩ pc = true) (h0 : x.2.2.2 ≠ 0) (hlk : Cond.classLink own x.2.2.2 E9 ∈ TBL) (hcast : Cond.castable E9 E9 ∈ extraW)
    (kk : ∀ q : Nat, WW M G nL Q (kc + rmc.cells) (ks + rmc.slots) g1 x.2.2.1 L [.ref q]) : WW M G nL Q kc ks g pc L st0 := by
  subst hl0
  subst hsp
  intro hk1 hk2 H locs ls hP hS hl T hT X9
  have h5 := yl.2.2.2.2.1 rfl
  have hrun := vx_runV (e := M.2.2.1) (below := mB M) (meth := mM M) (C := y.cls) (H := H) (locs := locs) (cells := kc) (slots := ks) (g := F0 (mI M) pc ls st0) X.1 ct ⟨X.callB yl hm hR.1, X.w h5.1, X.w h5.2⟩ ⟨PcG.blind, by rw [hy]; exact X.recv hP hc hb, X.pre hP hS⟩ rfl hn hl.1 hst (by show 2 * 0 + _ ≤ 8; omega) d (by rw [X.2.2.2.2.2]; exact hR.2)
  rcases hrun T hT X9 with ⟨v, st₀, t, T', Lc, e0, X', hL, e1, e2, hF, -⟩ | ⟨q, st₀, t, T', Lc, E, ce, e0, X', hL, e1, e2, ⟨rfl, hp, hz, hk⟩, hce, hcv, hcl, stp⟩
  · exact hF.elim
  · rw [e0] at hz hk
    have hS' : va_S (gA G) (mS M).heap T'.heap (locs ++ Lc) := ⟨Nat.le_trans hS.1 (by rw [e1]; exact hz), fun q h1 h2 => by rw [e1, hk q (Nat.lt_of_lt_of_le h1 hS.1) h2]; exact hS.2.1 q h1 h2, fun q hq => by
        rcases List.mem_append.mp hq with h | h
        · exact hS.2.2 q h
        · exact hL q h⟩
    obtain ⟨t2, a1, b1⟩ := vx_catch (H := T'.heap) (pc := pc) (ls := ls) (rest := st) (E := E) (name := E) (ce := ce) (Q := Q) X.1.2.2.2.1 (tableOf pre) ⟨x.1, x.2.1, x.2.2.1, x.2.2.2⟩ (tableOf suf) (by rw [ht]; simp [tableOf])
      (fun z hz => by
        obtain ⟨z0, hz0, rfl⟩ := List.mem_map.mp hz
        obtain ⟨q1, nm, q2, q3, q4⟩ := hpass z0 hz0
        exact Or.inr ⟨q1, nm, X.w q4, X.2.2.2.2.1.2.2.2.2.2.2.2 E hE nm q2 q3⟩) hcov h0 (X.w hlk) (X.th (Or.inr hcast)) (by rw [e1]; exact hce) hcv hcl
      (kk q (by rw [X.2.2.2.2.2]; exact hR.2.1) (by rw [X.2.2.2.2.2]; exact hR.2.2) T'.heap (locs ++ Lc) ls (by rw [e1]; exact hp) hS' hl) T' rfl X'
    exact ⟨t2, stp.trans a1, b1⟩
end RowsL
abbrev hh_L_activity : List (Nat × Nat × Nat × Nat) := [((0), (5), (6), (69))]
theorem y_L_activity : YW yL_activity cL_activity 3 (some .int) hh_L_activity 2 := ⟨by decide +kernel, tb5 (i := 197) rfl rfl, tb1 (i := 0) rfl rfl, by decide +kernel, tb5 (i := 196) rfl rfl⟩
abbrev hh_L_appendText : List (Nat × Nat × Nat × Nat) := [((0), (5), (6), (59))]
theorem y_L_appendText : YW yL_appendText cL_appendText 3 (some .int) hh_L_appendText 2 := ⟨by decide +kernel, tb5 (i := 62) rfl rfl, tb1 (i := 0) rfl rfl, by decide +kernel, tb5 (i := 61) rfl rfl⟩
abbrev hh_L_back : List (Nat × Nat × Nat × Nat) := [((0), (4), (5), (59))]
theorem y_L_back : YW yL_back cL_back 2 (some .int) hh_L_back 1 := ⟨by decide +kernel, tb5 (i := 106) rfl rfl, tb1 (i := 0) rfl rfl, by decide +kernel, tb5 (i := 105) rfl rfl⟩
abbrev hh_L_blanketOf : List (Nat × Nat × Nat × Nat) := [((0), (5), (6), (69))]
theorem y_L_blanketOf : YW yL_blanketOf cL_blanketOf 3 (some .int) hh_L_blanketOf 2 := ⟨by decide +kernel, tb5 (i := 175) rfl rfl, tb1 (i := 0) rfl rfl, by decide +kernel, tb5 (i := 174) rfl rfl⟩
abbrev hh_L_bunkOf : List (Nat × Nat × Nat × Nat) := [((0), (5), (6), (69))]
theorem y_L_bunkOf : YW yL_bunkOf cL_bunkOf 3 (some .int) hh_L_bunkOf 2 := ⟨by decide +kernel, tb5 (i := 168) rfl rfl, tb1 (i := 0) rfl rfl, by decide +kernel, tb5 (i := 167) rfl rfl⟩
abbrev hh_L_coinsOf : List (Nat × Nat × Nat × Nat) := [((0), (5), (6), (69))]
theorem y_L_coinsOf : YW yL_coinsOf cL_coinsOf 3 (some .int) hh_L_coinsOf 2 := ⟨by decide +kernel, tb5 (i := 228) rfl rfl, tb1 (i := 0) rfl rfl, by decide +kernel, tb5 (i := 227) rfl rfl⟩
abbrev hh_L_debtOf : List (Nat × Nat × Nat × Nat) := [((0), (5), (6), (69))]
theorem y_L_debtOf : YW yL_debtOf cL_debtOf 3 (some .int) hh_L_debtOf 2 := ⟨by decide +kernel, tb5 (i := 235) rfl rfl, tb1 (i := 0) rfl rfl, by decide +kernel, tb5 (i := 234) rfl rfl⟩
abbrev hh_L_fetchLogs : List (Nat × Nat × Nat × Nat) := [((0), (5), (6), (64)), ((0), (5), (10), (59))]
theorem y_L_fetchLogs : YW yL_fetchLogs cL_fetchLogs 3 (some .int) hh_L_fetchLogs 2 := ⟨by decide +kernel, tb7 (i := 89) rfl rfl, tb1 (i := 0) rfl rfl, by decide +kernel, tb7 (i := 88) rfl rfl⟩
abbrev hh_L_getUp : List (Nat × Nat × Nat × Nat) := [((0), (5), (6), (69)), ((0), (5), (10), (59))]
theorem y_L_getUp : YW yL_getUp cL_getUp 3 (some .int) hh_L_getUp 2 := ⟨by decide +kernel, tb7 (i := 75) rfl rfl, tb1 (i := 0) rfl rfl, by decide +kernel, tb7 (i := 74) rfl rfl⟩
abbrev hh_L_hikerIn : List (Nat × Nat × Nat × Nat) := [((0), (5), (6), (69))]
theorem y_L_hikerIn : YW yL_hikerIn cL_hikerIn 3 (some .int) hh_L_hikerIn 2 := ⟨by decide +kernel, tb6 (i := 2) rfl rfl, tb1 (i := 0) rfl rfl, by decide +kernel, tb6 (i := 1) rfl rfl⟩
abbrev hh_L_hoursOf : List (Nat × Nat × Nat × Nat) := [((0), (6), (7), (69)), ((0), (6), (11), (64))]
theorem y_L_hoursOf : YW yL_hoursOf cL_hoursOf 4 (some .int) hh_L_hoursOf 3 := ⟨by decide +kernel, tb5 (i := 135) rfl rfl, tb1 (i := 0) rfl rfl, by decide +kernel, tb5 (i := 134) rfl rfl⟩
abbrev hh_L_lieDown : List (Nat × Nat × Nat × Nat) := [((0), (6), (7), (69)), ((0), (6), (11), (59))]
theorem y_L_lieDown : YW yL_lieDown cL_lieDown 4 (some .int) hh_L_lieDown 3 := ⟨by decide +kernel, tb7 (i := 68) rfl rfl, tb1 (i := 0) rfl rfl, by decide +kernel, tb7 (i := 67) rfl rfl⟩
abbrev hh_L_noiseIn : List (Nat × Nat × Nat × Nat) := [((0), (5), (6), (69))]
theorem y_L_noiseIn : YW yL_noiseIn cL_noiseIn 3 (some .int) hh_L_noiseIn 2 := ⟨by decide +kernel, tb6 (i := 19) rfl rfl, tb1 (i := 0) rfl rfl, by decide +kernel, tb6 (i := 18) rfl rfl⟩
abbrev hh_L_passHours : List (Nat × Nat × Nat × Nat) := [((0), (5), (6), (64)), ((0), (5), (10), (59))]
theorem y_L_passHours : YW yL_passHours cL_passHours 3 (some .int) hh_L_passHours 2 := ⟨by decide +kernel, tb7 (i := 103) rfl rfl, tb1 (i := 0) rfl rfl, by decide +kernel, tb7 (i := 102) rfl rfl⟩
abbrev hh_L_payDebt : List (Nat × Nat × Nat × Nat) := [((0), (6), (7), (69)), ((0), (6), (11), (64)), ((0), (6), (15), (59))]
theorem y_L_payDebt : YW yL_payDebt cL_payDebt 4 (some .int) hh_L_payDebt 3 := ⟨by decide +kernel, tb7 (i := 96) rfl rfl, tb1 (i := 0) rfl rfl, by decide +kernel, tb7 (i := 95) rfl rfl⟩
abbrev hh_L_ranked : List (Nat × Nat × Nat × Nat) := [((0), (5), (6), (143))]
theorem y_L_ranked : YW yL_ranked cL_ranked 3 (some .int) hh_L_ranked 2 := ⟨by decide +kernel, tb6 (i := 44) rfl rfl, tb1 (i := 0) rfl rfl, by decide +kernel, tb6 (i := 43) rfl rfl⟩
abbrev hh_L_returnBlanket : List (Nat × Nat × Nat × Nat) := [((0), (5), (6), (69)), ((0), (5), (10), (59))]
theorem y_L_returnBlanket : YW yL_returnBlanket cL_returnBlanket 3 (some .int) hh_L_returnBlanket 2 := ⟨by decide +kernel, tb7 (i := 54) rfl rfl, tb1 (i := 0) rfl rfl, by decide +kernel, tb7 (i := 53) rfl rfl⟩
abbrev hh_L_setRate : List (Nat × Nat × Nat × Nat) := [((0), (5), (6), (64))]
theorem y_L_setRate : YW yL_setRate cL_setRate 3 (some .int) hh_L_setRate 2 := ⟨by decide +kernel, tb7 (i := 82) rfl rfl, tb1 (i := 0) rfl rfl, by decide +kernel, tb7 (i := 81) rfl rfl⟩
abbrev hh_L_swapBlankets : List (Nat × Nat × Nat × Nat) := [((0), (6), (7), (69)), ((0), (6), (11), (59))]
theorem y_L_swapBlankets : YW yL_swapBlankets cL_swapBlankets 4 (some .int) hh_L_swapBlankets 3 := ⟨by decide +kernel, tb7 (i := 61) rfl rfl, tb1 (i := 0) rfl rfl, by decide +kernel, tb7 (i := 60) rfl rfl⟩
abbrev hh_L_takeBlanket : List (Nat × Nat × Nat × Nat) := [((0), (6), (7), (69)), ((0), (6), (11), (59))]
theorem y_L_takeBlanket : YW yL_takeBlanket cL_takeBlanket 4 (some .int) hh_L_takeBlanket 3 := ⟨by decide +kernel, tb6 (i := 162) rfl rfl, tb1 (i := 0) rfl rfl, by decide +kernel, tb6 (i := 161) rfl rfl⟩
abbrev hh_L_truncateText : List (Nat × Nat × Nat × Nat) := [((0), (5), (6), (64))]
theorem y_L_truncateText : YW yL_truncateText cL_truncateText 3 (some .int) hh_L_truncateText 2 := ⟨by decide +kernel, tb5 (i := 48) rfl rfl, tb1 (i := 0) rfl rfl, by decide +kernel, tb5 (i := 47) rfl rfl⟩
abbrev hh_L_userOf : List (Nat × Nat × Nat × Nat) := [((0), (5), (6), (69))]
theorem y_L_userOf : YW yL_userOf cL_userOf 3 (some .int) hh_L_userOf 2 := ⟨by decide +kernel, tb6 (i := 27) rfl rfl, tb1 (i := 0) rfl rfl, by decide +kernel, tb6 (i := 26) rfl rfl⟩
abbrev hh_L_warmth : List (Nat × Nat × Nat × Nat) := [((0), (5), (6), (69))]
theorem y_L_warmth : YW yL_warmth cL_warmth 3 (some .int) hh_L_warmth 2 := ⟨by decide +kernel, tb5 (i := 182) rfl rfl, tb1 (i := 0) rfl rfl, by decide +kernel, tb5 (i := 181) rfl rfl⟩
