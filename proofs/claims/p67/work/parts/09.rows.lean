/-! what does not change while the law runs -/
def excTab : List String := ["java/lang/IllegalStateException", "java/lang/IllegalArgumentException", "java/lang/IndexOutOfBoundsException", "java/util/NoSuchElementException"]
def extraW : List Cond := [.castable "java/lang/IllegalStateException" "java/lang/IllegalStateException", .castable "java/lang/IllegalArgumentException" "java/lang/IllegalArgumentException", .castable "java/lang/IndexOutOfBoundsException" "java/lang/IndexOutOfBoundsException", .castable "java/util/NoSuchElementException" "java/util/NoSuchElementException", .declares (Bundle.initS "java/lang/RuntimeException"), .declares (Bundle.initS "java/lang/Exception"), .declares (Bundle.initS Bundle.tN)]
theorem extra_on : ∀ w ∈ extraW, w.onTables = true ∧ w.keepsFace = true := by decide
theorem face_warm {w : Cond} {s U : State} (hw : w.onTables = true ∧ w.keepsFace = true) (hW : s.WarmedH U.vm) (h : w.before #[] s = true) : w.before #[] U = true :=
  va_tabs hw.1 (rfl : (s.setVm U.vm).vm = U.vm) (Cond.before_shiftedFace (State.Shifted.of_warmed hW) w hw.2 h)
theorem nc_warm {a b : String} {s U : State} (hv : s.vm.Alike U.vm) (h : va_Nc a b s) : va_Nc a b U := by
  obtain ⟨c, t, h1, h2, h3⟩ := h
  exact ⟨c, t, by rw [hv.findClass]; exact h1, by rw [hv.findClass]; exact h2, by rw [hv.assignable]; exact h3⟩
/-- what the law and the library's classes stand on besides -/
def bytD : Nat → List Int32 := fun k => match k with
  | 0 => (List.range 100).map (fun i => Int32.ofNat (48 + i % 10))
  | _ => (List.range 100).map (fun i => Int32.ofNat (48 + i / 10))
def SX (G : GG) (U : State) (H : Heap) : Prop :=
  (va_AO "java/lang/Object" U ∧ va_Nw (.castable RX9 "java/lang/Object") U ∧ va_Nw (.castable "[B" "java/lang/Cloneable") U)
  ∧ (∀ q ∈ fnestT, va_Nw (.fieldLinkNest q.1 q.2.1 q.2.2.1 q.2.2.2.1 q.2.2.2.2 "HutLedgerLaw") U)
  ∧ (∀ q ∈ nestT2, va_Nw (.methodLinkNest q.1 q.2.1 q.2.2 "HutLedgerLaw") U)
  ∧ (va_Z "java/util/ArrayList" "DEFAULTCAPACITY_EMPTY_ELEMENTDATA" "[Ljava/lang/Object;" (.ref (G.2.2.1 100)) (gA G) U H ∧ va_T (.object "java/lang/Object") (G.2.2.1 100) 0 (fun _ => .null) (gA G) U H)
  ∧ (va_Z "java/lang/Integer" "DigitOnes" "[B" (.ref (G.2.2.2.1 100)) (gA G) U H ∧ va_T .byte (G.2.2.2.1 100) 100 (fun j => .int ((bytD 0).getD j 0)) (gA G) U H)
  ∧ (va_Z "java/lang/Integer" "DigitTens" "[B" (.ref (G.2.2.2.1 101)) (gA G) U H ∧ va_T .byte (G.2.2.2.1 101) 100 (fun j => .int ((bytD 1).getD j 0)) (gA G) U H)
  ∧ (va_X (G.2.2.1 101) G.2.2.2.2.1 G.2.2.2.2.2 U H ∧ G.2.2.1 101 < H.size ∧ ¬ gA G (G.2.2.1 101))
theorem SX.warm {G : GG} {s U : State} {H H1 : Heap} (h : SX G s H) (hW : s.WarmedH U.vm) (ho : ∀ q : Nat, q < H.size → ¬ gA G q → H1[q]? = H[q]?) : SX G U H1 := by
  obtain ⟨h1, h2, h3, h4, h5, h6, h7⟩ := h
  have hv := hW.alike
  refine ⟨⟨h1.1.moved hv, va_Nw.warmC hW h1.2.1, va_Nw.warmC hW h1.2.2⟩, fun q hq => va_Nw.warmF hW (h2 q hq), fun q hq => va_Nw.warmM hW (h3 q hq), ⟨(h4.1.moved hv).kept ho, (h4.2.moved hv).kept ho⟩, ⟨(h5.1.moved hv).kept ho, (h5.2.moved hv).kept ho⟩, ⟨(h6.1.moved hv).kept ho, (h6.2.moved hv).kept ho⟩, ?_, ?_, h7.2.2⟩
  · exact (h7.1.moved hv).kept (ho _ h7.2.1 h7.2.2)
  · obtain ⟨scr, q1, -⟩ := (h7.1.moved hv).kept (ho _ h7.2.1 h7.2.2)
    exact (Array.getElem?_eq_some_iff.mp q1).1
theorem SX.same {G : GG} {u U : State} {H : Heap} (h : SX G u H) (hv : u.vm = U.vm) : SX G U H := by
  have e : u.vm.Alike U.vm := hv ▸ Vm.Alike.refl u.vm
  obtain ⟨h1, h2, h3, h4, h5, h6, h7⟩ := h
  exact ⟨⟨h1.1.moved e, va_Nw.same rfl hv h1.2.1, va_Nw.same rfl hv h1.2.2⟩, fun q hq => va_Nw.same rfl hv (h2 q hq), fun q hq => va_Nw.same rfl hv (h3 q hq), ⟨h4.1.moved e, h4.2.moved e⟩, ⟨h5.1.moved e, h5.2.moved e⟩, ⟨h6.1.moved e, h6.2.moved e⟩, h7.1.moved e, h7.2⟩
def SC (G : GG) (U : State) (H : Heap) : Prop :=
  (∀ i : Nat, i < nST → va_O "java/lang/String" (G.2.2.1 i) (gA G) U H ∧ va_OF "java/lang/String" "coder" "B" (.int 0) (G.2.2.1 i) (gA G) U H ∧ va_OF "java/lang/String" "value" "[B" (.ref (G.2.2.2.1 i)) (G.2.2.1 i) (gA G) U H ∧ va_T .byte (G.2.2.2.1 i) (bytST i).length (fun j => .int ((bytST i).getD j 0)) (gA G) U H)
  ∧ (∀ q ∈ strTab, vk_R q.1 q.2.1 q.2.2.1 (G.2.2.1 q.2.2.2) U)
  ∧ (∀ q ∈ nestTab, va_Nw (.methodLinkNest q.1 q.2.1 q.2.2 "HutLedger") U)
  ∧ (va_AO RX1 U ∧ va_AO RX3 U ∧ SX G U H)
  ∧ (vx_Zq Bundle.tN "UNASSIGNED_STACK" Bundle.steD (gA G) U H ∧ vx_Zq Bundle.tN "SUPPRESSED_SENTINEL" Bundle.listD (gA G) U H)
  ∧ (va_Z "java/lang/String" "COMPACT_STRINGS" "Z" (.int 1) (gA G) U H ∧ va_Zq "jdk/internal/util/Preconditions" "SIOOBE_FORMATTER" "Ljava/util/function/BiFunction;" (gA G) U H)
  ∧ ((∀ w ∈ extraW, w.before #[] U = true) ∧ ∀ q ∈ excTab, ∀ r ∈ excTab, q ≠ r → va_Nc q r U)
theorem SC.warm {G : GG} {s U : State} {H H1 : Heap} (h : SC G s H) (hW : s.WarmedH U.vm) (ho : ∀ q : Nat, q < H.size → ¬ gA G q → H1[q]? = H[q]?) : SC G U H1 := by
  obtain ⟨h1, h2, h3, h4, h5, h6, h7⟩ := h
  have hv := hW.alike
  exact ⟨fun i hi => ⟨((h1 i hi).1.moved hv).kept ho, ((h1 i hi).2.1.moved hv).kept ho, ((h1 i hi).2.2.1.moved hv).kept ho, ((h1 i hi).2.2.2.moved hv).kept ho⟩,
    fun q hq => (h2 q hq).warm hW, fun q hq => va_Nw.warmM hW (h3 q hq), ⟨h4.1.moved hv, h4.2.1.moved hv, h4.2.2.warm hW ho⟩, ⟨(h5.1.moved hv).kept ho, (h5.2.moved hv).kept ho⟩, ⟨(h6.1.moved hv).kept ho, (h6.2.moved hv).kept ho⟩, ⟨fun w hw => face_warm (extra_on w hw) hW (h7.1 w hw), fun q hq r hr e => nc_warm hv (h7.2 q hq r hr e)⟩⟩
theorem SC.same {G : GG} {u U : State} {H : Heap} (h : SC G u H) (hv : u.vm = U.vm) : SC G U H := by
  have e : u.vm.Alike U.vm := hv ▸ Vm.Alike.refl u.vm
  obtain ⟨h1, h2, h3, h4, h5, h6, h7⟩ := h
  exact ⟨fun i hi => ⟨(h1 i hi).1.moved e, (h1 i hi).2.1.moved e, (h1 i hi).2.2.1.moved e, (h1 i hi).2.2.2.moved e⟩,
    fun q hq => (h2 q hq).same hv.symm, fun q hq => va_Nw.same rfl hv (h3 q hq), ⟨h4.1.moved e, h4.2.1.moved e, h4.2.2.same hv⟩, ⟨h5.1.moved e, h5.2.moved e⟩, ⟨h6.1.moved e, h6.2.moved e⟩, ⟨fun w hw => va_tabs (extra_on w hw).1 hv (h7.1 w hw), fun q hq r hr e9 => nc_warm e (h7.2 q hq r hr e9)⟩⟩
/-- a method's body: its code, the words, the tables, its room -/
def CX (M : MC) (G : GG) (cc : ByteArray) (nL : Nat) (own : String) (rm : Room) : Prop :=
  CallFix M.1 (mI M) (mC M) cc nL (mS M) (mA M) TBL own ∧ va_K G.1.1 vwCl (tysG G) (mS M) ∧ G.2.1 ≤ (mS M).heap.size ∧ (mM M).locks = false ∧ SC G (mS M) (mS M).heap ∧ M.2.2.2.1 = rm
section Rows
variable {M : MC} {G : GG} {cc : ByteArray} {nL : Nat} {own : String} {rm : Room} {Q : State → Prop} {kc ks : Nat} {g : AH} {pc : Nat} {L : List (Nat × Value)} {st : List Value}
theorem CX.w (X : CX M G cc nL own rm) {w : Cond} (h : w ∈ TBL) : w.before (mA M) (mS M) = true := X.1.2.2.2.2 w h
theorem CX.sx (X : CX M G cc nL own rm) : SX G (mS M) (mS M).heap := X.2.2.2.2.1.2.2.2.1.2.2
theorem sf_of {s : State} {args : Array Value} {R0 O n d : String} (w : (Cond.sameField R0 O n d).before args s = true) {x : ClassId × Class × Nat × Field} (hx : s.fieldFound? O n d = some x) : s.fieldFound? R0 n d = some x := by
  cases hr : s.fieldFound? R0 n d with
  | none => simp [Cond.before, Cond.holds, Cond.value, hr] at w
  | some y =>
    obtain ⟨c1, k1, i1, f1⟩ := y
    rw [Cond.sameField_spec hr w] at hx
    exact hx
theorem CX.ff (X : CX M G cc nL own rm) {R0 O n d : String} (h : R0 = O ∨ Cond.sameField R0 O n d ∈ TBL) {x : ClassId × Class × Nat × Field} (hx : (mS M).fieldFound? O n d = some x) : (mS M).fieldFound? R0 n d = some x := by
  rcases h with rfl | h
  · exact hx
  · exact sf_of (X.w h) hx
theorem lk {ls : Array Slot} {L : List (Nat × Value)} {i : Nat} {v : Value} (h : lv_has ls nL L) (hk : L.lookup i = some v) : ls[i]? = some (.val v) := by
  refine h.2.2 (i, v) ?_
  clear h
  induction L with
  | nil => cases hk
  | cons q L ih =>
    obtain ⟨j, w⟩ := q
    rw [List.lookup_cons] at hk
    by_cases hij : i = j
    · subst hij
      simp at hk
      subst hk
      exact List.mem_cons_self
    · have : (i == j) = false := by simp [hij]
      rw [this] at hk
      exact List.mem_cons_of_mem _ (ih hk)
theorem r_iconst (X : CX M G cc nL own rm) {n : Int} {v : Int32} (d : decode cc pc = .ok (.iconst n, 1)) (hv : Int32.ofInt n = v) (k : WW M G nL Q kc ks g (pc + 1) L (.int v :: st)) : WW M G nL Q kc ks g pc L st := fun hk1 hk2 H locs ls hP hS hl => lv_iconst X.1.1 X.1.2.1 d hv (k hk1 hk2 H locs ls hP hS hl)
theorem r_bipush (X : CX M G cc nL own rm) {n : Int} {v : Int32} (d : decode cc pc = .ok (.bipush n, 2)) (hv : (Int8.ofInt n).toInt32 = v) (k : WW M G nL Q kc ks g (pc + 2) L (.int v :: st)) : WW M G nL Q kc ks g pc L st := fun hk1 hk2 H locs ls hP hS hl => lv_bipush X.1.1 X.1.2.1 d hv (k hk1 hk2 H locs ls hP hS hl)
theorem r_sipush (X : CX M G cc nL own rm) {n : Int} {v : Int32} (d : decode cc pc = .ok (.sipush n, 3)) (hv : (Int16.ofInt n).toInt32 = v) (k : WW M G nL Q kc ks g (pc + 3) L (.int v :: st)) : WW M G nL Q kc ks g pc L st := fun hk1 hk2 H locs ls hP hS hl => lv_sipush X.1.1 X.1.2.1 d hv (k hk1 hk2 H locs ls hP hS hl)
theorem r_ldcI (X : CX M G cc nL own rm) {i : Nat} {v : Int32} (d : decode cc pc = .ok (.ldc i, 2)) (hw : Cond.constant own i v ∈ TBL) (k : WW M G nL Q kc ks g (pc + 2) L (.int v :: st)) : WW M G nL Q kc ks g pc L st := fun hk1 hk2 H locs ls hP hS hl => lv_ldc X.1.1 X.1.2.1 X.1.2.2.2.1 (X.w hw) d (k hk1 hk2 H locs ls hP hS hl)
theorem r_ldcS (X : CX M G cc nL own rm) {i j : Nat} {tx : String} (d : decode cc pc = .ok (.ldc i, 2)) (hw : (own, i, tx, j) ∈ strTab) (k : WW M G nL Q kc ks g (pc + 2) L (.ref (G.2.2.1 j) :: st)) : WW M G nL Q kc ks g pc L st := fun hk1 hk2 H locs ls hP hS hl => va_ldcS X.1.1 X.1.2.1 X.1.2.2.2.1 (X.2.2.2.2.1.2.1 _ hw) d (k hk1 hk2 H locs ls hP hS hl)
theorem r_iload (X : CX M G cc nL own rm) {i : Nat} {x : Int32} (d : decode cc pc = .ok (.iload i, 2)) (h : L.lookup i = some (.int x)) (k : WW M G nL Q kc ks g (pc + 2) L (.int x :: st)) : WW M G nL Q kc ks g pc L st := fun hk1 hk2 H locs ls hP hS hl => lv_iload X.1.1 X.1.2.1 d (lk hl h) (k hk1 hk2 H locs ls hP hS hl)
theorem r_iload_n (X : CX M G cc nL own rm) {j : Fin 4} (i : Nat) {x : Int32} (d : decode cc pc = .ok (.iload_n j, 1)) (hi : (j : Nat) = i) (h : L.lookup i = some (.int x)) (k : WW M G nL Q kc ks g (pc + 1) L (.int x :: st)) : WW M G nL Q kc ks g pc L st := fun hk1 hk2 H locs ls hP hS hl => lv_iload_n X.1.1 X.1.2.1 d hi (lk hl h) (k hk1 hk2 H locs ls hP hS hl)
theorem r_aload (X : CX M G cc nL own rm) {i : Nat} {x : Nat} (d : decode cc pc = .ok (.aload i, 2)) (h : L.lookup i = some (.ref x)) (k : WW M G nL Q kc ks g (pc + 2) L (.ref x :: st)) : WW M G nL Q kc ks g pc L st := fun hk1 hk2 H locs ls hP hS hl => lv_aload X.1.1 X.1.2.1 d (lk hl h) (k hk1 hk2 H locs ls hP hS hl)
theorem r_aload_n (X : CX M G cc nL own rm) {j : Fin 4} (i : Nat) {x : Nat} (d : decode cc pc = .ok (.aload_n j, 1)) (hi : (j : Nat) = i) (h : L.lookup i = some (.ref x)) (k : WW M G nL Q kc ks g (pc + 1) L (.ref x :: st)) : WW M G nL Q kc ks g pc L st := fun hk1 hk2 H locs ls hP hS hl => lv_aload_n X.1.1 X.1.2.1 d hi (lk hl h) (k hk1 hk2 H locs ls hP hS hl)
theorem r_dload (X : CX M G cc nL own rm) {i : Nat} {x : UInt64} (d : decode cc pc = .ok (.dload i, 2)) (h : L.lookup i = some (.double x)) (k : WW M G nL Q kc ks g (pc + 2) L (.double x :: st)) : WW M G nL Q kc ks g pc L st := fun hk1 hk2 H locs ls hP hS hl => lv_dload X.1.1 X.1.2.1 d (lk hl h) (k hk1 hk2 H locs ls hP hS hl)
abbrev lset1 (L : List (Nat × Value)) (i : Nat) (v : Value) : List (Nat × Value) := (i, v) :: L.filter (fun q => !(q.1 == i) && !(q.1 + 1 == i && q.2.category == 2))
abbrev lset2 (L : List (Nat × Value)) (i : Nat) (v : Value) : List (Nat × Value) := (i, v) :: L.filter (fun q => !(q.1 == i) && (!(q.1 == i + 1) && !(q.1 + 1 == i && q.2.category == 2)))
theorem r_istore (X : CX M G cc nL own rm) {i : Nat} {x : Int32} {L1 : List (Nat × Value)} (d : decode cc pc = .ok (.istore i, 2)) (hn : i < nL) (hl1 : lset1 L i (.int x) = L1) (k : WW M G nL Q kc ks g (pc + 2) L1 st) : WW M G nL Q kc ks g pc L (.int x :: st) := fun hk1 hk2 H locs ls hP hS hl => lv_istore X.1.1 X.1.2.1 d hl hn hl1 (fun ls' hl' => k hk1 hk2 H locs ls' hP hS hl')
theorem r_istore_n (X : CX M G cc nL own rm) {j : Fin 4} (i : Nat) {x : Int32} {L1 : List (Nat × Value)} (d : decode cc pc = .ok (.istore_n j, 1)) (hi : (j : Nat) = i) (hn : i < nL) (hl1 : lset1 L i (.int x) = L1) (k : WW M G nL Q kc ks g (pc + 1) L1 st) : WW M G nL Q kc ks g pc L (.int x :: st) := fun hk1 hk2 H locs ls hP hS hl => lv_istore_n X.1.1 X.1.2.1 d hi hl hn hl1 (fun ls' hl' => k hk1 hk2 H locs ls' hP hS hl')
theorem r_astore (X : CX M G cc nL own rm) {i : Nat} {x : Nat} {L1 : List (Nat × Value)} (d : decode cc pc = .ok (.astore i, 2)) (hn : i < nL) (hl1 : lset1 L i (.ref x) = L1) (k : WW M G nL Q kc ks g (pc + 2) L1 st) : WW M G nL Q kc ks g pc L (.ref x :: st) := fun hk1 hk2 H locs ls hP hS hl => lv_astore X.1.1 X.1.2.1 d hl hn hl1 (fun ls' hl' => k hk1 hk2 H locs ls' hP hS hl')
theorem r_astore_n (X : CX M G cc nL own rm) {j : Fin 4} (i : Nat) {x : Nat} {L1 : List (Nat × Value)} (d : decode cc pc = .ok (.astore_n j, 1)) (hi : (j : Nat) = i) (hn : i < nL) (hl1 : lset1 L i (.ref x) = L1) (k : WW M G nL Q kc ks g (pc + 1) L1 st) : WW M G nL Q kc ks g pc L (.ref x :: st) := fun hk1 hk2 H locs ls hP hS hl => lv_astore_n X.1.1 X.1.2.1 d hi hl hn hl1 (fun ls' hl' => k hk1 hk2 H locs ls' hP hS hl')
theorem r_dstore (X : CX M G cc nL own rm) {i : Nat} {x : UInt64} {L1 : List (Nat × Value)} (d : decode cc pc = .ok (.dstore i, 2)) (hn : i + 1 < nL) (hl1 : lset2 L i (.double x) = L1) (k : WW M G nL Q kc ks g (pc + 2) L1 st) : WW M G nL Q kc ks g pc L (.double x :: st) := fun hk1 hk2 H locs ls hP hS hl => lv_dstore X.1.1 X.1.2.1 d hl hn hl1 (fun ls' hl' => k hk1 hk2 H locs ls' hP hS hl')
theorem lk_at {L : List (Nat × Value)} {i : Nat} {v : Value} (hk : L.lookup i = some v) : ∃ k : Nat, L[k]? = some (i, v) := by
  induction L with
  | nil => cases hk
  | cons q L ih =>
    obtain ⟨j, w⟩ := q
    rw [List.lookup_cons] at hk
    by_cases hij : i = j
    · subst hij
      simp at hk
      subst hk
      exact ⟨0, rfl⟩
    · have : (i == j) = false := by simp [hij]
      rw [this] at hk
      obtain ⟨k, hk⟩ := ih hk
      exact ⟨k + 1, hk⟩
theorem r_iinc (X : CX M G cc nL own rm) {i : Nat} {n : Int} {x v : Int32} {L1 : List (Nat × Value)} (d : decode cc pc = .ok (.iinc i n, 3)) (h : L.lookup i = some (.int x)) (hv : x + Int32.ofInt n = v) (hn : i < nL) (hl1 : lset1 L i (.int v) = L1) (k : WW M G nL Q kc ks g (pc + 3) L1 st) : WW M G nL Q kc ks g pc L st := fun hk1 hk2 H locs ls hP hS hl => by
  obtain ⟨q, hq⟩ := lk_at h
  exact lv_iinc X.1.1 X.1.2.1 d hl hq hv hn hl1 (fun ls' hl' => k hk1 hk2 H locs ls' hP hS hl')
/-- fewer locals -/
theorem r_sub {L1 : List (Nat × Value)} (h : ∀ q ∈ L1, q ∈ L) (k : WW M G nL Q kc ks g pc L1 st) : WW M G nL Q kc ks g pc L st := fun hk1 hk2 H locs ls hP hS hl => k hk1 hk2 H locs ls hP hS ⟨hl.1, hl.2.1, fun q hq => hl.2.2 q (h q hq)⟩
theorem r_widen (X : CX M G cc nL own rm) {kc' ks' : Nat} (h1 : kc ≤ kc' ∧ kc' ≤ rm.cells) (h2 : ks ≤ ks' ∧ ks' ≤ rm.slots) (k : WW M G nL Q kc' ks' g pc L st) : WW M G nL Q kc ks g pc L st := fun hk1 hk2 H locs ls hP hS hl => W.widen h1.1 h2.1 (k (by rw [X.2.2.2.2.2]; exact h1.2) (by rw [X.2.2.2.2.2]; exact h2.2) H locs ls hP hS hl)
abbrev lpick (l : List (Nat × Value)) (ks : List Nat) : List (Nat × Value) := lv_pick l ks
theorem r_pick {L1 : List (Nat × Value)} {is : List Nat} (h : lpick L is = L1) (k : WW M G nL Q kc ks g pc L1 st) : WW M G nL Q kc ks g pc L st := fun hk1 hk2 H locs ls hP hS hl => k hk1 hk2 H locs ls hP hS (lv_sub hl is h)
theorem r_iadd (X : CX M G cc nL own rm) {x y : Int32} (d : decode cc pc = .ok (.iadd, 1)) (k : WW M G nL Q kc ks g (pc + 1) L (.int (x + y) :: st)) : WW M G nL Q kc ks g pc L (.int y :: .int x :: st) := fun hk1 hk2 H locs ls hP hS hl => lv_iadd X.1.1 X.1.2.1 d (k hk1 hk2 H locs ls hP hS hl)
theorem r_isub (X : CX M G cc nL own rm) {x y : Int32} (d : decode cc pc = .ok (.isub, 1)) (k : WW M G nL Q kc ks g (pc + 1) L (.int (x - y) :: st)) : WW M G nL Q kc ks g pc L (.int y :: .int x :: st) := fun hk1 hk2 H locs ls hP hS hl => lv_isub X.1.1 X.1.2.1 d (k hk1 hk2 H locs ls hP hS hl)
theorem r_imul (X : CX M G cc nL own rm) {x y : Int32} (d : decode cc pc = .ok (.imul, 1)) (k : WW M G nL Q kc ks g (pc + 1) L (.int (x * y) :: st)) : WW M G nL Q kc ks g pc L (.int y :: .int x :: st) := fun hk1 hk2 H locs ls hP hS hl => lv_imul X.1.1 X.1.2.1 d (k hk1 hk2 H locs ls hP hS hl)
theorem r_idiv (X : CX M G cc nL own rm) {x y : Int32} (d : decode cc pc = .ok (.idiv, 1)) (h : ¬ y = 0) (k : WW M G nL Q kc ks g (pc + 1) L (.int (x / y) :: st)) : WW M G nL Q kc ks g pc L (.int y :: .int x :: st) := fun hk1 hk2 H locs ls hP hS hl => lv_idiv X.1.1 X.1.2.1 d h (k hk1 hk2 H locs ls hP hS hl)
theorem r_irem (X : CX M G cc nL own rm) {x y : Int32} (d : decode cc pc = .ok (.irem, 1)) (h : ¬ y = 0) (k : WW M G nL Q kc ks g (pc + 1) L (.int (x - x / y * y) :: st)) : WW M G nL Q kc ks g pc L (.int y :: .int x :: st) := fun hk1 hk2 H locs ls hP hS hl => lv_irem X.1.1 X.1.2.1 d h (k hk1 hk2 H locs ls hP hS hl)
theorem r_ineg (X : CX M G cc nL own rm) {x : Int32} (d : decode cc pc = .ok (.ineg, 1)) (k : WW M G nL Q kc ks g (pc + 1) L (.int (-x) :: st)) : WW M G nL Q kc ks g pc L (.int x :: st) := fun hk1 hk2 H locs ls hP hS hl => lv_ineg X.1.1 X.1.2.1 d (k hk1 hk2 H locs ls hP hS hl)
theorem r_iand (X : CX M G cc nL own rm) {x y : Int32} (d : decode cc pc = .ok (.iand, 1)) (k : WW M G nL Q kc ks g (pc + 1) L (.int (x &&& y) :: st)) : WW M G nL Q kc ks g pc L (.int y :: .int x :: st) := fun hk1 hk2 H locs ls hP hS hl => lv_iand X.1.1 X.1.2.1 d (k hk1 hk2 H locs ls hP hS hl)
theorem r_ishr (X : CX M G cc nL own rm) {x y : Int32} (d : decode cc pc = .ok (.ishr, 1)) (k : WW M G nL Q kc ks g (pc + 1) L (.int (x >>> (y &&& 31)) :: st)) : WW M G nL Q kc ks g pc L (.int y :: .int x :: st) := fun hk1 hk2 H locs ls hP hS hl => lv_ishr X.1.1 X.1.2.1 d (k hk1 hk2 H locs ls hP hS hl)
abbrev ushr (x y : Int32) : Int32 := (x.toUInt32 >>> (y.toUInt32 &&& Int32.toUInt32 31)).toInt32
theorem r_iushr (X : CX M G cc nL own rm) {x y : Int32} (d : decode cc pc = .ok (.iushr, 1)) (k : WW M G nL Q kc ks g (pc + 1) L (.int (ushr x y) :: st)) : WW M G nL Q kc ks g pc L (.int y :: .int x :: st) := fun hk1 hk2 H locs ls hP hS hl => lv_iushr X.1.1 X.1.2.1 d rfl (k hk1 hk2 H locs ls hP hS hl)
theorem r_i2b (X : CX M G cc nL own rm) {x : Int32} (d : decode cc pc = .ok (.i2b, 1)) (k : WW M G nL Q kc ks g (pc + 1) L (.int (x.toInt8.toInt32) :: st)) : WW M G nL Q kc ks g pc L (.int x :: st) := fun hk1 hk2 H locs ls hP hS hl => lv_i2b X.1.1 X.1.2.1 d rfl (k hk1 hk2 H locs ls hP hS hl)
theorem r_i2l (X : CX M G cc nL own rm) {x : Int32} (d : decode cc pc = .ok (.i2l, 1)) (k : WW M G nL Q kc ks g (pc + 1) L (.long (x.toInt64) :: st)) : WW M G nL Q kc ks g pc L (.int x :: st) := fun hk1 hk2 H locs ls hP hS hl => lv_i2l X.1.1 X.1.2.1 d rfl (k hk1 hk2 H locs ls hP hS hl)
theorem r_i2f (X : CX M G cc nL own rm) {x : Int32} (d : decode cc pc = .ok (.i2f, 1)) (k : WW M G nL Q kc ks g (pc + 1) L (.float (FP.i2f x) :: st)) : WW M G nL Q kc ks g pc L (.int x :: st) := fun hk1 hk2 H locs ls hP hS hl => lv_i2f X.1.1 X.1.2.1 d (k hk1 hk2 H locs ls hP hS hl)
theorem r_i2d (X : CX M G cc nL own rm) {x : Int32} (d : decode cc pc = .ok (.i2d, 1)) (k : WW M G nL Q kc ks g (pc + 1) L (.double (FP.i2d x) :: st)) : WW M G nL Q kc ks g pc L (.int x :: st) := fun hk1 hk2 H locs ls hP hS hl => lv_i2d X.1.1 X.1.2.1 d (k hk1 hk2 H locs ls hP hS hl)
theorem r_fdiv (X : CX M G cc nL own rm) {x y : UInt32} (d : decode cc pc = .ok (.fdiv, 1)) (h : vf_n32 (FP.fdiv x y)) (k : WW M G nL Q kc ks g (pc + 1) L (.float (FP.fdiv x y) :: st)) : WW M G nL Q kc ks g pc L (.float y :: .float x :: st) := fun hk1 hk2 H locs ls hP hS hl => lv_fdiv X.1.1 X.1.2.1 d h (k hk1 hk2 H locs ls hP hS hl)
theorem r_ddiv (X : CX M G cc nL own rm) {x y : UInt64} (d : decode cc pc = .ok (.ddiv, 1)) (h : vf_n64 (FP.ddiv x y)) (k : WW M G nL Q kc ks g (pc + 1) L (.double (FP.ddiv x y) :: st)) : WW M G nL Q kc ks g pc L (.double y :: .double x :: st) := fun hk1 hk2 H locs ls hP hS hl => lv_ddiv X.1.1 X.1.2.1 d h (k hk1 hk2 H locs ls hP hS hl)
theorem r_f2d (X : CX M G cc nL own rm) {x : UInt32} (d : decode cc pc = .ok (.f2d, 1)) (h : vf_n64 (FP.f2d x)) (k : WW M G nL Q kc ks g (pc + 1) L (.double (FP.f2d x) :: st)) : WW M G nL Q kc ks g pc L (.float x :: st) := fun hk1 hk2 H locs ls hP hS hl => lv_f2d X.1.1 X.1.2.1 d h (k hk1 hk2 H locs ls hP hS hl)
theorem r_dcmp (X : CX M G cc nL own rm) {x y : UInt64} {op : CmpOp} (d : decode cc pc = .ok (.dcmp op, 1)) (k : WW M G nL Q kc ks g (pc + 1) L (.int (Op.cmpValue (FP.dcmp x y) op) :: st)) : WW M G nL Q kc ks g pc L (.double y :: .double x :: st) := fun hk1 hk2 H locs ls hP hS hl => lv_dcmp X.1.1 X.1.2.1 d (k hk1 hk2 H locs ls hP hS hl)
theorem r_lcmp (X : CX M G cc nL own rm) {x y : Int64} (d : decode cc pc = .ok (.lcmp, 1)) (k : WW M G nL Q kc ks g (pc + 1) L (.int (lg_cmp x y) :: st)) : WW M G nL Q kc ks g pc L (.long y :: .long x :: st) := fun hk1 hk2 H locs ls hP hS hl => W.lcmp X.1.1 X.1.2.1 d (k hk1 hk2 H locs ls hP hS hl)
theorem r_fconst0 (X : CX M G cc nL own rm) (d : decode cc pc = .ok (.fconst 0, 1)) (k : WW M G nL Q kc ks g (pc + 1) L (.float FP.fconst0 :: st)) : WW M G nL Q kc ks g pc L st := fun hk1 hk2 H locs ls hP hS hl => lv_fconst0 X.1.1 X.1.2.1 d (k hk1 hk2 H locs ls hP hS hl)
theorem r_dconst0 (X : CX M G cc nL own rm) (d : decode cc pc = .ok (.dconst 0, 1)) (k : WW M G nL Q kc ks g (pc + 1) L (.double FP.dconst0 :: st)) : WW M G nL Q kc ks g pc L st := fun hk1 hk2 H locs ls hP hS hl => lv_dconst0 X.1.1 X.1.2.1 d (k hk1 hk2 H locs ls hP hS hl)
theorem r_dup (X : CX M G cc nL own rm) {v : Value} (d : decode cc pc = .ok (.dup, 1)) (h : v.category = 1) (k : WW M G nL Q kc ks g (pc + 1) L (v :: v :: st)) : WW M G nL Q kc ks g pc L (v :: st) := fun hk1 hk2 H locs ls hP hS hl => lv_dup X.1.1 X.1.2.1 d h (k hk1 hk2 H locs ls hP hS hl)
theorem r_dup2 (X : CX M G cc nL own rm) {v w : Value} (d : decode cc pc = .ok (.dup2, 1)) (h : v.category = 1) (h2 : w.category = 1) (k : WW M G nL Q kc ks g (pc + 1) L (v :: w :: v :: w :: st)) : WW M G nL Q kc ks g pc L (v :: w :: st) := fun hk1 hk2 H locs ls hP hS hl => lv_dup2_11 X.1.1 X.1.2.1 d h h2 (k hk1 hk2 H locs ls hP hS hl)
theorem r_pop (X : CX M G cc nL own rm) {v : Value} (d : decode cc pc = .ok (.pop, 1)) (h : v.category = 1) (k : WW M G nL Q kc ks g (pc + 1) L st) : WW M G nL Q kc ks g pc L (v :: st) := fun hk1 hk2 H locs ls hP hS hl => lv_pop X.1.1 X.1.2.1 d h (k hk1 hk2 H locs ls hP hS hl)
theorem r_goto (X : CX M G cc nL own rm) {off : Int} (tgt : Nat) (d : decode cc pc = .ok (.goto off, 3)) (ht : (pc : Int) + off = (tgt : Int)) (k : WW M G nL Q kc ks g tgt L st) : WW M G nL Q kc ks g pc L st := fun hk1 hk2 H locs ls hP hS hl => lv_goto X.1.1 X.1.2.1 d ht (k hk1 hk2 H locs ls hP hS hl)
theorem r_if_eq (X : CX M G cc nL own rm) {x : Int32} {off : Int} (tgt : Nat) (d : decode cc pc = .ok (.ifCond .eq off, 3)) (ht : (pc : Int) + off = (tgt : Int)) (kt : x = 0 → WW M G nL Q kc ks g tgt L st) (kf : ¬ x = 0 → WW M G nL Q kc ks g (pc + 3) L st) : WW M G nL Q kc ks g pc L (.int x :: st) := fun hk1 hk2 H locs ls hP hS hl => lv_if_eq X.1.1 X.1.2.1 d ht (fun c => kt c hk1 hk2 H locs ls hP hS hl) (fun c => kf c hk1 hk2 H locs ls hP hS hl)
theorem r_if_ne (X : CX M G cc nL own rm) {x : Int32} {off : Int} (tgt : Nat) (d : decode cc pc = .ok (.ifCond .ne off, 3)) (ht : (pc : Int) + off = (tgt : Int)) (kt : ¬ x = 0 → WW M G nL Q kc ks g tgt L st) (kf : x = 0 → WW M G nL Q kc ks g (pc + 3) L st) : WW M G nL Q kc ks g pc L (.int x :: st) := fun hk1 hk2 H locs ls hP hS hl => lv_if_ne X.1.1 X.1.2.1 d ht (fun c => kt (by exact c) hk1 hk2 H locs ls hP hS hl) (fun c => kf (by first | exact c | exact Decidable.not_not.mp c) hk1 hk2 H locs ls hP hS hl)
theorem r_if_lt (X : CX M G cc nL own rm) {x : Int32} {off : Int} (tgt : Nat) (d : decode cc pc = .ok (.ifCond .lt off, 3)) (ht : (pc : Int) + off = (tgt : Int)) (kt : x < 0 → WW M G nL Q kc ks g tgt L st) (kf : ¬ x < 0 → WW M G nL Q kc ks g (pc + 3) L st) : WW M G nL Q kc ks g pc L (.int x :: st) := fun hk1 hk2 H locs ls hP hS hl => lv_if_lt X.1.1 X.1.2.1 d ht (fun c => kt c hk1 hk2 H locs ls hP hS hl) (fun c => kf c hk1 hk2 H locs ls hP hS hl)
theorem r_if_ge (X : CX M G cc nL own rm) {x : Int32} {off : Int} (tgt : Nat) (d : decode cc pc = .ok (.ifCond .ge off, 3)) (ht : (pc : Int) + off = (tgt : Int)) (kt : 0 ≤ x → WW M G nL Q kc ks g tgt L st) (kf : ¬ 0 ≤ x → WW M G nL Q kc ks g (pc + 3) L st) : WW M G nL Q kc ks g pc L (.int x :: st) := fun hk1 hk2 H locs ls hP hS hl => lv_if_ge X.1.1 X.1.2.1 d ht (fun c => kt c hk1 hk2 H locs ls hP hS hl) (fun c => kf c hk1 hk2 H locs ls hP hS hl)
theorem r_if_gt (X : CX M G cc nL own rm) {x : Int32} {off : Int} (tgt : Nat) (d : decode cc pc = .ok (.ifCond .gt off, 3)) (ht : (pc : Int) + off = (tgt : Int)) (kt : 0 < x → WW M G nL Q kc ks g tgt L st) (kf : ¬ 0 < x → WW M G nL Q kc ks g (pc + 3) L st) : WW M G nL Q kc ks g pc L (.int x :: st) := fun hk1 hk2 H locs ls hP hS hl => lv_if_gt X.1.1 X.1.2.1 d ht (fun c => kt c hk1 hk2 H locs ls hP hS hl) (fun c => kf c hk1 hk2 H locs ls hP hS hl)
theorem r_if_le (X : CX M G cc nL own rm) {x : Int32} {off : Int} (tgt : Nat) (d : decode cc pc = .ok (.ifCond .le off, 3)) (ht : (pc : Int) + off = (tgt : Int)) (kt : x ≤ 0 → WW M G nL Q kc ks g tgt L st) (kf : ¬ x ≤ 0 → WW M G nL Q kc ks g (pc + 3) L st) : WW M G nL Q kc ks g pc L (.int x :: st) := fun hk1 hk2 H locs ls hP hS hl => lv_if_le X.1.1 X.1.2.1 d ht (fun c => kt c hk1 hk2 H locs ls hP hS hl) (fun c => kf c hk1 hk2 H locs ls hP hS hl)
theorem r_icmp_eq (X : CX M G cc nL own rm) {x y : Int32} {off : Int} (tgt : Nat) (d : decode cc pc = .ok (.if_icmp .eq off, 3)) (ht : (pc : Int) + off = (tgt : Int)) (kt : x = y → WW M G nL Q kc ks g tgt L st) (kf : ¬ x = y → WW M G nL Q kc ks g (pc + 3) L st) : WW M G nL Q kc ks g pc L (.int y :: .int x :: st) := fun hk1 hk2 H locs ls hP hS hl => lv_icmp_eq X.1.1 X.1.2.1 d ht (fun c => kt c hk1 hk2 H locs ls hP hS hl) (fun c => kf c hk1 hk2 H locs ls hP hS hl)
theorem r_icmp_ne (X : CX M G cc nL own rm) {x y : Int32} {off : Int} (tgt : Nat) (d : decode cc pc = .ok (.if_icmp .ne off, 3)) (ht : (pc : Int) + off = (tgt : Int)) (kt : ¬ x = y → WW M G nL Q kc ks g tgt L st) (kf : x = y → WW M G nL Q kc ks g (pc + 3) L st) : WW M G nL Q kc ks g pc L (.int y :: .int x :: st) := fun hk1 hk2 H locs ls hP hS hl => lv_icmp_ne X.1.1 X.1.2.1 d ht (fun c => kt c hk1 hk2 H locs ls hP hS hl) (fun c => kf (by first | exact c | exact Decidable.not_not.mp c) hk1 hk2 H locs ls hP hS hl)
theorem r_icmp_lt (X : CX M G cc nL own rm) {x y : Int32} {off : Int} (tgt : Nat) (d : decode cc pc = .ok (.if_icmp .lt off, 3)) (ht : (pc : Int) + off = (tgt : Int)) (kt : x < y → WW M G nL Q kc ks g tgt L st) (kf : ¬ x < y → WW M G nL Q kc ks g (pc + 3) L st) : WW M G nL Q kc ks g pc L (.int y :: .int x :: st) := fun hk1 hk2 H locs ls hP hS hl => lv_icmp_lt X.1.1 X.1.2.1 d ht (fun c => kt c hk1 hk2 H locs ls hP hS hl) (fun c => kf c hk1 hk2 H locs ls hP hS hl)
theorem r_icmp_ge (X : CX M G cc nL own rm) {x y : Int32} {off : Int} (tgt : Nat) (d : decode cc pc = .ok (.if_icmp .ge off, 3)) (ht : (pc : Int) + off = (tgt : Int)) (kt : y ≤ x → WW M G nL Q kc ks g tgt L st) (kf : ¬ y ≤ x → WW M G nL Q kc ks g (pc + 3) L st) : WW M G nL Q kc ks g pc L (.int y :: .int x :: st) := fun hk1 hk2 H locs ls hP hS hl => lv_icmp_ge X.1.1 X.1.2.1 d ht (fun c => kt c hk1 hk2 H locs ls hP hS hl) (fun c => kf c hk1 hk2 H locs ls hP hS hl)
theorem r_icmp_gt (X : CX M G cc nL own rm) {x y : Int32} {off : Int} (tgt : Nat) (d : decode cc pc = .ok (.if_icmp .gt off, 3)) (ht : (pc : Int) + off = (tgt : Int)) (kt : y < x → WW M G nL Q kc ks g tgt L st) (kf : ¬ y < x → WW M G nL Q kc ks g (pc + 3) L st) : WW M G nL Q kc ks g pc L (.int y :: .int x :: st) := fun hk1 hk2 H locs ls hP hS hl => lv_icmp_gt X.1.1 X.1.2.1 d ht (fun c => kt c hk1 hk2 H locs ls hP hS hl) (fun c => kf c hk1 hk2 H locs ls hP hS hl)
theorem r_icmp_le (X : CX M G cc nL own rm) {x y : Int32} {off : Int} (tgt : Nat) (d : decode cc pc = .ok (.if_icmp .le off, 3)) (ht : (pc : Int) + off = (tgt : Int)) (kt : x ≤ y → WW M G nL Q kc ks g tgt L st) (kf : ¬ x ≤ y → WW M G nL Q kc ks g (pc + 3) L st) : WW M G nL Q kc ks g pc L (.int y :: .int x :: st) := fun hk1 hk2 H locs ls hP hS hl => lv_icmp_le X.1.1 X.1.2.1 d ht (fun c => kt c hk1 hk2 H locs ls hP hS hl) (fun c => kf c hk1 hk2 H locs ls hP hS hl)
theorem r_ior (X : CX M G cc nL own rm) {x y : Int32} (d : decode cc pc = .ok (.ior, 1)) (k : WW M G nL Q kc ks g (pc + 1) L (.int (x ||| y) :: st)) : WW M G nL Q kc ks g pc L (.int y :: .int x :: st) := fun hk1 hk2 H locs ls hP hS hl => lv_ior X.1.1 X.1.2.1 d (k hk1 hk2 H locs ls hP hS hl)
theorem r_ixor (X : CX M G cc nL own rm) {x y : Int32} (d : decode cc pc = .ok (.ixor, 1)) (k : WW M G nL Q kc ks g (pc + 1) L (.int (x ^^^ y) :: st)) : WW M G nL Q kc ks g pc L (.int y :: .int x :: st) := fun hk1 hk2 H locs ls hP hS hl => lv_ixor X.1.1 X.1.2.1 d (k hk1 hk2 H locs ls hP hS hl)
theorem r_ishl (X : CX M G cc nL own rm) {x y : Int32} (d : decode cc pc = .ok (.ishl, 1)) (k : WW M G nL Q kc ks g (pc + 1) L (.int (x <<< (y &&& 31)) :: st)) : WW M G nL Q kc ks g pc L (.int y :: .int x :: st) := fun hk1 hk2 H locs ls hP hS hl => lv_ishl X.1.1 X.1.2.1 d (k hk1 hk2 H locs ls hP hS hl)
theorem r_fcmp (X : CX M G cc nL own rm) {x y : UInt32} {op : CmpOp} (d : decode cc pc = .ok (.fcmp op, 1)) (k : WW M G nL Q kc ks g (pc + 1) L (.int (Op.cmpValue (FP.fcmp x y) op) :: st)) : WW M G nL Q kc ks g pc L (.float y :: .float x :: st) := fun hk1 hk2 H locs ls hP hS hl => lv_fcmp X.1.1 X.1.2.1 d (k hk1 hk2 H locs ls hP hS hl)
theorem r_dup_x1 (X : CX M G cc nL own rm) {v w : Value} (d : decode cc pc = .ok (.dup_x1, 1)) (h : v.category = 1) (h2 : w.category = 1) (k : WW M G nL Q kc ks g (pc + 1) L (v :: w :: v :: st)) : WW M G nL Q kc ks g pc L (v :: w :: st) := fun hk1 hk2 H locs ls hP hS hl => lv_dup_x1 X.1.1 X.1.2.1 d h h2 (k hk1 hk2 H locs ls hP hS hl)
theorem r_dup_x2 (X : CX M G cc nL own rm) {v w z : Value} (d : decode cc pc = .ok (.dup_x2, 1)) (h : v.category = 1) (h2 : w.category = 1) (h3 : z.category = 1) (k : WW M G nL Q kc ks g (pc + 1) L (v :: w :: z :: v :: st)) : WW M G nL Q kc ks g pc L (v :: w :: z :: st) := fun hk1 hk2 H locs ls hP hS hl => lv_dup_x2 X.1.1 X.1.2.1 d h h2 h3 (k hk1 hk2 H locs ls hP hS hl)
theorem r_null (X : CX M G cc nL own rm) (d : decode cc pc = .ok (.aconst_null, 1)) (k : WW M G nL Q kc ks g (pc + 1) L (va_rf none :: st)) : WW M G nL Q kc ks g pc L st := fun hk1 hk2 H locs ls hP hS hl => lv_null X.1.1 X.1.2.1 d (k hk1 hk2 H locs ls hP hS hl)
theorem r_ifnull0 (X : CX M G cc nL own rm) {off : Int} (tgt : Nat) (d : decode cc pc = .ok (.ifnull off, 3)) (ht : (pc : Int) + off = (tgt : Int)) (k : WW M G nL Q kc ks g tgt L st) : WW M G nL Q kc ks g pc L (va_rf none :: st) := fun hk1 hk2 H locs ls hP hS hl => lv_ifnullN X.1.1 X.1.2.1 d ht (k hk1 hk2 H locs ls hP hS hl)
theorem r_ifnull1 (X : CX M G cc nL own rm) {off : Int} {x : Nat} (d : decode cc pc = .ok (.ifnull off, 3)) (k : WW M G nL Q kc ks g (pc + 3) L st) : WW M G nL Q kc ks g pc L (.ref x :: st) := fun hk1 hk2 H locs ls hP hS hl => lv_ifnull X.1.1 X.1.2.1 d (k hk1 hk2 H locs ls hP hS hl)
theorem r_ifnonnull0 (X : CX M G cc nL own rm) {off : Int} (d : decode cc pc = .ok (.ifnonnull off, 3)) (k : WW M G nL Q kc ks g (pc + 3) L st) : WW M G nL Q kc ks g pc L (va_rf none :: st) := fun hk1 hk2 H locs ls hP hS hl => lv_ifnonnullN X.1.1 X.1.2.1 d (k hk1 hk2 H locs ls hP hS hl)
theorem r_ifnonnull1 (X : CX M G cc nL own rm) {off : Int} {x : Nat} (tgt : Nat) (d : decode cc pc = .ok (.ifnonnull off, 3)) (ht : (pc : Int) + off = (tgt : Int)) (k : WW M G nL Q kc ks g tgt L st) : WW M G nL Q kc ks g pc L (.ref x :: st) := fun hk1 hk2 H locs ls hP hS hl => lv_ifnonnull X.1.1 X.1.2.1 d ht (k hk1 hk2 H locs ls hP hS hl)
theorem r_acmp_eq (X : CX M G cc nL own rm) {x y : Nat} {off : Int} (tgt : Nat) (d : decode cc pc = .ok (.if_acmp .eq off, 3)) (ht : (pc : Int) + off = (tgt : Int)) (kt : x = y → WW M G nL Q kc ks g tgt L st) (kf : ¬ x = y → WW M G nL Q kc ks g (pc + 3) L st) : WW M G nL Q kc ks g pc L (.ref y :: .ref x :: st) := fun hk1 hk2 H locs ls hP hS hl => lv_acmp_eq (rx := some x) (ry := some y) X.1.1 X.1.2.1 d ht (fun c => kt (Option.some.inj c) hk1 hk2 H locs ls hP hS hl) (fun c => kf (fun e => c (by rw [e])) hk1 hk2 H locs ls hP hS hl)
theorem r_acmp_ne (X : CX M G cc nL own rm) {x y : Nat} {off : Int} (tgt : Nat) (d : decode cc pc = .ok (.if_acmp .ne off, 3)) (ht : (pc : Int) + off = (tgt : Int)) (kt : ¬ x = y → WW M G nL Q kc ks g tgt L st) (kf : x = y → WW M G nL Q kc ks g (pc + 3) L st) : WW M G nL Q kc ks g pc L (.ref y :: .ref x :: st) := fun hk1 hk2 H locs ls hP hS hl => lv_acmp_ne (rx := some x) (ry := some y) X.1.1 X.1.2.1 d ht (fun c => kt (fun e => c (by rw [e])) hk1 hk2 H locs ls hP hS hl) (fun c => kf (Option.some.inj c) hk1 hk2 H locs ls hP hS hl)
end Rows
