/-! what the entry gives: classes, arrays, strings, statics -/
theorem tl1 {w : Cond} {i : Nat} (h : tables_1_1[i]? = some w) : w ∈ lw_tbl := List.mem_append_right _ (List.mem_append_left _ (List.mem_of_getElem? h))
theorem tl2 {w : Cond} {i : Nat} (h : tables_1_2[i]? = some w) : w ∈ lw_tbl := List.mem_append_right _ (List.mem_append_right _ (List.mem_append_left _ (List.mem_of_getElem? h)))
theorem tl3 {w : Cond} {i : Nat} (h : tables_1_3[i]? = some w) : w ∈ lw_tbl := List.mem_append_right _ (List.mem_append_right _ (List.mem_append_right _ (List.mem_append_left _ (List.mem_of_getElem? h))))
theorem tl4 {w : Cond} {i : Nat} (h : tables_1_4[i]? = some w) : w ∈ lw_tbl := List.mem_append_right _ (List.mem_append_right _ (List.mem_append_right _ (List.mem_append_right _ (List.mem_append_left _ (List.mem_of_getElem? h)))))
theorem tl5 {w : Cond} {i : Nat} (h : tables_1_5[i]? = some w) : w ∈ lw_tbl := List.mem_append_right _ (List.mem_append_right _ (List.mem_append_right _ (List.mem_append_right _ (List.mem_append_right _ (List.mem_append_left _ (List.mem_of_getElem? h))))))
theorem tl6 {w : Cond} {i : Nat} (h : tables_1_6[i]? = some w) : w ∈ lw_tbl := List.mem_append_right _ (List.mem_append_right _ (List.mem_append_right _ (List.mem_append_right _ (List.mem_append_right _ (List.mem_append_right _ (List.mem_append_left _ (List.mem_of_getElem? h)))))))
theorem tl7 {w : Cond} {i : Nat} (h : tables_1_7[i]? = some w) : w ∈ lw_tbl := List.mem_append_right _ (List.mem_append_right _ (List.mem_append_right _ (List.mem_append_right _ (List.mem_append_right _ (List.mem_append_right _ (List.mem_append_right _ (List.mem_of_getElem? h)))))))
abbrev prC : List Cond := flatC (Jvm.Cond.and given_1 narrow_1)
theorem pw {i : Nat} {w : Cond} (h : prC[i]? = some w) : w ∈ prC := List.mem_of_getElem? h
theorem ws_one {args : Array Value} {s : State} {t : Term} {byt : List Int32} {A : Nat → Prop} (hA : ∀ a : Nat, a < s.heap.size → ¬ A a) (hN : byt.length < 2 ^ 31) (hex : (Cond.exactly t "java/lang/String").before args s = true) (hco : (Cond.eq (.field t "java/lang/String" "coder" "B") (.int 0)).before args s = true)
    (har : (Cond.arrayOf (.field t "java/lang/String" "value" "[B") .byte).before args s = true) (hle : (Cond.eq (.length (.field t "java/lang/String" "value" "[B")) (.int (Int32.ofNat byt.length))).before args s = true)
    (hel : ∀ j : Nat, j < byt.length → (Cond.eq (.elem (.field t "java/lang/String" "value" "[B") (.int (Int32.ofNat j))) (.int (byt.getD j 0))).before args s = true) :
    ∃ q : Nat × Nat, t.eval args s none [] s = some (.ref q.1) ∧ va_O "java/lang/String" q.1 A s s.heap ∧ va_OF "java/lang/String" "coder" "B" (.int 0) q.1 A s s.heap ∧ va_OF "java/lang/String" "value" "[B" (.ref q.2) q.1 A s s.heap ∧ va_T .byte q.2 byt.length (fun j => .int (byt.getD j 0)) A s s.heap := by
  obtain ⟨a, c, cA, kA, q1, q2, q3, q4, q5, q6, -⟩ := Cond.exactly_spec (args := args) (first := s) (o := none) (s := s) (idx := []) (t := t) (cls := "java/lang/String") hex
  obtain ⟨v, ht, hT⟩ := va_Tof (f := fun j => .int (byt.getD j 0)) (A := A) hN har (va_eqt hle) (fun j hj => va_eqt (hel j hj)) hA
  exact ⟨(a, v), q1, ⟨cA, q3, q5, by rw [q6]; exact q2, hA a (Array.getElem?_eq_some_iff.mp q3).1⟩, vk_OFof q1 (va_eqt hco) hA, vk_OFof q1 ht hA, hT⟩
theorem ws_ref {args : Array Value} {s : State} {t : Term} (hex : (Cond.exactly t "java/lang/String").before args s = true) : ∃ q : Nat × Nat, t.eval args s none [] s = some (.ref q.1) := by
  obtain ⟨a, c, cA, kA, q1, -⟩ := Cond.exactly_spec (args := args) (first := s) (o := none) (s := s) (idx := []) (t := t) (cls := "java/lang/String") hex
  exact ⟨(a, 0), q1⟩
abbrev tmST : Nat → Term := fun j => match j with
  | 0 => .string "HutLedger" 70
  | 1 => .string "HutLedger$Grammar" 55
  | 2 => .string "HutLedger$Grammar" 79
  | 3 => .string "HutLedger$Grammar" 95
  | 4 => .string "HutLedger$Grammar" 103
  | 5 => .string "HutLedger$Grammar" 120
  | 6 => .string "HutLedgerLaw" 186
  | 7 => .string "HutLedgerLaw" 195
  | 8 => .string "HutLedgerLaw" 203
  | 9 => .string "HutLedgerLaw" 205
  | 10 => .string "HutLedgerLaw" 229
  | 11 => .string "HutLedger" 347
  | 12 => .string "HutLedger" 241
  | 13 => .string "HutLedger" 204
  | 14 => .string "HutLedger" 193
  | 15 => .string "HutLedger" 199
  | 16 => .string "HutLedger" 345
  | 17 => .string "HutLedger" 106
  | 18 => .string "HutLedger" 214
  | 19 => .string "HutLedger" 378
  | 20 => .string "HutLedger" 349
  | _ => .string "HutLedger" 92
theorem el_of {α : Type} {l : List α} {d n : Nat} {f : Nat → α} (h : (l.drop d).take n = (List.range n).map f) {q : Nat} (hq : q < n) : f q ∈ l := by
  have h1 : f q ∈ (l.drop d).take n := by
    rw [h]
    exact List.mem_map.mpr ⟨q, List.mem_range.mpr hq, rfl⟩
  exact List.mem_of_mem_drop (List.mem_of_mem_take h1)
theorem el_0 : (prC.drop 330).take 114 = (List.range 114).map (fun j => Cond.eq (.elem (.field (tmST 0) "java/lang/String" "value" "[B") (.int (Int32.ofNat j))) (.int ((bytST 0).getD j 0))) := by decide +kernel
theorem ws_0 {s : State} {b : Nat} (hs : ∀ w ∈ prC, w.before #[Value.ref b] s = true) {A : Nat → Prop} (hA : ∀ a : Nat, a < s.heap.size → ¬ A a) : ∃ q : Nat × Nat, (tmST 0).eval #[Value.ref b] s none [] s = some (.ref q.1) ∧ va_O "java/lang/String" q.1 A s s.heap ∧ va_OF "java/lang/String" "coder" "B" (.int 0) q.1 A s s.heap ∧ va_OF "java/lang/String" "value" "[B" (.ref q.2) q.1 A s s.heap ∧ va_T .byte q.2 (bytST 0).length (fun j => .int ((bytST 0).getD j 0)) A s s.heap :=
  ws_one hA (by decide) (hs _ (pw (i := 326) (by decide +kernel))) (hs _ (pw (i := 327) (by decide +kernel))) (hs _ (pw (i := 328) (by decide +kernel))) (hs _ (pw (i := 329) (by decide +kernel))) (fun q hq => hs _ (el_of el_0 hq))
theorem el_1 : (prC.drop 448).take 3 = (List.range 3).map (fun j => Cond.eq (.elem (.field (tmST 1) "java/lang/String" "value" "[B") (.int (Int32.ofNat j))) (.int ((bytST 1).getD j 0))) := by decide +kernel
theorem ws_1 {s : State} {b : Nat} (hs : ∀ w ∈ prC, w.before #[Value.ref b] s = true) {A : Nat → Prop} (hA : ∀ a : Nat, a < s.heap.size → ¬ A a) : ∃ q : Nat × Nat, (tmST 1).eval #[Value.ref b] s none [] s = some (.ref q.1) ∧ va_O "java/lang/String" q.1 A s s.heap ∧ va_OF "java/lang/String" "coder" "B" (.int 0) q.1 A s s.heap ∧ va_OF "java/lang/String" "value" "[B" (.ref q.2) q.1 A s s.heap ∧ va_T .byte q.2 (bytST 1).length (fun j => .int ((bytST 1).getD j 0)) A s s.heap :=
  ws_one hA (by decide) (hs _ (pw (i := 444) (by decide +kernel))) (hs _ (pw (i := 445) (by decide +kernel))) (hs _ (pw (i := 446) (by decide +kernel))) (hs _ (pw (i := 447) (by decide +kernel))) (fun q hq => hs _ (el_of el_1 hq))
theorem el_2 : (prC.drop 456).take 5 = (List.range 5).map (fun j => Cond.eq (.elem (.field (tmST 2) "java/lang/String" "value" "[B") (.int (Int32.ofNat j))) (.int ((bytST 2).getD j 0))) := by decide +kernel
theorem ws_2 {s : State} {b : Nat} (hs : ∀ w ∈ prC, w.before #[Value.ref b] s = true) {A : Nat → Prop} (hA : ∀ a : Nat, a < s.heap.size → ¬ A a) : ∃ q : Nat × Nat, (tmST 2).eval #[Value.ref b] s none [] s = some (.ref q.1) ∧ va_O "java/lang/String" q.1 A s s.heap ∧ va_OF "java/lang/String" "coder" "B" (.int 0) q.1 A s s.heap ∧ va_OF "java/lang/String" "value" "[B" (.ref q.2) q.1 A s s.heap ∧ va_T .byte q.2 (bytST 2).length (fun j => .int ((bytST 2).getD j 0)) A s s.heap :=
  ws_one hA (by decide) (hs _ (pw (i := 452) (by decide +kernel))) (hs _ (pw (i := 453) (by decide +kernel))) (hs _ (pw (i := 454) (by decide +kernel))) (hs _ (pw (i := 455) (by decide +kernel))) (fun q hq => hs _ (el_of el_2 hq))
theorem el_3 : (prC.drop 467).take 8 = (List.range 8).map (fun j => Cond.eq (.elem (.field (tmST 3) "java/lang/String" "value" "[B") (.int (Int32.ofNat j))) (.int ((bytST 3).getD j 0))) := by decide +kernel
theorem ws_3 {s : State} {b : Nat} (hs : ∀ w ∈ prC, w.before #[Value.ref b] s = true) {A : Nat → Prop} (hA : ∀ a : Nat, a < s.heap.size → ¬ A a) : ∃ q : Nat × Nat, (tmST 3).eval #[Value.ref b] s none [] s = some (.ref q.1) ∧ va_O "java/lang/String" q.1 A s s.heap ∧ va_OF "java/lang/String" "coder" "B" (.int 0) q.1 A s s.heap ∧ va_OF "java/lang/String" "value" "[B" (.ref q.2) q.1 A s s.heap ∧ va_T .byte q.2 (bytST 3).length (fun j => .int ((bytST 3).getD j 0)) A s s.heap :=
  ws_one hA (by decide) (hs _ (pw (i := 463) (by decide +kernel))) (hs _ (pw (i := 464) (by decide +kernel))) (hs _ (pw (i := 465) (by decide +kernel))) (hs _ (pw (i := 466) (by decide +kernel))) (fun q hq => hs _ (el_of el_3 hq))
theorem el_4 : (prC.drop 482).take 8 = (List.range 8).map (fun j => Cond.eq (.elem (.field (tmST 4) "java/lang/String" "value" "[B") (.int (Int32.ofNat j))) (.int ((bytST 4).getD j 0))) := by decide +kernel
theorem ws_4 {s : State} {b : Nat} (hs : ∀ w ∈ prC, w.before #[Value.ref b] s = true) {A : Nat → Prop} (hA : ∀ a : Nat, a < s.heap.size → ¬ A a) : ∃ q : Nat × Nat, (tmST 4).eval #[Value.ref b] s none [] s = some (.ref q.1) ∧ va_O "java/lang/String" q.1 A s s.heap ∧ va_OF "java/lang/String" "coder" "B" (.int 0) q.1 A s s.heap ∧ va_OF "java/lang/String" "value" "[B" (.ref q.2) q.1 A s s.heap ∧ va_T .byte q.2 (bytST 4).length (fun j => .int ((bytST 4).getD j 0)) A s s.heap :=
  ws_one hA (by decide) (hs _ (pw (i := 478) (by decide +kernel))) (hs _ (pw (i := 479) (by decide +kernel))) (hs _ (pw (i := 480) (by decide +kernel))) (hs _ (pw (i := 481) (by decide +kernel))) (fun q hq => hs _ (el_of el_4 hq))
theorem el_5 : (prC.drop 498).take 5 = (List.range 5).map (fun j => Cond.eq (.elem (.field (tmST 5) "java/lang/String" "value" "[B") (.int (Int32.ofNat j))) (.int ((bytST 5).getD j 0))) := by decide +kernel
theorem ws_5 {s : State} {b : Nat} (hs : ∀ w ∈ prC, w.before #[Value.ref b] s = true) {A : Nat → Prop} (hA : ∀ a : Nat, a < s.heap.size → ¬ A a) : ∃ q : Nat × Nat, (tmST 5).eval #[Value.ref b] s none [] s = some (.ref q.1) ∧ va_O "java/lang/String" q.1 A s s.heap ∧ va_OF "java/lang/String" "coder" "B" (.int 0) q.1 A s s.heap ∧ va_OF "java/lang/String" "value" "[B" (.ref q.2) q.1 A s s.heap ∧ va_T .byte q.2 (bytST 5).length (fun j => .int ((bytST 5).getD j 0)) A s s.heap :=
  ws_one hA (by decide) (hs _ (pw (i := 494) (by decide +kernel))) (hs _ (pw (i := 495) (by decide +kernel))) (hs _ (pw (i := 496) (by decide +kernel))) (hs _ (pw (i := 497) (by decide +kernel))) (fun q hq => hs _ (el_of el_5 hq))
theorem el_6 : (prC.drop 512).take 4 = (List.range 4).map (fun j => Cond.eq (.elem (.field (tmST 6) "java/lang/String" "value" "[B") (.int (Int32.ofNat j))) (.int ((bytST 6).getD j 0))) := by decide +kernel
theorem ws_6 {s : State} {b : Nat} (hs : ∀ w ∈ prC, w.before #[Value.ref b] s = true) {A : Nat → Prop} (hA : ∀ a : Nat, a < s.heap.size → ¬ A a) : ∃ q : Nat × Nat, (tmST 6).eval #[Value.ref b] s none [] s = some (.ref q.1) ∧ va_O "java/lang/String" q.1 A s s.heap ∧ va_OF "java/lang/String" "coder" "B" (.int 0) q.1 A s s.heap ∧ va_OF "java/lang/String" "value" "[B" (.ref q.2) q.1 A s s.heap ∧ va_T .byte q.2 (bytST 6).length (fun j => .int ((bytST 6).getD j 0)) A s s.heap :=
  ws_one hA (by decide) (hs _ (pw (i := 508) (by decide +kernel))) (hs _ (pw (i := 509) (by decide +kernel))) (hs _ (pw (i := 510) (by decide +kernel))) (hs _ (pw (i := 511) (by decide +kernel))) (fun q hq => hs _ (el_of el_6 hq))
theorem el_7 : (prC.drop 526).take 6 = (List.range 6).map (fun j => Cond.eq (.elem (.field (tmST 7) "java/lang/String" "value" "[B") (.int (Int32.ofNat j))) (.int ((bytST 7).getD j 0))) := by decide +kernel
theorem ws_7 {s : State} {b : Nat} (hs : ∀ w ∈ prC, w.before #[Value.ref b] s = true) {A : Nat → Prop} (hA : ∀ a : Nat, a < s.heap.size → ¬ A a) : ∃ q : Nat × Nat, (tmST 7).eval #[Value.ref b] s none [] s = some (.ref q.1) ∧ va_O "java/lang/String" q.1 A s s.heap ∧ va_OF "java/lang/String" "coder" "B" (.int 0) q.1 A s s.heap ∧ va_OF "java/lang/String" "value" "[B" (.ref q.2) q.1 A s s.heap ∧ va_T .byte q.2 (bytST 7).length (fun j => .int ((bytST 7).getD j 0)) A s s.heap :=
  ws_one hA (by decide) (hs _ (pw (i := 522) (by decide +kernel))) (hs _ (pw (i := 523) (by decide +kernel))) (hs _ (pw (i := 524) (by decide +kernel))) (hs _ (pw (i := 525) (by decide +kernel))) (fun q hq => hs _ (el_of el_7 hq))
theorem el_8 : (prC.drop 543).take 9 = (List.range 9).map (fun j => Cond.eq (.elem (.field (tmST 8) "java/lang/String" "value" "[B") (.int (Int32.ofNat j))) (.int ((bytST 8).getD j 0))) := by decide +kernel
theorem ws_8 {s : State} {b : Nat} (hs : ∀ w ∈ prC, w.before #[Value.ref b] s = true) {A : Nat → Prop} (hA : ∀ a : Nat, a < s.heap.size → ¬ A a) : ∃ q : Nat × Nat, (tmST 8).eval #[Value.ref b] s none [] s = some (.ref q.1) ∧ va_O "java/lang/String" q.1 A s s.heap ∧ va_OF "java/lang/String" "coder" "B" (.int 0) q.1 A s s.heap ∧ va_OF "java/lang/String" "value" "[B" (.ref q.2) q.1 A s s.heap ∧ va_T .byte q.2 (bytST 8).length (fun j => .int ((bytST 8).getD j 0)) A s s.heap :=
  ws_one hA (by decide) (hs _ (pw (i := 539) (by decide +kernel))) (hs _ (pw (i := 540) (by decide +kernel))) (hs _ (pw (i := 541) (by decide +kernel))) (hs _ (pw (i := 542) (by decide +kernel))) (fun q hq => hs _ (el_of el_8 hq))
theorem el_9 : (prC.drop 564).take 9 = (List.range 9).map (fun j => Cond.eq (.elem (.field (tmST 9) "java/lang/String" "value" "[B") (.int (Int32.ofNat j))) (.int ((bytST 9).getD j 0))) := by decide +kernel
theorem ws_9 {s : State} {b : Nat} (hs : ∀ w ∈ prC, w.before #[Value.ref b] s = true) {A : Nat → Prop} (hA : ∀ a : Nat, a < s.heap.size → ¬ A a) : ∃ q : Nat × Nat, (tmST 9).eval #[Value.ref b] s none [] s = some (.ref q.1) ∧ va_O "java/lang/String" q.1 A s s.heap ∧ va_OF "java/lang/String" "coder" "B" (.int 0) q.1 A s s.heap ∧ va_OF "java/lang/String" "value" "[B" (.ref q.2) q.1 A s s.heap ∧ va_T .byte q.2 (bytST 9).length (fun j => .int ((bytST 9).getD j 0)) A s s.heap :=
  ws_one hA (by decide) (hs _ (pw (i := 560) (by decide +kernel))) (hs _ (pw (i := 561) (by decide +kernel))) (hs _ (pw (i := 562) (by decide +kernel))) (hs _ (pw (i := 563) (by decide +kernel))) (fun q hq => hs _ (el_of el_9 hq))
theorem el_10 : (prC.drop 586).take 6 = (List.range 6).map (fun j => Cond.eq (.elem (.field (tmST 10) "java/lang/String" "value" "[B") (.int (Int32.ofNat j))) (.int ((bytST 10).getD j 0))) := by decide +kernel
theorem ws_10 {s : State} {b : Nat} (hs : ∀ w ∈ prC, w.before #[Value.ref b] s = true) {A : Nat → Prop} (hA : ∀ a : Nat, a < s.heap.size → ¬ A a) : ∃ q : Nat × Nat, (tmST 10).eval #[Value.ref b] s none [] s = some (.ref q.1) ∧ va_O "java/lang/String" q.1 A s s.heap ∧ va_OF "java/lang/String" "coder" "B" (.int 0) q.1 A s s.heap ∧ va_OF "java/lang/String" "value" "[B" (.ref q.2) q.1 A s s.heap ∧ va_T .byte q.2 (bytST 10).length (fun j => .int ((bytST 10).getD j 0)) A s s.heap :=
  ws_one hA (by decide) (hs _ (pw (i := 582) (by decide +kernel))) (hs _ (pw (i := 583) (by decide +kernel))) (hs _ (pw (i := 584) (by decide +kernel))) (hs _ (pw (i := 585) (by decide +kernel))) (fun q hq => hs _ (el_of el_10 hq))
theorem ws_all {s : State} {b : Nat} (hs : ∀ w ∈ prC, w.before #[Value.ref b] s = true) {A : Nat → Prop} (hA : ∀ a : Nat, a < s.heap.size → ¬ A a) : ∃ f : Nat → Nat × Nat, (∀ i : Nat, i < nST → va_O "java/lang/String" (f i).1 A s s.heap ∧ va_OF "java/lang/String" "coder" "B" (.int 0) (f i).1 A s s.heap ∧ va_OF "java/lang/String" "value" "[B" (.ref (f i).2) (f i).1 A s s.heap ∧ va_T .byte (f i).2 (bytST i).length (fun j => .int ((bytST i).getD j 0)) A s s.heap) ∧ ∀ i : Nat, i < 22 → (tmST i).eval #[Value.ref b] s none [] s = some (.ref (f i).1) := by
  have h0 : ∀ i : Nat, ∃ q : Nat × Nat, (i < nST → va_O "java/lang/String" q.1 A s s.heap ∧ va_OF "java/lang/String" "coder" "B" (.int 0) q.1 A s s.heap ∧ va_OF "java/lang/String" "value" "[B" (.ref q.2) q.1 A s s.heap ∧ va_T .byte q.2 (bytST i).length (fun j => .int ((bytST i).getD j 0)) A s s.heap) ∧ (i < 22 → (tmST i).eval #[Value.ref b] s none [] s = some (.ref q.1)) := by
    intro i
    match i with
    | 0 => exact (ws_0 hs hA).imp fun q h => ⟨fun _ => h.2, fun _ => h.1⟩
    | 1 => exact (ws_1 hs hA).imp fun q h => ⟨fun _ => h.2, fun _ => h.1⟩
    | 2 => exact (ws_2 hs hA).imp fun q h => ⟨fun _ => h.2, fun _ => h.1⟩
    | 3 => exact (ws_3 hs hA).imp fun q h => ⟨fun _ => h.2, fun _ => h.1⟩
    | 4 => exact (ws_4 hs hA).imp fun q h => ⟨fun _ => h.2, fun _ => h.1⟩
    | 5 => exact (ws_5 hs hA).imp fun q h => ⟨fun _ => h.2, fun _ => h.1⟩
    | 6 => exact (ws_6 hs hA).imp fun q h => ⟨fun _ => h.2, fun _ => h.1⟩
    | 7 => exact (ws_7 hs hA).imp fun q h => ⟨fun _ => h.2, fun _ => h.1⟩
    | 8 => exact (ws_8 hs hA).imp fun q h => ⟨fun _ => h.2, fun _ => h.1⟩
    | 9 => exact (ws_9 hs hA).imp fun q h => ⟨fun _ => h.2, fun _ => h.1⟩
    | 10 => exact (ws_10 hs hA).imp fun q h => ⟨fun _ => h.2, fun _ => h.1⟩
    | 11 => exact (ws_ref (hs _ (pw (i := 965) (by decide +kernel)))).imp fun q h => ⟨fun hi => absurd hi (by decide), fun _ => h⟩
    | 12 => exact (ws_ref (hs _ (pw (i := 770) (by decide +kernel)))).imp fun q h => ⟨fun hi => absurd hi (by decide), fun _ => h⟩
    | 13 => exact (ws_ref (hs _ (pw (i := 839) (by decide +kernel)))).imp fun q h => ⟨fun hi => absurd hi (by decide), fun _ => h⟩
    | 14 => exact (ws_ref (hs _ (pw (i := 806) (by decide +kernel)))).imp fun q h => ⟨fun hi => absurd hi (by decide), fun _ => h⟩
    | 15 => exact (ws_ref (hs _ (pw (i := 738) (by decide +kernel)))).imp fun q h => ⟨fun hi => absurd hi (by decide), fun _ => h⟩
    | 16 => exact (ws_ref (hs _ (pw (i := 911) (by decide +kernel)))).imp fun q h => ⟨fun hi => absurd hi (by decide), fun _ => h⟩
    | 17 => exact (ws_ref (hs _ (pw (i := 620) (by decide +kernel)))).imp fun q h => ⟨fun hi => absurd hi (by decide), fun _ => h⟩
    | 18 => exact (ws_ref (hs _ (pw (i := 876) (by decide +kernel)))).imp fun q h => ⟨fun hi => absurd hi (by decide), fun _ => h⟩
    | 19 => exact (ws_ref (hs _ (pw (i := 705) (by decide +kernel)))).imp fun q h => ⟨fun hi => absurd hi (by decide), fun _ => h⟩
    | 20 => exact (ws_ref (hs _ (pw (i := 1011) (by decide +kernel)))).imp fun q h => ⟨fun hi => absurd hi (by decide), fun _ => h⟩
    | 21 => exact (ws_ref (hs _ (pw (i := 650) (by decide +kernel)))).imp fun q h => ⟨fun hi => absurd hi (by decide), fun _ => h⟩
    | i + 22 => exact ⟨(0, 0), fun hi => absurd (show i + 22 < 11 from hi) (by omega), fun hi => absurd hi (by omega)⟩
  obtain ⟨f, hf⟩ := Classical.axiomOfChoice h0
  exact ⟨f, fun i hi => (hf i).1 hi, fun i hi => (hf i).2 hi⟩
theorem sel_of {C : String} {x z y : MethodName} {s : State} {args : Array Value} (hz : (Cond.selects C x z).before args s = true) (hc : z.cls = y.cls) (hy : y.cls ≠ "java/lang/invoke/MethodHandle" ∧ y.cls ≠ "java/lang/invoke/VarHandle") (hpriv : (Cond.privateMethod y).before args s = true) (hinst : (Cond.instanceMethod y).before args s = true) : (Cond.selects C y y).before args s = true := by
  obtain ⟨c, r, m, h1, -, h3, -, mk, h5, h6⟩ := Cond.selects_spec hz
  obtain ⟨mk2, methM, hnamed, hmethM, -, -⟩ := Cond.instanceMethod_spec hinst
  have hfound : s.methodFound? y.cls y.name y.desc = some mk2 := State.methodFound?_of_named hnamed hy
  have hcls : mk2.cls = m.cls := Option.some.inj ((findClass_of_methodNamed hnamed).symm.trans (by rw [← hc]; exact findClass_of_methodNamed h3))
  have hsel : selectMethod {} s.vm c mk2 = .method mk2 := selectMethod_private hmethM (Cond.privateMethod_at hpriv mk2 methM hnamed hmethM)
  simp only [Cond.before, Cond.holds, Cond.value, h1, hfound, hnamed, hsel, hcls, h5]
  simp; exact h6
theorem tbx_ok {s : State} {b : Nat} (hts : ∀ w ∈ lw_tbl, w.before #[Value.ref b] s = true) : ∀ w ∈ lw_tbx, w.before #[Value.ref b] s = true := by
  intro w hw
  rcases List.mem_append.mp hw with h | h
  · revert w
    exact fun w _ h => (show ∀ w ∈ selU, w.before #[Value.ref b] s = true from List.forall_mem_cons.mpr ⟨sel_of (hts _ (tl3 (i := 193) rfl)) rfl ⟨by decide +kernel, by decide +kernel⟩ (hts _ (tl3 (i := 161) rfl)) (hts _ (tl3 (i := 162) rfl)),
      List.forall_mem_cons.mpr ⟨sel_of (hts _ (tl3 (i := 193) rfl)) rfl ⟨by decide +kernel, by decide +kernel⟩ (hts _ (tl3 (i := 165) rfl)) (hts _ (tl3 (i := 166) rfl)),
      List.forall_mem_cons.mpr ⟨sel_of (hts _ (tl3 (i := 193) rfl)) rfl ⟨by decide +kernel, by decide +kernel⟩ (hts _ (tl3 (i := 212) rfl)) (hts _ (tl3 (i := 213) rfl)),
      List.forall_mem_cons.mpr ⟨sel_of (hts _ (tl3 (i := 193) rfl)) rfl ⟨by decide +kernel, by decide +kernel⟩ (hts _ (tl3 (i := 216) rfl)) (hts _ (tl3 (i := 217) rfl)),
      fun _ h => absurd h List.not_mem_nil⟩⟩⟩⟩) w h
  · exact hts w h
theorem ws_cls {s : State} {b : Nat} (hts : ∀ w ∈ lw_tbx, w.before #[Value.ref b] s = true) : ∃ f : Nat → ClassId × (Nat → Nat), ∀ (c : Nat) (q : vw_C), vwCl[c]? = some q → u_Kn s q.1 q.2.1 q.2.2 (f c).1 (f c).2 := by
  have h1 : ∀ w ∈ TBL, w.before #[Value.ref b] s = true := fun w hw => hts w (List.mem_filter.mp hw).1
  have h0 : ∀ c : Nat, ∃ f : ClassId × (Nat → Nat), ∀ q : vw_C, vwCl[c]? = some q → u_Kn s q.1 q.2.1 q.2.2 f.1 f.2 := by
    intro c
    match c with
    | 0 =>
      obtain ⟨cC, iS, h⟩ := u_known h1 in_X0 (h1 _ n_X0.1)
      exact ⟨(cC, iS), fun q hq => by cases hq; exact h⟩
    | 1 =>
      obtain ⟨cC, iS, h⟩ := u_known h1 in_X1 (h1 _ n_X1.1)
      exact ⟨(cC, iS), fun q hq => by cases hq; exact h⟩
    | 2 =>
      obtain ⟨cC, iS, h⟩ := u_known h1 in_X2 (h1 _ n_X2.1)
      exact ⟨(cC, iS), fun q hq => by cases hq; exact h⟩
    | 3 =>
      obtain ⟨cC, iS, h⟩ := u_known h1 in_X3 (h1 _ n_X3.1)
      exact ⟨(cC, iS), fun q hq => by cases hq; exact h⟩
    | 4 =>
      obtain ⟨cC, iS, h⟩ := u_known h1 in_X4 (h1 _ n_X4.1)
      exact ⟨(cC, iS), fun q hq => by cases hq; exact h⟩
    | 5 =>
      obtain ⟨cC, iS, h⟩ := u_known h1 in_X5 (h1 _ n_X5.1)
      exact ⟨(cC, iS), fun q hq => by cases hq; exact h⟩
    | 6 =>
      obtain ⟨cC, iS, h⟩ := u_known h1 in_X6 (h1 _ n_X6.1)
      exact ⟨(cC, iS), fun q hq => by cases hq; exact h⟩
    | 7 =>
      obtain ⟨cC, iS, h⟩ := u_known h1 in_X7 (h1 _ n_X7.1)
      exact ⟨(cC, iS), fun q hq => by cases hq; exact h⟩
    | 8 =>
      obtain ⟨cC, iS, h⟩ := u_known h1 in_X8 (h1 _ n_X8.1)
      exact ⟨(cC, iS), fun q hq => by cases hq; exact h⟩
    | 9 =>
      obtain ⟨cC, iS, h⟩ := u_known h1 in_X9 (h1 _ n_X9.1)
      exact ⟨(cC, iS), fun q hq => by cases hq; exact h⟩
    | 10 =>
      obtain ⟨cC, iS, h⟩ := u_known h1 in_L (h1 _ n_L.1)
      exact ⟨(cC, iS), fun q hq => by cases hq; exact h⟩
    | 11 =>
      obtain ⟨cC, iS, h⟩ := u_known h1 in_J4 (h1 _ n_J4.1)
      exact ⟨(cC, iS), fun q hq => by cases hq; exact h⟩
    | 12 =>
      obtain ⟨cC, iS, h⟩ := u_known h1 in_Jx4a65c (h1 _ n_Jx4a65c.1)
      exact ⟨(cC, iS), fun q hq => by cases hq; exact h⟩
    | 13 =>
      obtain ⟨cC, iS, h⟩ := u_known h1 in_J0 (h1 _ n_J0.1)
      exact ⟨(cC, iS), fun q hq => by cases hq; exact h⟩
    | c + 14 =>
      obtain ⟨cC, iS, h⟩ := u_known h1 in_X0 (h1 _ n_X0.1)
      exact ⟨(cC, iS), fun q hq => by cases hq⟩
  exact Classical.axiomOfChoice h0
theorem ws_arr1 {s : State} {args : Array Value} {ty : FieldType} (h : (Cond.arrayClass ty).before args s = true) : ∃ cA : ClassId, ArrOfT s cA ty ∧ s.vm.findClass ("[" ++ ty.toString) = some cA := by
  obtain ⟨c, k, comp, h1, h2, h3⟩ := Cond.arrayClass_spec h
  exact ⟨c, fun n z => ⟨fun k h => (by cases h), k, h2, comp, h3⟩, h1⟩
theorem ws_arr2 {s : State} {args : Array Value} {C : String} (h : (Cond.arrayOver (.object C)).before args s = true) : ∃ cA : ClassId, ArrOfT s cA (.object C) ∧ va_RA s cA (.object C) := by
  obtain ⟨comp, c, k, h1, h2, h3, h4, h5⟩ := Cond.arrayOver_spec h
  exact ⟨c, fun n z => ⟨fun k h => (by cases h), k, h3, comp, h4⟩, k, comp, h3, h4, h1, h5⟩
theorem ws_arr {s : State} {b : Nat} (hts : ∀ w ∈ lw_tbx, w.before #[Value.ref b] s = true) : ∃ f : Nat → ClassId, ∀ k : Nat, k < 7 → ArrOfT s (f k) (kT k) ∧ va_RA s (f k) (kT k) := by
  have h1 : ∀ w ∈ TBL, w.before #[Value.ref b] s = true := fun w hw => hts w (List.mem_filter.mp hw).1
  have h0 : ∀ k : Nat, ∃ cA : ClassId, k < 7 → ArrOfT s cA (kT k) ∧ va_RA s cA (kT k) := by
    intro k
    match k with
    | 0 => exact (ws_arr1 (h1 _ a_int)).imp fun c h _ => h
    | 1 => exact (ws_arr1 (h1 _ a_byte)).imp fun c h _ => h
    | 2 => exact (ws_arr1 (h1 _ a_boolean)).imp fun c h _ => h
    | 3 => exact (ws_arr1 (h1 _ a_int)).imp fun c h _ => h
    | 4 => exact (ws_arr2 (hts _ (List.mem_append_right _ (tl1 (i := 55) rfl)))).imp fun c h _ => h
    | 5 => exact (ws_arr2 (hts _ (List.mem_append_right _ (tl1 (i := 203) rfl)))).imp fun c h _ => h
    | 6 => exact (ws_arr2 (hts _ (List.mem_append_right _ (tl4 (i := 142) rfl)))).imp fun c h _ => h
    | k + 7 => exact (ws_arr1 (h1 _ a_int)).imp fun c h hk => absurd hk (by omega)
  exact Classical.axiomOfChoice h0
theorem dg_0 : (prC.drop 16).take 100 = (List.range 100).map (fun j => Cond.eq (.elem (Term.static "java/lang/Integer" "DigitOnes" "[B") (.int (Int32.ofNat j))) (.int ((bytD 0).getD j 0))) := by decide +kernel
theorem ws_d0 {s : State} {b : Nat} (hs : ∀ w ∈ prC, w.before #[Value.ref b] s = true) {A : Nat → Prop} (hA : ∀ a : Nat, a < s.heap.size → ¬ A a) : ∃ t : Nat, (Term.static "java/lang/Integer" "DigitOnes" "[B").eval #[Value.ref b] s none [] s = some (.ref t) ∧ va_T .byte t 100 (fun j => .int ((bytD 0).getD j 0)) A s s.heap :=
  va_Tof (by decide) (hs _ (pw (i := 14) (by decide +kernel))) (va_eqt (hs _ (pw (i := 15) (by decide +kernel)))) (fun j hj => va_eqt (hs _ (el_of dg_0 hj))) hA
theorem dg_1 : (prC.drop 119).take 100 = (List.range 100).map (fun j => Cond.eq (.elem (Term.static "java/lang/Integer" "DigitTens" "[B") (.int (Int32.ofNat j))) (.int ((bytD 1).getD j 0))) := by decide +kernel
theorem ws_d1 {s : State} {b : Nat} (hs : ∀ w ∈ prC, w.before #[Value.ref b] s = true) {A : Nat → Prop} (hA : ∀ a : Nat, a < s.heap.size → ¬ A a) : ∃ t : Nat, (Term.static "java/lang/Integer" "DigitTens" "[B").eval #[Value.ref b] s none [] s = some (.ref t) ∧ va_T .byte t 100 (fun j => .int ((bytD 1).getD j 0)) A s s.heap :=
  va_Tof (by decide) (hs _ (pw (i := 117) (by decide +kernel))) (va_eqt (hs _ (pw (i := 118) (by decide +kernel)))) (fun j hj => va_eqt (hs _ (el_of dg_1 hj))) hA
theorem ws_e {s : State} {b : Nat} (hs : ∀ w ∈ prC, w.before #[Value.ref b] s = true) {A : Nat → Prop} (hA : ∀ a : Nat, a < s.heap.size → ¬ A a) : ∃ t : Nat, (Term.static "java/util/ArrayList" "DEFAULTCAPACITY_EMPTY_ELEMENTDATA" "[Ljava/lang/Object;").eval #[Value.ref b] s none [] s = some (.ref t) ∧ va_T (.object "java/lang/Object") t 0 (fun _ => .null) A s s.heap :=
  va_Tof (by decide) (hs _ (pw (i := 10) (by decide +kernel))) (va_eqt (hs _ (pw (i := 12) (by decide +kernel)))) (fun j hj => absurd hj (Nat.not_lt_zero j)) hA
theorem ws_SC {s : State} {b L : Nat} {xs : Nat → Int32} (hX : va_X b L xs s s.heap) (hbl : b < s.heap.size) (hts : ∀ w ∈ lw_tbl, w.before #[Value.ref b] s = true) (htx : ∀ w ∈ lw_tbx, w.before #[Value.ref b] s = true) (hs : ∀ w ∈ prC, w.before #[Value.ref b] s = true) : ∃ G : GG, G.2.1 = s.heap.size ∧ va_K G.1.1 vwCl (tysG G) s ∧ SC G s s.heap ∧ G.2.2.1 101 = b ∧ G.2.2.2.2 = (L, xs) := by
  have hA : ∀ a : Nat, a < s.heap.size → ¬ (fun q : Nat => s.heap.size ≤ q) a := fun a h => Nat.not_le.mpr h
  obtain ⟨fs, hst0, hev0⟩ := ws_all hs hA
  obtain ⟨fc, hcl⟩ := ws_cls htx
  obtain ⟨fa, har⟩ := ws_arr htx
  obtain ⟨te, te1, te2⟩ := ws_e hs hA
  obtain ⟨t0, t01, t02⟩ := ws_d0 hs hA
  obtain ⟨t1, t11, t12⟩ := ws_d1 hs hA
  have hf : ∃ f : Nat → Nat × Nat, f 100 = (te, t0) ∧ f 101 = (b, t1) ∧ ∀ i, i < 100 → f i = fs i := ⟨fun i => if i = 100 then (te, t0) else if i = 101 then (b, t1) else fs i, rfl, rfl, fun i hi => by
    show (if i = 100 then (te, t0) else if i = 101 then (b, t1) else fs i) = fs i
    rw [if_neg (by omega), if_neg (by omega)]⟩
  obtain ⟨f, f0, f1, f2⟩ := hf
  have hst : ∀ i : Nat, i < nST → va_O "java/lang/String" (f i).1 (fun q : Nat => s.heap.size ≤ q) s s.heap ∧ va_OF "java/lang/String" "coder" "B" (.int 0) (f i).1 (fun q : Nat => s.heap.size ≤ q) s s.heap ∧ va_OF "java/lang/String" "value" "[B" (.ref (f i).2) (f i).1 (fun q : Nat => s.heap.size ≤ q) s s.heap ∧ va_T .byte (f i).2 (bytST i).length (fun j => .int ((bytST i).getD j 0)) (fun q : Nat => s.heap.size ≤ q) s s.heap := fun i hi => by
    rw [f2 i (Nat.lt_of_lt_of_le hi (by decide))]
    exact hst0 i hi
  have hev : ∀ i : Nat, i < 22 → (tmST i).eval #[Value.ref b] s none [] s = some (.ref (f i).1) := fun i hi => by
    rw [f2 i (by omega)]
    exact hev0 i hi
  refine ⟨((((fun c => (fc c).1), fun c => (fc c).2), fa), s.heap.size, (fun i => (f i).1), (fun i => (f i).2), L, xs), rfl, ⟨hcl, ?_⟩, ⟨hst, ?_, ?_, ⟨?_, ?_, ?_⟩, ⟨?_, ?_⟩, ⟨?_, ?_⟩, ?_, ?_⟩, ?_, rfl⟩
  · intro k q hq
    match k, hq with
    | 0, hq => cases hq; exact har 0 (by decide)
    | 1, hq => cases hq; exact har 1 (by decide)
    | 2, hq => cases hq; exact har 2 (by decide)
    | 3, hq => cases hq; exact har 3 (by decide)
    | 4, hq => cases hq; exact har 4 (by decide)
    | 5, hq => cases hq; exact har 5 (by decide)
    | 6, hq => cases hq; exact har 6 (by decide)
    | k + 7, hq => cases hq
  · exact List.forall_mem_cons.mpr ⟨vk_R.of (hts _ (tl2 (i := 52) rfl)) (hev 0 (by decide)),
      List.forall_mem_cons.mpr ⟨vk_R.of (hts _ (tl5 (i := 78) rfl)) (hev 21 (by decide)),
      List.forall_mem_cons.mpr ⟨vk_R.of (hts _ (tl5 (i := 56) rfl)) (hev 17 (by decide)),
      List.forall_mem_cons.mpr ⟨vk_R.of (hts _ (tl6 (i := 12) rfl)) (hev 14 (by decide)),
      List.forall_mem_cons.mpr ⟨vk_R.of (hts _ (tl5 (i := 158) rfl)) (hev 15 (by decide)),
      List.forall_mem_cons.mpr ⟨vk_R.of (hts _ (tl6 (i := 33) rfl)) (hev 13 (by decide)),
      List.forall_mem_cons.mpr ⟨vk_R.of (hts _ (tl6 (i := 71) rfl)) (hev 18 (by decide)),
      List.forall_mem_cons.mpr ⟨vk_R.of (hts _ (tl5 (i := 165) rfl)) (hev 12 (by decide)),
      List.forall_mem_cons.mpr ⟨vk_R.of (hts _ (tl6 (i := 214) rfl)) (hev 16 (by decide)),
      List.forall_mem_cons.mpr ⟨vk_R.of (hts _ (tl6 (i := 215) rfl)) (hev 11 (by decide)),
      List.forall_mem_cons.mpr ⟨vk_R.of (hts _ (tl6 (i := 216) rfl)) (hev 20 (by decide)),
      List.forall_mem_cons.mpr ⟨vk_R.of (hts _ (tl5 (i := 111) rfl)) (hev 19 (by decide)),
      List.forall_mem_cons.mpr ⟨vk_R.of (hts _ (tl2 (i := 136) rfl)) (hev 1 (by decide)),
      List.forall_mem_cons.mpr ⟨vk_R.of (hts _ (tl2 (i := 172) rfl)) (hev 2 (by decide)),
      List.forall_mem_cons.mpr ⟨vk_R.of (hts _ (tl2 (i := 181) rfl)) (hev 3 (by decide)),
      List.forall_mem_cons.mpr ⟨vk_R.of (hts _ (tl2 (i := 186) rfl)) (hev 4 (by decide)),
      List.forall_mem_cons.mpr ⟨vk_R.of (hts _ (tl2 (i := 191) rfl)) (hev 5 (by decide)),
      List.forall_mem_cons.mpr ⟨vk_R.of (hts _ (tl3 (i := 124) rfl)) (hev 6 (by decide)),
      List.forall_mem_cons.mpr ⟨vk_R.of (hts _ (tl4 (i := 41) rfl)) (hev 7 (by decide)),
      List.forall_mem_cons.mpr ⟨vk_R.of (hts _ (tl4 (i := 56) rfl)) (hev 8 (by decide)),
      List.forall_mem_cons.mpr ⟨vk_R.of (hts _ (tl4 (i := 57) rfl)) (hev 9 (by decide)),
      List.forall_mem_cons.mpr ⟨vk_R.of (hts _ (tl4 (i := 146) rfl)) (hev 10 (by decide)),
      fun _ h => absurd h List.not_mem_nil⟩⟩⟩⟩⟩⟩⟩⟩⟩⟩⟩⟩⟩⟩⟩⟩⟩⟩⟩⟩⟩⟩
  · exact List.forall_mem_cons.mpr ⟨va_Nw.of rfl (hts _ (tl1 (i := 184) rfl)),
      List.forall_mem_cons.mpr ⟨va_Nw.of rfl (hts _ (tl1 (i := 196) rfl)),
      List.forall_mem_cons.mpr ⟨va_Nw.of rfl (hts _ (tl1 (i := 218) rfl)),
      List.forall_mem_cons.mpr ⟨va_Nw.of rfl (hts _ (tl2 (i := 24) rfl)),
      List.forall_mem_cons.mpr ⟨va_Nw.of rfl (hts _ (tl2 (i := 42) rfl)),
      List.forall_mem_cons.mpr ⟨va_Nw.of rfl (hts _ (tl1 (i := 224) rfl)),
      List.forall_mem_cons.mpr ⟨va_Nw.of rfl (hts _ (tl2 (i := 161) rfl)),
      List.forall_mem_cons.mpr ⟨va_Nw.of rfl (hts _ (tl1 (i := 200) rfl)),
      List.forall_mem_cons.mpr ⟨va_Nw.of rfl (hts _ (tl1 (i := 57) rfl)),
      List.forall_mem_cons.mpr ⟨va_Nw.of rfl (hts _ (tl6 (i := 198) rfl)),
      fun _ h => absurd h List.not_mem_nil⟩⟩⟩⟩⟩⟩⟩⟩⟩⟩
  · exact va_AO.of (hts _ (tl1 (i := 55) rfl))
  · exact va_AO.of (hts _ (tl1 (i := 203) rfl))
  · refine ⟨⟨va_AO.of (hts _ (tl4 (i := 142) rfl)), va_Nw.of rfl (hts _ (tl7 (i := 142) rfl)), va_Nw.of rfl (hts _ (tl3 (i := 184) rfl))⟩, ?_, ?_, ⟨?_, ?_⟩, ⟨?_, ?_⟩, ⟨?_, ?_⟩, ?_, ?_, ?_⟩
    · exact List.forall_mem_cons.mpr ⟨va_Nw.of rfl (hts _ (tl4 (i := 64) rfl)),
      List.forall_mem_cons.mpr ⟨va_Nw.of rfl (hts _ (tl4 (i := 65) rfl)),
      List.forall_mem_cons.mpr ⟨va_Nw.of rfl (hts _ (tl4 (i := 66) rfl)),
      List.forall_mem_cons.mpr ⟨va_Nw.of rfl (hts _ (tl4 (i := 67) rfl)),
      List.forall_mem_cons.mpr ⟨va_Nw.of rfl (hts _ (tl4 (i := 70) rfl)),
      List.forall_mem_cons.mpr ⟨va_Nw.of rfl (hts _ (tl4 (i := 72) rfl)),
      List.forall_mem_cons.mpr ⟨va_Nw.of rfl (hts _ (tl4 (i := 68) rfl)),
      List.forall_mem_cons.mpr ⟨va_Nw.of rfl (hts _ (tl4 (i := 74) rfl)),
      fun _ h => absurd h List.not_mem_nil⟩⟩⟩⟩⟩⟩⟩⟩
    · exact List.forall_mem_cons.mpr ⟨va_Nw.of rfl (hts _ (tl4 (i := 60) rfl)),
      fun _ h => absurd h List.not_mem_nil⟩
    · exact va_Zof (hts _ (tl3 (i := 30) rfl)) (hts _ (tl1 (i := 17) rfl)) (by show _ = some (Value.ref (f 100).1); rw [f0]; exact te1) hA
    · show va_T _ (f 100).1 _ _ _ _ _
      rw [f0]; exact te2
    · exact va_Zof (hts _ (tl4 (i := 30) rfl)) (hts _ (tl1 (i := 24) rfl)) (by show _ = some (Value.ref (f 100).2); rw [f0]; exact t01) hA
    · show va_T _ (f 100).2 _ _ _ _ _
      rw [f0]; exact t02
    · exact va_Zof (hts _ (tl4 (i := 32) rfl)) (hts _ (tl1 (i := 24) rfl)) (by show _ = some (Value.ref (f 101).2); rw [f1]; exact t11) hA
    · show va_T _ (f 101).2 _ _ _ _ _
      rw [f1]; exact t12
    · show va_X (f 101).1 _ _ _ _
      rw [f1]; exact hX
    · show (f 101).1 < _
      rw [f1]; exact hbl
    · show ¬ s.heap.size ≤ (f 101).1
      rw [f1]; exact Nat.not_le.mpr hbl
  · exact vx_Zqof (hts _ (tl4 (i := 210) rfl)) (hts _ (tl1 (i := 26) rfl)) (hs _ (pw (i := 219) (by decide +kernel))) hA
  · exact vx_Zqof (hts _ (tl4 (i := 212) rfl)) (hts _ (tl1 (i := 26) rfl)) (hs _ (pw (i := 220) (by decide +kernel))) hA
  · exact va_Zof (hts _ (tl2 (i := 66) rfl)) (hts _ (tl1 (i := 10) rfl)) (va_eqi (hs _ (pw (i := 4) (by decide +kernel)))) hA
  · exact va_Zqof (hts _ (tl2 (i := 82) rfl)) (hts _ (tl1 (i := 12) rfl)) (hs _ (pw (i := 5) (by decide +kernel))) hA
  · intro w hw
    refine va_tabs (u := s) (A := #[Value.ref b]) (extra_on w hw).1 rfl ?_
    revert w
    exact List.forall_mem_cons.mpr ⟨(hts _ (tl5 (i := 71) rfl)),
      List.forall_mem_cons.mpr ⟨(hts _ (tl4 (i := 185) rfl)),
      List.forall_mem_cons.mpr ⟨(hts _ (tl5 (i := 151) rfl)),
      List.forall_mem_cons.mpr ⟨(hts _ (tl6 (i := 64) rfl)),
      List.forall_mem_cons.mpr ⟨(hts _ (tl4 (i := 187) rfl)),
      List.forall_mem_cons.mpr ⟨(hts _ (tl4 (i := 189) rfl)),
      List.forall_mem_cons.mpr ⟨(hts _ (tl4 (i := 191) rfl)),
      fun _ h => absurd h List.not_mem_nil⟩⟩⟩⟩⟩⟩⟩
  · exact List.forall_mem_cons.mpr ⟨List.forall_mem_cons.mpr ⟨fun h => absurd rfl h,
      List.forall_mem_cons.mpr ⟨fun _ => va_Nc.of (hs _ (pw (i := 235) (by decide +kernel))),
      List.forall_mem_cons.mpr ⟨fun _ => va_Nc.of (hs _ (pw (i := 270) (by decide +kernel))),
      List.forall_mem_cons.mpr ⟨fun _ => va_Nc.of (hs _ (pw (i := 287) (by decide +kernel))),
      fun _ h => absurd h List.not_mem_nil⟩⟩⟩⟩,
      List.forall_mem_cons.mpr ⟨List.forall_mem_cons.mpr ⟨fun _ => va_Nc.of (hs _ (pw (i := 252) (by decide +kernel))),
      List.forall_mem_cons.mpr ⟨fun h => absurd rfl h,
      List.forall_mem_cons.mpr ⟨fun _ => va_Nc.of (hs _ (pw (i := 269) (by decide +kernel))),
      List.forall_mem_cons.mpr ⟨fun _ => va_Nc.of (hs _ (pw (i := 286) (by decide +kernel))),
      fun _ h => absurd h List.not_mem_nil⟩⟩⟩⟩,
      List.forall_mem_cons.mpr ⟨List.forall_mem_cons.mpr ⟨fun _ => va_Nc.of (hs _ (pw (i := 253) (by decide +kernel))),
      List.forall_mem_cons.mpr ⟨fun _ => va_Nc.of (hs _ (pw (i := 236) (by decide +kernel))),
      List.forall_mem_cons.mpr ⟨fun h => absurd rfl h,
      List.forall_mem_cons.mpr ⟨fun _ => va_Nc.of (hs _ (pw (i := 288) (by decide +kernel))),
      fun _ h => absurd h List.not_mem_nil⟩⟩⟩⟩,
      List.forall_mem_cons.mpr ⟨List.forall_mem_cons.mpr ⟨fun _ => va_Nc.of (hs _ (pw (i := 254) (by decide +kernel))),
      List.forall_mem_cons.mpr ⟨fun _ => va_Nc.of (hs _ (pw (i := 237) (by decide +kernel))),
      List.forall_mem_cons.mpr ⟨fun _ => va_Nc.of (hs _ (pw (i := 271) (by decide +kernel))),
      List.forall_mem_cons.mpr ⟨fun h => absurd rfl h,
      fun _ h => absurd h List.not_mem_nil⟩⟩⟩⟩,
      fun _ h => absurd h List.not_mem_nil⟩⟩⟩⟩
  · show (f 101).1 = b
    rw [f1]
