/-! what the entry gives: classes, arrays, strings, statics -/
theorem tl1 {w : Cond} {i : Nat} (h : tables_1_1[i]? = some w) : w ∈ lw_tbl := List.mem_append_right _ (List.mem_append_left _ (List.mem_of_getElem? h))
theorem tl2 {w : Cond} {i : Nat} (h : tables_1_2[i]? = some w) : w ∈ lw_tbl := List.mem_append_right _ (List.mem_append_right _ (List.mem_append_left _ (List.mem_of_getElem? h)))
theorem tl3 {w : Cond} {i : Nat} (h : tables_1_3[i]? = some w) : w ∈ lw_tbl := List.mem_append_right _ (List.mem_append_right _ (List.mem_append_right _ (List.mem_append_left _ (List.mem_of_getElem? h))))
theorem tl4 {w : Cond} {i : Nat} (h : tables_1_4[i]? = some w) : w ∈ lw_tbl := List.mem_append_right _ (List.mem_append_right _ (List.mem_append_right _ (List.mem_append_right _ (List.mem_append_left _ (List.mem_of_getElem? h)))))
theorem tl5 {w : Cond} {i : Nat} (h : tables_1_5[i]? = some w) : w ∈ lw_tbl := List.mem_append_right _ (List.mem_append_right _ (List.mem_append_right _ (List.mem_append_right _ (List.mem_append_right _ (List.mem_append_left _ (List.mem_of_getElem? h))))))
theorem tl6 {w : Cond} {i : Nat} (h : tables_1_6[i]? = some w) : w ∈ lw_tbl := List.mem_append_right _ (List.mem_append_right _ (List.mem_append_right _ (List.mem_append_right _ (List.mem_append_right _ (List.mem_append_right _ (List.mem_append_left _ (List.mem_of_getElem? h)))))))
theorem tl7 {w : Cond} {i : Nat} (h : tables_1_7[i]? = some w) : w ∈ lw_tbl := List.mem_append_right _ (List.mem_append_right _ (List.mem_append_right _ (List.mem_append_right _ (List.mem_append_right _ (List.mem_append_right _ (List.mem_append_right _ (List.mem_append_left _ (List.mem_of_getElem? h))))))))
theorem tl8 {w : Cond} {i : Nat} (h : tables_1_8[i]? = some w) : w ∈ lw_tbl := List.mem_append_right _ (List.mem_append_right _ (List.mem_append_right _ (List.mem_append_right _ (List.mem_append_right _ (List.mem_append_right _ (List.mem_append_right _ (List.mem_append_right _ (List.mem_append_left _ (List.mem_of_getElem? h)))))))))
theorem tl9 {w : Cond} {i : Nat} (h : tables_1_9[i]? = some w) : w ∈ lw_tbl := List.mem_append_right _ (List.mem_append_right _ (List.mem_append_right _ (List.mem_append_right _ (List.mem_append_right _ (List.mem_append_right _ (List.mem_append_right _ (List.mem_append_right _ (List.mem_append_right _ (List.mem_of_getElem? h)))))))))
abbrev prC : List Cond := flatC (Jvm.Cond.and given_1 narrow_1)
theorem pw {i : Nat} {w : Cond} (h : prC[i]? = some w) : w ∈ prC := List.mem_of_getElem? h
theorem ws_one {args : Array Value} {s : State} {t : Term} {byt : List Int32} {A : Nat → Prop} (hA : ∀ a : Nat, a < s.heap.size → ¬ A a) (hN : byt.length < 2 ^ 31) (hex : (Cond.exactly t "java/lang/String").before args s = true) (hco : (Cond.eq (.field t "java/lang/String" "coder" "B") (.int 0)).before args s = true)
    (har : (Cond.arrayOf (.field t "java/lang/String" "value" "[B") .byte).before args s = true) (hle : (Cond.eq (.length (.field t "java/lang/String" "value" "[B")) (.int (Int32.ofNat byt.length))).before args s = true)
    (hel : ∀ j : Nat, j < byt.length → (Cond.eq (.elem (.field t "java/lang/String" "value" "[B") (.int (Int32.ofNat j))) (.int (byt.getD j 0))).before args s = true) :
    ∃ q : Nat × Nat, t.eval args s none [] s = some (.ref q.1) ∧ va_O "java/lang/String" q.1 A s s.heap ∧ va_OF "java/lang/String" "coder" "B" (.int 0) q.1 A s s.heap ∧ va_OF "java/lang/String" "value" "[B" (.ref q.2) q.1 A s s.heap ∧ va_T .byte q.2 byt.length (fun j => .int (byt.getD j 0)) A s s.heap := by
  obtain ⟨a, c, cA, kA, q1, q2, q3, q4, q5, q6, -⟩ := Cond.exactly_spec (args := args) (first := s) (o := none) (s := s) (idx := []) (t := t) (cls := "java/lang/String") hex
  obtain ⟨v, ht, hT⟩ := va_Tof (f := fun j => .int (byt.getD j 0)) (A := A) hN har (va_eqt hle) (fun j hj => va_eqt (hel j hj)) hA
  exact ⟨(a, v), q1, ⟨cA, q3, q5, by rw [q6]; exact q2, hA a (Array.getElem?_eq_some_iff.mp q3).1⟩, vk_OFof q1 (va_eqt hco) hA, vk_OFof q1 ht hA, hT⟩
theorem ws_ref {args : Array Value} {s : State} {t : Term} (hex : (Cond.exactly t "java/lang/String").before args s = true) : ∃ q : Nat × Nat, t.eval args s none [] s = some (.ref q.1) := by
  obtain ⟨a, c, cA, kA, q1, -⟩ := Cond.exactly_spec (args := args) (first := s) (o := none) (s := s) (idx := []) (t := t) (cls := "java/lang/String") hex
  exact ⟨(a, 0), q1⟩
abbrev tmST : Nat → Term := fun j => match j with
  | 0 => .string "HutLedger" 70
  | 1 => .string "HutLedger$Grammar" 55
  | 2 => .string "HutLedger$Grammar" 79
  | 3 => .string "HutLedger$Grammar" 95
  | 4 => .string "HutLedger$Grammar" 103
  | 5 => .string "HutLedger$Grammar" 120
  | 6 => .string "HutLedger$Grammar" 161
  | 7 => .string "HutLedger$Grammar" 163
  | 8 => .string "HutLedger$Grammar" 165
  | 9 => .string "HutLedger$Grammar" 167
  | 10 => .string "HutLedger$Grammar" 169
  | 11 => .string "HutLedger$Grammar" 171
  | 12 => .string "HutLedger$Grammar" 173
  | 13 => .string "HutLedger$Grammar" 175
  | 14 => .string "HutLedger$Grammar" 177
  | 15 => .string "HutLedger" 347
  | 16 => .string "HutLedger" 337
  | 17 => .string "HutLedger" 241
  | 18 => .string "HutLedger" 204
  | 19 => .string "HutLedger" 193
  | 20 => .string "HutLedger" 199
  | 21 => .string "HutLedger" 345
  | 22 => .string "HutLedger" 106
  | 23 => .string "HutLedger" 214
  | 24 => .string "HutLedger" 386
  | 25 => .string "HutLedger" 388
  | 26 => .string "HutLedger" 378
  | 27 => .string "HutLedger" 349
  | _ => .string "HutLedger" 92
theorem el_of {α : Type} {l : List α} {d n : Nat} {f : Nat → α} (h : (l.drop d).take n = (List.range n).map f) {q : Nat} (hq : q < n) : f q ∈ l := by
  have h1 : f q ∈ (l.drop d).take n := by
    rw [h]
    exact List.mem_map.mpr ⟨q, List.mem_range.mpr hq, rfl⟩
  exact List.mem_of_mem_drop (List.mem_of_mem_take h1)
theorem el_0 : (prC.drop 97).take 114 = (List.range 114).map (fun j => Cond.eq (.elem (.field (tmST 0) "java/lang/String" "value" "[B") (.int (Int32.ofNat j))) (.int ((bytST 0).getD j 0))) := by decide +kernel
theorem ws_0 {s : State} {b : Nat} (hs : ∀ w ∈ prC, w.before #[Value.ref b] s = true) {A : Nat → Prop} (hA : ∀ a : Nat, a < s.heap.size → ¬ A a) : ∃ q : Nat × Nat, (tmST 0).eval #[Value.ref b] s none [] s = some (.ref q.1) ∧ va_O "java/lang/String" q.1 A s s.heap ∧ va_OF "java/lang/String" "coder" "B" (.int 0) q.1 A s s.heap ∧ va_OF "java/lang/String" "value" "[B" (.ref q.2) q.1 A s s.heap ∧ va_T .byte q.2 (bytST 0).length (fun j => .int ((bytST 0).getD j 0)) A s s.heap :=
  ws_one hA (by decide) (hs _ (pw (i := 93) (by decide +kernel))) (hs _ (pw (i := 94) (by decide +kernel))) (hs _ (pw (i := 95) (by decide +kernel))) (hs _ (pw (i := 96) (by decide +kernel))) (fun q hq => hs _ (el_of el_0 hq))
theorem el_1 : (prC.drop 215).take 3 = (List.range 3).map (fun j => Cond.eq (.elem (.field (tmST 1) "java/lang/String" "value" "[B") (.int (Int32.ofNat j))) (.int ((bytST 1).getD j 0))) := by decide +kernel
theorem ws_1 {s : State} {b : Nat} (hs : ∀ w ∈ prC, w.before #[Value.ref b] s = true) {A : Nat → Prop} (hA : ∀ a : Nat, a < s.heap.size → ¬ A a) : ∃ q : Nat × Nat, (tmST 1).eval #[Value.ref b] s none [] s = some (.ref q.1) ∧ va_O "java/lang/String" q.1 A s s.heap ∧ va_OF "java/lang/String" "coder" "B" (.int 0) q.1 A s s.heap ∧ va_OF "java/lang/String" "value" "[B" (.ref q.2) q.1 A s s.heap ∧ va_T .byte q.2 (bytST 1).length (fun j => .int ((bytST 1).getD j 0)) A s s.heap :=
  ws_one hA (by decide) (hs _ (pw (i := 211) (by decide +kernel))) (hs _ (pw (i := 212) (by decide +kernel))) (hs _ (pw (i := 213) (by decide +kernel))) (hs _ (pw (i := 214) (by decide +kernel))) (fun q hq => hs _ (el_of el_1 hq))
theorem el_2 : (prC.drop 222).take 5 = (List.range 5).map (fun j => Cond.eq (.elem (.field (tmST 2) "java/lang/String" "value" "[B") (.int (Int32.ofNat j))) (.int ((bytST 2).getD j 0))) := by decide +kernel
theorem ws_2 {s : State} {b : Nat} (hs : ∀ w ∈ prC, w.before #[Value.ref b] s = true) {A : Nat → Prop} (hA : ∀ a : Nat, a < s.heap.size → ¬ A a) : ∃ q : Nat × Nat, (tmST 2).eval #[Value.ref b] s none [] s = some (.ref q.1) ∧ va_O "java/lang/String" q.1 A s s.heap ∧ va_OF "java/lang/String" "coder" "B" (.int 0) q.1 A s s.heap ∧ va_OF "java/lang/String" "value" "[B" (.ref q.2) q.1 A s s.heap ∧ va_T .byte q.2 (bytST 2).length (fun j => .int ((bytST 2).getD j 0)) A s s.heap :=
  ws_one hA (by decide) (hs _ (pw (i := 218) (by decide +kernel))) (hs _ (pw (i := 219) (by decide +kernel))) (hs _ (pw (i := 220) (by decide +kernel))) (hs _ (pw (i := 221) (by decide +kernel))) (fun q hq => hs _ (el_of el_2 hq))
theorem el_3 : (prC.drop 231).take 8 = (List.range 8).map (fun j => Cond.eq (.elem (.field (tmST 3) "java/lang/String" "value" "[B") (.int (Int32.ofNat j))) (.int ((bytST 3).getD j 0))) := by decide +kernel
theorem ws_3 {s : State} {b : Nat} (hs : ∀ w ∈ prC, w.before #[Value.ref b] s = true) {A : Nat → Prop} (hA : ∀ a : Nat, a < s.heap.size → ¬ A a) : ∃ q : Nat × Nat, (tmST 3).eval #[Value.ref b] s none [] s = some (.ref q.1) ∧ va_O "java/lang/String" q.1 A s s.heap ∧ va_OF "java/lang/String" "coder" "B" (.int 0) q.1 A s s.heap ∧ va_OF "java/lang/String" "value" "[B" (.ref q.2) q.1 A s s.heap ∧ va_T .byte q.2 (bytST 3).length (fun j => .int ((bytST 3).getD j 0)) A s s.heap :=
  ws_one hA (by decide) (hs _ (pw (i := 227) (by decide +kernel))) (hs _ (pw (i := 228) (by decide +kernel))) (hs _ (pw (i := 229) (by decide +kernel))) (hs _ (pw (i := 230) (by decide +kernel))) (fun q hq => hs _ (el_of el_3 hq))
theorem el_4 : (prC.drop 243).take 8 = (List.range 8).map (fun j => Cond.eq (.elem (.field (tmST 4) "java/lang/String" "value" "[B") (.int (Int32.ofNat j))) (.int ((bytST 4).getD j 0))) := by decide +kernel
theorem ws_4 {s : State} {b : Nat} (hs : ∀ w ∈ prC, w.before #[Value.ref b] s = true) {A : Nat → Prop} (hA : ∀ a : Nat, a < s.heap.size → ¬ A a) : ∃ q : Nat × Nat, (tmST 4).eval #[Value.ref b] s none [] s = some (.ref q.1) ∧ va_O "java/lang/String" q.1 A s s.heap ∧ va_OF "java/lang/String" "coder" "B" (.int 0) q.1 A s s.heap ∧ va_OF "java/lang/String" "value" "[B" (.ref q.2) q.1 A s s.heap ∧ va_T .byte q.2 (bytST 4).length (fun j => .int ((bytST 4).getD j 0)) A s s.heap :=
  ws_one hA (by decide) (hs _ (pw (i := 239) (by decide +kernel))) (hs _ (pw (i := 240) (by decide +kernel))) (hs _ (pw (i := 241) (by decide +kernel))) (hs _ (pw (i := 242) (by decide +kernel))) (fun q hq => hs _ (el_of el_4 hq))
theorem el_5 : (prC.drop 255).take 5 = (List.range 5).map (fun j => Cond.eq (.elem (.field (tmST 5) "java/lang/String" "value" "[B") (.int (Int32.ofNat j))) (.int ((bytST 5).getD j 0))) := by decide +kernel
theorem ws_5 {s : State} {b : Nat} (hs : ∀ w ∈ prC, w.before #[Value.ref b] s = true) {A : Nat → Prop} (hA : ∀ a : Nat, a < s.heap.size → ¬ A a) : ∃ q : Nat × Nat, (tmST 5).eval #[Value.ref b] s none [] s = some (.ref q.1) ∧ va_O "java/lang/String" q.1 A s s.heap ∧ va_OF "java/lang/String" "coder" "B" (.int 0) q.1 A s s.heap ∧ va_OF "java/lang/String" "value" "[B" (.ref q.2) q.1 A s s.heap ∧ va_T .byte q.2 (bytST 5).length (fun j => .int ((bytST 5).getD j 0)) A s s.heap :=
  ws_one hA (by decide) (hs _ (pw (i := 251) (by decide +kernel))) (hs _ (pw (i := 252) (by decide +kernel))) (hs _ (pw (i := 253) (by decide +kernel))) (hs _ (pw (i := 254) (by decide +kernel))) (fun q hq => hs _ (el_of el_5 hq))
theorem el_6 : (prC.drop 264).take 4 = (List.range 4).map (fun j => Cond.eq (.elem (.field (tmST 6) "java/lang/String" "value" "[B") (.int (Int32.ofNat j))) (.int ((bytST 6).getD j 0))) := by decide +kernel
theorem ws_6 {s : State} {b : Nat} (hs : ∀ w ∈ prC, w.before #[Value.ref b] s = true) {A : Nat → Prop} (hA : ∀ a : Nat, a < s.heap.size → ¬ A a) : ∃ q : Nat × Nat, (tmST 6).eval #[Value.ref b] s none [] s = some (.ref q.1) ∧ va_O "java/lang/String" q.1 A s s.heap ∧ va_OF "java/lang/String" "coder" "B" (.int 0) q.1 A s s.heap ∧ va_OF "java/lang/String" "value" "[B" (.ref q.2) q.1 A s s.heap ∧ va_T .byte q.2 (bytST 6).length (fun j => .int ((bytST 6).getD j 0)) A s s.heap :=
  ws_one hA (by decide) (hs _ (pw (i := 260) (by decide +kernel))) (hs _ (pw (i := 261) (by decide +kernel))) (hs _ (pw (i := 262) (by decide +kernel))) (hs _ (pw (i := 263) (by decide +kernel))) (fun q hq => hs _ (el_of el_6 hq))
theorem el_7 : (prC.drop 272).take 6 = (List.range 6).map (fun j => Cond.eq (.elem (.field (tmST 7) "java/lang/String" "value" "[B") (.int (Int32.ofNat j))) (.int ((bytST 7).getD j 0))) := by decide +kernel
theorem ws_7 {s : State} {b : Nat} (hs : ∀ w ∈ prC, w.before #[Value.ref b] s = true) {A : Nat → Prop} (hA : ∀ a : Nat, a < s.heap.size → ¬ A a) : ∃ q : Nat × Nat, (tmST 7).eval #[Value.ref b] s none [] s = some (.ref q.1) ∧ va_O "java/lang/String" q.1 A s s.heap ∧ va_OF "java/lang/String" "coder" "B" (.int 0) q.1 A s s.heap ∧ va_OF "java/lang/String" "value" "[B" (.ref q.2) q.1 A s s.heap ∧ va_T .byte q.2 (bytST 7).length (fun j => .int ((bytST 7).getD j 0)) A s s.heap :=
  ws_one hA (by decide) (hs _ (pw (i := 268) (by decide +kernel))) (hs _ (pw (i := 269) (by decide +kernel))) (hs _ (pw (i := 270) (by decide +kernel))) (hs _ (pw (i := 271) (by decide +kernel))) (fun q hq => hs _ (el_of el_7 hq))
theorem el_8 : (prC.drop 282).take 4 = (List.range 4).map (fun j => Cond.eq (.elem (.field (tmST 8) "java/lang/String" "value" "[B") (.int (Int32.ofNat j))) (.int ((bytST 8).getD j 0))) := by decide +kernel
theorem ws_8 {s : State} {b : Nat} (hs : ∀ w ∈ prC, w.before #[Value.ref b] s = true) {A : Nat → Prop} (hA : ∀ a : Nat, a < s.heap.size → ¬ A a) : ∃ q : Nat × Nat, (tmST 8).eval #[Value.ref b] s none [] s = some (.ref q.1) ∧ va_O "java/lang/String" q.1 A s s.heap ∧ va_OF "java/lang/String" "coder" "B" (.int 0) q.1 A s s.heap ∧ va_OF "java/lang/String" "value" "[B" (.ref q.2) q.1 A s s.heap ∧ va_T .byte q.2 (bytST 8).length (fun j => .int ((bytST 8).getD j 0)) A s s.heap :=
  ws_one hA (by decide) (hs _ (pw (i := 278) (by decide +kernel))) (hs _ (pw (i := 279) (by decide +kernel))) (hs _ (pw (i := 280) (by decide +kernel))) (hs _ (pw (i := 281) (by decide +kernel))) (fun q hq => hs _ (el_of el_8 hq))
theorem el_9 : (prC.drop 290).take 3 = (List.range 3).map (fun j => Cond.eq (.elem (.field (tmST 9) "java/lang/String" "value" "[B") (.int (Int32.ofNat j))) (.int ((bytST 9).getD j 0))) := by decide +kernel
theorem ws_9 {s : State} {b : Nat} (hs : ∀ w ∈ prC, w.before #[Value.ref b] s = true) {A : Nat → Prop} (hA : ∀ a : Nat, a < s.heap.size → ¬ A a) : ∃ q : Nat × Nat, (tmST 9).eval #[Value.ref b] s none [] s = some (.ref q.1) ∧ va_O "java/lang/String" q.1 A s s.heap ∧ va_OF "java/lang/String" "coder" "B" (.int 0) q.1 A s s.heap ∧ va_OF "java/lang/String" "value" "[B" (.ref q.2) q.1 A s s.heap ∧ va_T .byte q.2 (bytST 9).length (fun j => .int ((bytST 9).getD j 0)) A s s.heap :=
  ws_one hA (by decide) (hs _ (pw (i := 286) (by decide +kernel))) (hs _ (pw (i := 287) (by decide +kernel))) (hs _ (pw (i := 288) (by decide +kernel))) (hs _ (pw (i := 289) (by decide +kernel))) (fun q hq => hs _ (el_of el_9 hq))
theorem el_10 : (prC.drop 297).take 4 = (List.range 4).map (fun j => Cond.eq (.elem (.field (tmST 10) "java/lang/String" "value" "[B") (.int (Int32.ofNat j))) (.int ((bytST 10).getD j 0))) := by decide +kernel
theorem ws_10 {s : State} {b : Nat} (hs : ∀ w ∈ prC, w.before #[Value.ref b] s = true) {A : Nat → Prop} (hA : ∀ a : Nat, a < s.heap.size → ¬ A a) : ∃ q : Nat × Nat, (tmST 10).eval #[Value.ref b] s none [] s = some (.ref q.1) ∧ va_O "java/lang/String" q.1 A s s.heap ∧ va_OF "java/lang/String" "coder" "B" (.int 0) q.1 A s s.heap ∧ va_OF "java/lang/String" "value" "[B" (.ref q.2) q.1 A s s.heap ∧ va_T .byte q.2 (bytST 10).length (fun j => .int ((bytST 10).getD j 0)) A s s.heap :=
  ws_one hA (by decide) (hs _ (pw (i := 293) (by decide +kernel))) (hs _ (pw (i := 294) (by decide +kernel))) (hs _ (pw (i := 295) (by decide +kernel))) (hs _ (pw (i := 296) (by decide +kernel))) (fun q hq => hs _ (el_of el_10 hq))
theorem el_11 : (prC.drop 305).take 4 = (List.range 4).map (fun j => Cond.eq (.elem (.field (tmST 11) "java/lang/String" "value" "[B") (.int (Int32.ofNat j))) (.int ((bytST 11).getD j 0))) := by decide +kernel
theorem ws_11 {s : State} {b : Nat} (hs : ∀ w ∈ prC, w.before #[Value.ref b] s = true) {A : Nat → Prop} (hA : ∀ a : Nat, a < s.heap.size → ¬ A a) : ∃ q : Nat × Nat, (tmST 11).eval #[Value.ref b] s none [] s = some (.ref q.1) ∧ va_O "java/lang/String" q.1 A s s.heap ∧ va_OF "java/lang/String" "coder" "B" (.int 0) q.1 A s s.heap ∧ va_OF "java/lang/String" "value" "[B" (.ref q.2) q.1 A s s.heap ∧ va_T .byte q.2 (bytST 11).length (fun j => .int ((bytST 11).getD j 0)) A s s.heap :=
  ws_one hA (by decide) (hs _ (pw (i := 301) (by decide +kernel))) (hs _ (pw (i := 302) (by decide +kernel))) (hs _ (pw (i := 303) (by decide +kernel))) (hs _ (pw (i := 304) (by decide +kernel))) (fun q hq => hs _ (el_of el_11 hq))
theorem el_12 : (prC.drop 313).take 5 = (List.range 5).map (fun j => Cond.eq (.elem (.field (tmST 12) "java/lang/String" "value" "[B") (.int (Int32.ofNat j))) (.int ((bytST 12).getD j 0))) := by decide +kernel
theorem ws_12 {s : State} {b : Nat} (hs : ∀ w ∈ prC, w.before #[Value.ref b] s = true) {A : Nat → Prop} (hA : ∀ a : Nat, a < s.heap.size → ¬ A a) : ∃ q : Nat × Nat, (tmST 12).eval #[Value.ref b] s none [] s = some (.ref q.1) ∧ va_O "java/lang/String" q.1 A s s.heap ∧ va_OF "java/lang/String" "coder" "B" (.int 0) q.1 A s s.heap ∧ va_OF "java/lang/String" "value" "[B" (.ref q.2) q.1 A s s.heap ∧ va_T .byte q.2 (bytST 12).length (fun j => .int ((bytST 12).getD j 0)) A s s.heap :=
  ws_one hA (by decide) (hs _ (pw (i := 309) (by decide +kernel))) (hs _ (pw (i := 310) (by decide +kernel))) (hs _ (pw (i := 311) (by decide +kernel))) (hs _ (pw (i := 312) (by decide +kernel))) (fun q hq => hs _ (el_of el_12 hq))
theorem el_13 : (prC.drop 322).take 3 = (List.range 3).map (fun j => Cond.eq (.elem (.field (tmST 13) "java/lang/String" "value" "[B") (.int (Int32.ofNat j))) (.int ((bytST 13).getD j 0))) := by decide +kernel
theorem ws_13 {s : State} {b : Nat} (hs : ∀ w ∈ prC, w.before #[Value.ref b] s = true) {A : Nat → Prop} (hA : ∀ a : Nat, a < s.heap.size → ¬ A a) : ∃ q : Nat × Nat, (tmST 13).eval #[Value.ref b] s none [] s = some (.ref q.1) ∧ va_O "java/lang/String" q.1 A s s.heap ∧ va_OF "java/lang/String" "coder" "B" (.int 0) q.1 A s s.heap ∧ va_OF "java/lang/String" "value" "[B" (.ref q.2) q.1 A s s.heap ∧ va_T .byte q.2 (bytST 13).length (fun j => .int ((bytST 13).getD j 0)) A s s.heap :=
  ws_one hA (by decide) (hs _ (pw (i := 318) (by decide +kernel))) (hs _ (pw (i := 319) (by decide +kernel))) (hs _ (pw (i := 320) (by decide +kernel))) (hs _ (pw (i := 321) (by decide +kernel))) (fun q hq => hs _ (el_of el_13 hq))
theorem el_14 : (prC.drop 329).take 4 = (List.range 4).map (fun j => Cond.eq (.elem (.field (tmST 14) "java/lang/String" "value" "[B") (.int (Int32.ofNat j))) (.int ((bytST 14).getD j 0))) := by decide +kernel
theorem ws_14 {s : State} {b : Nat} (hs : ∀ w ∈ prC, w.before #[Value.ref b] s = true) {A : Nat → Prop} (hA : ∀ a : Nat, a < s.heap.size → ¬ A a) : ∃ q : Nat × Nat, (tmST 14).eval #[Value.ref b] s none [] s = some (.ref q.1) ∧ va_O "java/lang/String" q.1 A s s.heap ∧ va_OF "java/lang/String" "coder" "B" (.int 0) q.1 A s s.heap ∧ va_OF "java/lang/String" "value" "[B" (.ref q.2) q.1 A s s.heap ∧ va_T .byte q.2 (bytST 14).length (fun j => .int ((bytST 14).getD j 0)) A s s.heap :=
  ws_one hA (by decide) (hs _ (pw (i := 325) (by decide +kernel))) (hs _ (pw (i := 326) (by decide +kernel))) (hs _ (pw (i := 327) (by decide +kernel))) (hs _ (pw (i := 328) (by decide +kernel))) (fun q hq => hs _ (el_of el_14 hq))
theorem ws_all {s : State} {b : Nat} (hs : ∀ w ∈ prC, w.before #[Value.ref b] s = true) {A : Nat → Prop} (hA : ∀ a : Nat, a < s.heap.size → ¬ A a) : ∃ f : Nat → Nat × Nat, (∀ i : Nat, i < nST → va_O "java/lang/String" (f i).1 A s s.heap ∧ va_OF "java/lang/String" "coder" "B" (.int 0) (f i).1 A s s.heap ∧ va_OF "java/lang/String" "value" "[B" (.ref (f i).2) (f i).1 A s s.heap ∧ va_T .byte (f i).2 (bytST i).length (fun j => .int ((bytST i).getD j 0)) A s s.heap) ∧ ∀ i : Nat, i < 29 → (tmST i).eval #[Value.ref b] s none [] s = some (.ref (f i).1) := by
  have h0 : ∀ i : Nat, ∃ q : Nat × Nat, (i < nST → va_O "java/lang/String" q.1 A s s.heap ∧ va_OF "java/lang/String" "coder" "B" (.int 0) q.1 A s s.heap ∧ va_OF "java/lang/String" "value" "[B" (.ref q.2) q.1 A s s.heap ∧ va_T .byte q.2 (bytST i).length (fun j => .int ((bytST i).getD j 0)) A s s.heap) ∧ (i < 29 → (tmST i).eval #[Value.ref b] s none [] s = some (.ref q.1)) := by
    intro i
    match i with
    | 0 => exact (ws_0 hs hA).imp fun q h => ⟨fun _ => h.2, fun _ => h.1⟩
    | 1 => exact (ws_1 hs hA).imp fun q h => ⟨fun _ => h.2, fun _ => h.1⟩
    | 2 => exact (ws_2 hs hA).imp fun q h => ⟨fun _ => h.2, fun _ => h.1⟩
    | 3 => exact (ws_3 hs hA).imp fun q h => ⟨fun _ => h.2, fun _ => h.1⟩
    | 4 => exact (ws_4 hs hA).imp fun q h => ⟨fun _ => h.2, fun _ => h.1⟩
    | 5 => exact (ws_5 hs hA).imp fun q h => ⟨fun _ => h.2, fun _ => h.1⟩
    | 6 => exact (ws_6 hs hA).imp fun q h => ⟨fun _ => h.2, fun _ => h.1⟩
    | 7 => exact (ws_7 hs hA).imp fun q h => ⟨fun _ => h.2, fun _ => h.1⟩
    | 8 => exact (ws_8 hs hA).imp fun q h => ⟨fun _ => h.2, fun _ => h.1⟩
    | 9 => exact (ws_9 hs hA).imp fun q h => ⟨fun _ => h.2, fun _ => h.1⟩
    | 10 => exact (ws_10 hs hA).imp fun q h => ⟨fun _ => h.2, fun _ => h.1⟩
    | 11 => exact (ws_11 hs hA).imp fun q h => ⟨fun _ => h.2, fun _ => h.1⟩
    | 12 => exact (ws_12 hs hA).imp fun q h => ⟨fun _ => h.2, fun _ => h.1⟩
    | 13 => exact (ws_13 hs hA).imp fun q h => ⟨fun _ => h.2, fun _ => h.1⟩
    | 14 => exact (ws_14 hs hA).imp fun q h => ⟨fun _ => h.2, fun _ => h.1⟩
    | 15 => exact (ws_ref (hs _ (pw (i := 537) (by decide +kernel)))).imp fun q h => ⟨fun hi => absurd hi (by decide), fun _ => h⟩
    | 16 => exact (ws_ref (hs _ (pw (i := 481) (by decide +kernel)))).imp fun q h => ⟨fun hi => absurd hi (by decide), fun _ => h⟩
    | 17 => exact (ws_ref (hs _ (pw (i := 461) (by decide +kernel)))).imp fun q h => ⟨fun hi => absurd hi (by decide), fun _ => h⟩
    | 18 => exact (ws_ref (hs _ (pw (i := 426) (by decide +kernel)))).imp fun q h => ⟨fun hi => absurd hi (by decide), fun _ => h⟩
    | 19 => exact (ws_ref (hs _ (pw (i := 393) (by decide +kernel)))).imp fun q h => ⟨fun hi => absurd hi (by decide), fun _ => h⟩
    | 20 => exact (ws_ref (hs _ (pw (i := 409) (by decide +kernel)))).imp fun q h => ⟨fun hi => absurd hi (by decide), fun _ => h⟩
    | 21 => exact (ws_ref (hs _ (pw (i := 503) (by decide +kernel)))).imp fun q h => ⟨fun hi => absurd hi (by decide), fun _ => h⟩
    | 22 => exact (ws_ref (hs _ (pw (i := 375) (by decide +kernel)))).imp fun q h => ⟨fun hi => absurd hi (by decide), fun _ => h⟩
    | 23 => exact (ws_ref (hs _ (pw (i := 445) (by decide +kernel)))).imp fun q h => ⟨fun hi => absurd hi (by decide), fun _ => h⟩
    | 24 => exact (ws_ref (hs _ (pw (i := 643) (by decide +kernel)))).imp fun q h => ⟨fun hi => absurd hi (by decide), fun _ => h⟩
    | 25 => exact (ws_ref (hs _ (pw (i := 616) (by decide +kernel)))).imp fun q h => ⟨fun hi => absurd hi (by decide), fun _ => h⟩
    | 26 => exact (ws_ref (hs _ (pw (i := 597) (by decide +kernel)))).imp fun q h => ⟨fun hi => absurd hi (by decide), fun _ => h⟩
    | 27 => exact (ws_ref (hs _ (pw (i := 562) (by decide +kernel)))).imp fun q h => ⟨fun hi => absurd hi (by decide), fun _ => h⟩
    | 28 => exact (ws_ref (hs _ (pw (i := 333) (by decide +kernel)))).imp fun q h => ⟨fun hi => absurd hi (by decide), fun _ => h⟩
    | i + 29 => exact ⟨(0, 0), fun hi => absurd (show i + 29 < 15 from hi) (by omega), fun hi => absurd hi (by omega)⟩
  obtain ⟨f, hf⟩ := Classical.axiomOfChoice h0
  exact ⟨f, fun i hi => (hf i).1 hi, fun i hi => (hf i).2 hi⟩
theorem ws_cls {s : State} {b : Nat} (hts : ∀ w ∈ lw_tbl, w.before #[Value.ref b] s = true) : ∃ f : Nat → ClassId × (Nat → Nat), ∀ (c : Nat) (q : vw_C), vwCl[c]? = some q → u_Kn s q.1 q.2.1 q.2.2 (f c).1 (f c).2 := by
  have h1 : ∀ w ∈ TBL, w.before #[Value.ref b] s = true := fun w hw => hts w (List.mem_filter.mp hw).1
  have h0 : ∀ c : Nat, ∃ f : ClassId × (Nat → Nat), ∀ q : vw_C, vwCl[c]? = some q → u_Kn s q.1 q.2.1 q.2.2 f.1 f.2 := by
    intro c
    match c with
    | 0 =>
      obtain ⟨cC, iS, h⟩ := u_known h1 in_X0 (h1 _ n_X0.1)
      exact ⟨(cC, iS), fun q hq => by cases hq; exact h⟩
    | 1 =>
      obtain ⟨cC, iS, h⟩ := u_known h1 in_X1 (h1 _ n_X1.1)
      exact ⟨(cC, iS), fun q hq => by cases hq; exact h⟩
    | 2 =>
      obtain ⟨cC, iS, h⟩ := u_known h1 in_X2 (h1 _ n_X2.1)
      exact ⟨(cC, iS), fun q hq => by cases hq; exact h⟩
    | 3 =>
      obtain ⟨cC, iS, h⟩ := u_known h1 in_X3 (h1 _ n_X3.1)
      exact ⟨(cC, iS), fun q hq => by cases hq; exact h⟩
    | 4 =>
      obtain ⟨cC, iS, h⟩ := u_known h1 in_X4 (h1 _ n_X4.1)
      exact ⟨(cC, iS), fun q hq => by cases hq; exact h⟩
    | 5 =>
      obtain ⟨cC, iS, h⟩ := u_known h1 in_X5 (h1 _ n_X5.1)
      exact ⟨(cC, iS), fun q hq => by cases hq; exact h⟩
    | 6 =>
      obtain ⟨cC, iS, h⟩ := u_known h1 in_X6 (h1 _ n_X6.1)
      exact ⟨(cC, iS), fun q hq => by cases hq; exact h⟩
    | 7 =>
      obtain ⟨cC, iS, h⟩ := u_known h1 in_X7 (h1 _ n_X7.1)
      exact ⟨(cC, iS), fun q hq => by cases hq; exact h⟩
    | 8 =>
      obtain ⟨cC, iS, h⟩ := u_known h1 in_X8 (h1 _ n_X8.1)
      exact ⟨(cC, iS), fun q hq => by cases hq; exact h⟩
    | 9 =>
      obtain ⟨cC, iS, h⟩ := u_known h1 in_X9 (h1 _ n_X9.1)
      exact ⟨(cC, iS), fun q hq => by cases hq; exact h⟩
    | c + 10 =>
      obtain ⟨cC, iS, h⟩ := u_known h1 in_X0 (h1 _ n_X0.1)
      exact ⟨(cC, iS), fun q hq => by cases hq⟩
  exact Classical.axiomOfChoice h0
theorem ws_arr1 {s : State} {args : Array Value} {ty : FieldType} (h : (Cond.arrayClass ty).before args s = true) : ∃ cA : ClassId, ArrOfT s cA ty ∧ s.vm.findClass ("[" ++ ty.toString) = some cA := by
  obtain ⟨c, k, comp, h1, h2, h3⟩ := Cond.arrayClass_spec h
  exact ⟨c, fun n z => ⟨fun k h => (by cases h), k, h2, comp, h3⟩, h1⟩
theorem ws_arr2 {s : State} {args : Array Value} {C : String} (h : (Cond.arrayOver (.object C)).before args s = true) : ∃ cA : ClassId, ArrOfT s cA (.object C) ∧ va_RA s cA (.object C) := by
  obtain ⟨comp, c, k, h1, h2, h3, h4, h5⟩ := Cond.arrayOver_spec h
  exact ⟨c, fun n z => ⟨fun k h => (by cases h), k, h3, comp, h4⟩, k, comp, h3, h4, h1, h5⟩
theorem ws_arr {s : State} {b : Nat} (hts : ∀ w ∈ lw_tbl, w.before #[Value.ref b] s = true) : ∃ f : Nat → ClassId, ∀ k : Nat, k < 6 → ArrOfT s (f k) (kT k) ∧ va_RA s (f k) (kT k) := by
  have h1 : ∀ w ∈ TBL, w.before #[Value.ref b] s = true := fun w hw => hts w (List.mem_filter.mp hw).1
  have h0 : ∀ k : Nat, ∃ cA : ClassId, k < 6 → ArrOfT s cA (kT k) ∧ va_RA s cA (kT k) := by
    intro k
    match k with
    | 0 => exact (ws_arr1 (h1 _ a_int)).imp fun c h _ => h
    | 1 => exact (ws_arr1 (h1 _ a_byte)).imp fun c h _ => h
    | 2 => exact (ws_arr1 (h1 _ a_boolean)).imp fun c h _ => h
    | 3 => exact (ws_arr1 (h1 _ a_long)).imp fun c h _ => h
    | 4 => exact (ws_arr2 (hts _ (tl1 (i := 39) rfl))).imp fun c h _ => h
    | 5 => exact (ws_arr2 (hts _ (tl1 (i := 199) rfl))).imp fun c h _ => h
    | k + 6 => exact (ws_arr1 (h1 _ a_int)).imp fun c h hk => absurd hk (by omega)
  exact Classical.axiomOfChoice h0
theorem ws_SC {s : State} {b : Nat} (hts : ∀ w ∈ lw_tbl, w.before #[Value.ref b] s = true) (hs : ∀ w ∈ prC, w.before #[Value.ref b] s = true) : ∃ G : GG, G.2.1 = s.heap.size ∧ va_K G.1.1 vwCl (tysG G) s ∧ SC G s s.heap := by
  have hA : ∀ a : Nat, a < s.heap.size → ¬ (fun q : Nat => s.heap.size ≤ q) a := fun a h => Nat.not_le.mpr h
  obtain ⟨fs, hst, hev⟩ := ws_all hs hA
  obtain ⟨fc, hcl⟩ := ws_cls hts
  obtain ⟨fa, har⟩ := ws_arr hts
  refine ⟨((((fun c => (fc c).1), fun c => (fc c).2), fa), s.heap.size, (fun i => (fs i).1), fun i => (fs i).2), rfl, ⟨hcl, ?_⟩, hst, ?_, ?_, ⟨?_, ?_⟩, ⟨?_, ?_⟩, ⟨?_, ?_⟩, ?_, ?_⟩
  · intro k q hq
    match k, hq with
    | 0, hq => cases hq; exact har 0 (by decide)
    | 1, hq => cases hq; exact har 1 (by decide)
    | 2, hq => cases hq; exact har 2 (by decide)
    | 3, hq => cases hq; exact har 3 (by decide)
    | 4, hq => cases hq; exact har 4 (by decide)
    | 5, hq => cases hq; exact har 5 (by decide)
    | k + 6, hq => cases hq
  · exact List.forall_mem_cons.mpr ⟨vk_R.of (hts _ (tl2 (i := 61) rfl)) (hev 0 (by decide)),
      List.forall_mem_cons.mpr ⟨vk_R.of (hts _ (tl5 (i := 36) rfl)) (hev 28 (by decide)),
      List.forall_mem_cons.mpr ⟨vk_R.of (hts _ (tl5 (i := 80) rfl)) (hev 22 (by decide)),
      List.forall_mem_cons.mpr ⟨vk_R.of (hts _ (tl5 (i := 109) rfl)) (hev 19 (by decide)),
      List.forall_mem_cons.mpr ⟨vk_R.of (hts _ (tl5 (i := 135) rfl)) (hev 20 (by decide)),
      List.forall_mem_cons.mpr ⟨vk_R.of (hts _ (tl5 (i := 153) rfl)) (hev 18 (by decide)),
      List.forall_mem_cons.mpr ⟨vk_R.of (hts _ (tl5 (i := 180) rfl)) (hev 23 (by decide)),
      List.forall_mem_cons.mpr ⟨vk_R.of (hts _ (tl5 (i := 233) rfl)) (hev 17 (by decide)),
      List.forall_mem_cons.mpr ⟨vk_R.of (hts _ (tl6 (i := 49) rfl)) (hev 16 (by decide)),
      List.forall_mem_cons.mpr ⟨vk_R.of (hts _ (tl6 (i := 116) rfl)) (hev 21 (by decide)),
      List.forall_mem_cons.mpr ⟨vk_R.of (hts _ (tl6 (i := 117) rfl)) (hev 15 (by decide)),
      List.forall_mem_cons.mpr ⟨vk_R.of (hts _ (tl6 (i := 118) rfl)) (hev 27 (by decide)),
      List.forall_mem_cons.mpr ⟨vk_R.of (hts _ (tl6 (i := 182) rfl)) (hev 26 (by decide)),
      List.forall_mem_cons.mpr ⟨vk_R.of (hts _ (tl6 (i := 205) rfl)) (hev 24 (by decide)),
      List.forall_mem_cons.mpr ⟨vk_R.of (hts _ (tl6 (i := 197) rfl)) (hev 25 (by decide)),
      List.forall_mem_cons.mpr ⟨vk_R.of (hts _ (tl2 (i := 145) rfl)) (hev 1 (by decide)),
      List.forall_mem_cons.mpr ⟨vk_R.of (hts _ (tl2 (i := 181) rfl)) (hev 2 (by decide)),
      List.forall_mem_cons.mpr ⟨vk_R.of (hts _ (tl2 (i := 190) rfl)) (hev 3 (by decide)),
      List.forall_mem_cons.mpr ⟨vk_R.of (hts _ (tl2 (i := 195) rfl)) (hev 4 (by decide)),
      List.forall_mem_cons.mpr ⟨vk_R.of (hts _ (tl2 (i := 200) rfl)) (hev 5 (by decide)),
      List.forall_mem_cons.mpr ⟨vk_R.of (hts _ (tl3 (i := 58) rfl)) (hev 6 (by decide)),
      List.forall_mem_cons.mpr ⟨vk_R.of (hts _ (tl3 (i := 59) rfl)) (hev 7 (by decide)),
      List.forall_mem_cons.mpr ⟨vk_R.of (hts _ (tl3 (i := 60) rfl)) (hev 8 (by decide)),
      List.forall_mem_cons.mpr ⟨vk_R.of (hts _ (tl3 (i := 61) rfl)) (hev 9 (by decide)),
      List.forall_mem_cons.mpr ⟨vk_R.of (hts _ (tl3 (i := 62) rfl)) (hev 10 (by decide)),
      List.forall_mem_cons.mpr ⟨vk_R.of (hts _ (tl3 (i := 63) rfl)) (hev 11 (by decide)),
      List.forall_mem_cons.mpr ⟨vk_R.of (hts _ (tl3 (i := 64) rfl)) (hev 12 (by decide)),
      List.forall_mem_cons.mpr ⟨vk_R.of (hts _ (tl3 (i := 65) rfl)) (hev 13 (by decide)),
      List.forall_mem_cons.mpr ⟨vk_R.of (hts _ (tl3 (i := 66) rfl)) (hev 14 (by decide)),
      List.forall_mem_cons.mpr ⟨vk_R.of (hts _ (tl7 (i := 148) rfl)) (va_eqR (hs _ (pw (i := 716) (by decide +kernel))) (hev 5 (by decide))),
      List.forall_mem_cons.mpr ⟨vk_R.of (hts _ (tl7 (i := 106) rfl)) (va_eqR (hs _ (pw (i := 670) (by decide +kernel))) (hev 1 (by decide))),
      List.forall_mem_cons.mpr ⟨vk_R.of (hts _ (tl7 (i := 133) rfl)) (va_eqR (hs _ (pw (i := 680) (by decide +kernel))) (hev 2 (by decide))),
      List.forall_mem_cons.mpr ⟨vk_R.of (hts _ (tl7 (i := 142) rfl)) (va_eqR (hs _ (pw (i := 693) (by decide +kernel))) (hev 3 (by decide))),
      List.forall_mem_cons.mpr ⟨vk_R.of (hts _ (tl7 (i := 143) rfl)) (va_eqR (hs _ (pw (i := 706) (by decide +kernel))) (hev 4 (by decide))),
      List.forall_mem_cons.mpr ⟨vk_R.of (hts _ (tl7 (i := 165) rfl)) (va_eqR (hs _ (pw (i := 725) (by decide +kernel))) (hev 6 (by decide))),
      List.forall_mem_cons.mpr ⟨vk_R.of (hts _ (tl7 (i := 166) rfl)) (va_eqR (hs _ (pw (i := 736) (by decide +kernel))) (hev 7 (by decide))),
      List.forall_mem_cons.mpr ⟨vk_R.of (hts _ (tl7 (i := 167) rfl)) (va_eqR (hs _ (pw (i := 745) (by decide +kernel))) (hev 8 (by decide))),
      List.forall_mem_cons.mpr ⟨vk_R.of (hts _ (tl7 (i := 168) rfl)) (va_eqR (hs _ (pw (i := 753) (by decide +kernel))) (hev 9 (by decide))),
      List.forall_mem_cons.mpr ⟨vk_R.of (hts _ (tl7 (i := 169) rfl)) (va_eqR (hs _ (pw (i := 762) (by decide +kernel))) (hev 10 (by decide))),
      List.forall_mem_cons.mpr ⟨vk_R.of (hts _ (tl7 (i := 174) rfl)) (va_eqR (hs _ (pw (i := 771) (by decide +kernel))) (hev 11 (by decide))),
      List.forall_mem_cons.mpr ⟨vk_R.of (hts _ (tl7 (i := 175) rfl)) (va_eqR (hs _ (pw (i := 781) (by decide +kernel))) (hev 12 (by decide))),
      List.forall_mem_cons.mpr ⟨vk_R.of (hts _ (tl7 (i := 176) rfl)) (va_eqR (hs _ (pw (i := 789) (by decide +kernel))) (hev 13 (by decide))),
      List.forall_mem_cons.mpr ⟨vk_R.of (hts _ (tl7 (i := 177) rfl)) (va_eqR (hs _ (pw (i := 798) (by decide +kernel))) (hev 14 (by decide))),
      fun _ h => absurd h List.not_mem_nil⟩⟩⟩⟩⟩⟩⟩⟩⟩⟩⟩⟩⟩⟩⟩⟩⟩⟩⟩⟩⟩⟩⟩⟩⟩⟩⟩⟩⟩⟩⟩⟩⟩⟩⟩⟩⟩⟩⟩⟩⟩⟩⟩
  · exact List.forall_mem_cons.mpr ⟨va_Nw.of rfl (hts _ (tl1 (i := 180) rfl)),
      List.forall_mem_cons.mpr ⟨va_Nw.of rfl (hts _ (tl1 (i := 192) rfl)),
      List.forall_mem_cons.mpr ⟨va_Nw.of rfl (hts _ (tl1 (i := 214) rfl)),
      List.forall_mem_cons.mpr ⟨va_Nw.of rfl (hts _ (tl2 (i := 22) rfl)),
      List.forall_mem_cons.mpr ⟨va_Nw.of rfl (hts _ (tl2 (i := 48) rfl)),
      List.forall_mem_cons.mpr ⟨va_Nw.of rfl (hts _ (tl1 (i := 220) rfl)),
      List.forall_mem_cons.mpr ⟨va_Nw.of rfl (hts _ (tl2 (i := 170) rfl)),
      List.forall_mem_cons.mpr ⟨va_Nw.of rfl (hts _ (tl1 (i := 196) rfl)),
      List.forall_mem_cons.mpr ⟨va_Nw.of rfl (hts _ (tl1 (i := 41) rfl)),
      List.forall_mem_cons.mpr ⟨va_Nw.of rfl (hts _ (tl3 (i := 115) rfl)),
      List.forall_mem_cons.mpr ⟨va_Nw.of rfl (hts _ (tl6 (i := 77) rfl)),
      fun _ h => absurd h List.not_mem_nil⟩⟩⟩⟩⟩⟩⟩⟩⟩⟩⟩
  · exact va_AO.of (hts _ (tl1 (i := 39) rfl))
  · exact va_AO.of (hts _ (tl1 (i := 199) rfl))
  · exact vx_Zqof (hts _ (tl5 (i := 21) rfl)) (hts _ (tl1 (i := 16) rfl)) (hs _ (pw (i := 9) (by decide +kernel))) hA
  · exact vx_Zqof (hts _ (tl5 (i := 23) rfl)) (hts _ (tl1 (i := 16) rfl)) (hs _ (pw (i := 10) (by decide +kernel))) hA
  · exact va_Zof (hts _ (tl2 (i := 75) rfl)) (hts _ (tl1 (i := 10) rfl)) (va_eqi (hs _ (pw (i := 4) (by decide +kernel)))) hA
  · exact va_Zqof (hts _ (tl2 (i := 91) rfl)) (hts _ (tl1 (i := 12) rfl)) (hs _ (pw (i := 5) (by decide +kernel))) hA
  · intro w hw
    refine va_tabs (u := s) (A := #[Value.ref b]) (extra_on w hw).1 rfl ?_
    revert w
    exact List.forall_mem_cons.mpr ⟨(hts _ (tl4 (i := 236) rfl)),
      List.forall_mem_cons.mpr ⟨(hts _ (tl5 (i := 73) rfl)),
      List.forall_mem_cons.mpr ⟨(hts _ (tl5 (i := 102) rfl)),
      List.forall_mem_cons.mpr ⟨(hts _ (tl5 (i := 173) rfl)),
      List.forall_mem_cons.mpr ⟨(hts _ (tl4 (i := 238) rfl)),
      List.forall_mem_cons.mpr ⟨(hts _ (tl5 (i := 0) rfl)),
      List.forall_mem_cons.mpr ⟨(hts _ (tl5 (i := 2) rfl)),
      fun _ h => absurd h List.not_mem_nil⟩⟩⟩⟩⟩⟩⟩
  · exact List.forall_mem_cons.mpr ⟨List.forall_mem_cons.mpr ⟨fun h => absurd rfl h,
      List.forall_mem_cons.mpr ⟨fun _ => va_Nc.of (hs _ (pw (i := 34) (by decide +kernel))),
      List.forall_mem_cons.mpr ⟨fun _ => va_Nc.of (hs _ (pw (i := 47) (by decide +kernel))),
      List.forall_mem_cons.mpr ⟨fun _ => va_Nc.of (hs _ (pw (i := 60) (by decide +kernel))),
      fun _ h => absurd h List.not_mem_nil⟩⟩⟩⟩,
      List.forall_mem_cons.mpr ⟨List.forall_mem_cons.mpr ⟨fun _ => va_Nc.of (hs _ (pw (i := 21) (by decide +kernel))),
      List.forall_mem_cons.mpr ⟨fun h => absurd rfl h,
      List.forall_mem_cons.mpr ⟨fun _ => va_Nc.of (hs _ (pw (i := 48) (by decide +kernel))),
      List.forall_mem_cons.mpr ⟨fun _ => va_Nc.of (hs _ (pw (i := 61) (by decide +kernel))),
      fun _ h => absurd h List.not_mem_nil⟩⟩⟩⟩,
      List.forall_mem_cons.mpr ⟨List.forall_mem_cons.mpr ⟨fun _ => va_Nc.of (hs _ (pw (i := 22) (by decide +kernel))),
      List.forall_mem_cons.mpr ⟨fun _ => va_Nc.of (hs _ (pw (i := 35) (by decide +kernel))),
      List.forall_mem_cons.mpr ⟨fun h => absurd rfl h,
      List.forall_mem_cons.mpr ⟨fun _ => va_Nc.of (hs _ (pw (i := 62) (by decide +kernel))),
      fun _ h => absurd h List.not_mem_nil⟩⟩⟩⟩,
      List.forall_mem_cons.mpr ⟨List.forall_mem_cons.mpr ⟨fun _ => va_Nc.of (hs _ (pw (i := 23) (by decide +kernel))),
      List.forall_mem_cons.mpr ⟨fun _ => va_Nc.of (hs _ (pw (i := 36) (by decide +kernel))),
      List.forall_mem_cons.mpr ⟨fun _ => va_Nc.of (hs _ (pw (i := 49) (by decide +kernel))),
      List.forall_mem_cons.mpr ⟨fun h => absurd rfl h,
      fun _ h => absurd h List.not_mem_nil⟩⟩⟩⟩,
      fun _ h => absurd h List.not_mem_nil⟩⟩⟩⟩
