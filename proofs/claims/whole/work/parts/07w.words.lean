/-! THE WORDS: those of the tables that stay under warming; each one that is used, by its place. -/
def TBL : List Cond := lw_tbl.filter goodWord
theorem tb1 {w : Cond} {i : Nat} (h : tables_1_1[i]? = some w) (hg : goodWord w = true) : w ∈ TBL := List.mem_filter.mpr ⟨List.mem_append_right _ (List.mem_append_left _ (List.mem_of_getElem? h)), hg⟩
theorem tb2 {w : Cond} {i : Nat} (h : tables_1_2[i]? = some w) (hg : goodWord w = true) : w ∈ TBL := List.mem_filter.mpr ⟨List.mem_append_right _ (List.mem_append_right _ (List.mem_append_left _ (List.mem_of_getElem? h))), hg⟩
theorem tb3 {w : Cond} {i : Nat} (h : tables_1_3[i]? = some w) (hg : goodWord w = true) : w ∈ TBL := List.mem_filter.mpr ⟨List.mem_append_right _ (List.mem_append_right _ (List.mem_append_right _ (List.mem_append_left _ (List.mem_of_getElem? h)))), hg⟩
theorem tb4 {w : Cond} {i : Nat} (h : tables_1_4[i]? = some w) (hg : goodWord w = true) : w ∈ TBL := List.mem_filter.mpr ⟨List.mem_append_right _ (List.mem_append_right _ (List.mem_append_right _ (List.mem_append_right _ (List.mem_append_left _ (List.mem_of_getElem? h))))), hg⟩
theorem tb5 {w : Cond} {i : Nat} (h : tables_1_5[i]? = some w) (hg : goodWord w = true) : w ∈ TBL := List.mem_filter.mpr ⟨List.mem_append_right _ (List.mem_append_right _ (List.mem_append_right _ (List.mem_append_right _ (List.mem_append_right _ (List.mem_append_left _ (List.mem_of_getElem? h)))))), hg⟩
theorem tb6 {w : Cond} {i : Nat} (h : tables_1_6[i]? = some w) (hg : goodWord w = true) : w ∈ TBL := List.mem_filter.mpr ⟨List.mem_append_right _ (List.mem_append_right _ (List.mem_append_right _ (List.mem_append_right _ (List.mem_append_right _ (List.mem_append_right _ (List.mem_append_left _ (List.mem_of_getElem? h))))))), hg⟩
theorem tb7 {w : Cond} {i : Nat} (h : tables_1_7[i]? = some w) (hg : goodWord w = true) : w ∈ TBL := List.mem_filter.mpr ⟨List.mem_append_right _ (List.mem_append_right _ (List.mem_append_right _ (List.mem_append_right _ (List.mem_append_right _ (List.mem_append_right _ (List.mem_append_right _ (List.mem_append_left _ (List.mem_of_getElem? h)))))))), hg⟩
theorem tb8 {w : Cond} {i : Nat} (h : tables_1_8[i]? = some w) (hg : goodWord w = true) : w ∈ TBL := List.mem_filter.mpr ⟨List.mem_append_right _ (List.mem_append_right _ (List.mem_append_right _ (List.mem_append_right _ (List.mem_append_right _ (List.mem_append_right _ (List.mem_append_right _ (List.mem_append_right _ (List.mem_append_left _ (List.mem_of_getElem? h))))))))), hg⟩
theorem tb9 {w : Cond} {i : Nat} (h : tables_1_9[i]? = some w) (hg : goodWord w = true) : w ∈ TBL := List.mem_filter.mpr ⟨List.mem_append_right _ (List.mem_append_right _ (List.mem_append_right _ (List.mem_append_right _ (List.mem_append_right _ (List.mem_append_right _ (List.mem_append_right _ (List.mem_append_right _ (List.mem_append_right _ (List.mem_of_getElem? h))))))))), hg⟩
theorem tp1 {y : MethodName} {n i : Nat} (h : lw_privs_1[i]? = some (y, n)) : Cond.selects y.cls y y ∈ TBL := List.mem_filter.mpr ⟨List.mem_append_left _ (List.mem_map.mpr ⟨(y, n), List.mem_append_left _ (List.mem_of_getElem? h), rfl⟩), rfl⟩
theorem tp2 {y : MethodName} {n i : Nat} (h : lw_privs_2[i]? = some (y, n)) : Cond.selects y.cls y y ∈ TBL := List.mem_filter.mpr ⟨List.mem_append_left _ (List.mem_map.mpr ⟨(y, n), List.mem_append_right _ (List.mem_append_left _ (List.mem_of_getElem? h)), rfl⟩), rfl⟩
theorem tp3 {y : MethodName} {n i : Nat} (h : lw_privs_3[i]? = some (y, n)) : Cond.selects y.cls y y ∈ TBL := List.mem_filter.mpr ⟨List.mem_append_left _ (List.mem_map.mpr ⟨(y, n), List.mem_append_right _ (List.mem_append_right _ (List.mem_append_left _ (List.mem_of_getElem? h))), rfl⟩), rfl⟩
theorem tp4 {y : MethodName} {n i : Nat} (h : lw_privs_4[i]? = some (y, n)) : Cond.selects y.cls y y ∈ TBL := List.mem_filter.mpr ⟨List.mem_append_left _ (List.mem_map.mpr ⟨(y, n), List.mem_append_right _ (List.mem_append_right _ (List.mem_append_right _ (List.mem_append_left _ (List.mem_of_getElem? h)))), rfl⟩), rfl⟩
theorem tp5 {y : MethodName} {n i : Nat} (h : lw_privs_5[i]? = some (y, n)) : Cond.selects y.cls y y ∈ TBL := List.mem_filter.mpr ⟨List.mem_append_left _ (List.mem_map.mpr ⟨(y, n), List.mem_append_right _ (List.mem_append_right _ (List.mem_append_right _ (List.mem_append_right _ (List.mem_append_left _ (List.mem_of_getElem? h))))), rfl⟩), rfl⟩
theorem tp6 {y : MethodName} {n i : Nat} (h : lw_privs_6[i]? = some (y, n)) : Cond.selects y.cls y y ∈ TBL := List.mem_filter.mpr ⟨List.mem_append_left _ (List.mem_map.mpr ⟨(y, n), List.mem_append_right _ (List.mem_append_right _ (List.mem_append_right _ (List.mem_append_right _ (List.mem_append_right _ (List.mem_append_left _ (List.mem_of_getElem? h)))))), rfl⟩), rfl⟩
theorem tp7 {y : MethodName} {n i : Nat} (h : lw_privs_7[i]? = some (y, n)) : Cond.selects y.cls y y ∈ TBL := List.mem_filter.mpr ⟨List.mem_append_left _ (List.mem_map.mpr ⟨(y, n), List.mem_append_right _ (List.mem_append_right _ (List.mem_append_right _ (List.mem_append_right _ (List.mem_append_right _ (List.mem_append_right _ (List.mem_append_left _ (List.mem_of_getElem? h))))))), rfl⟩), rfl⟩
theorem tp8 {y : MethodName} {n i : Nat} (h : lw_privs_8[i]? = some (y, n)) : Cond.selects y.cls y y ∈ TBL := List.mem_filter.mpr ⟨List.mem_append_left _ (List.mem_map.mpr ⟨(y, n), List.mem_append_right _ (List.mem_append_right _ (List.mem_append_right _ (List.mem_append_right _ (List.mem_append_right _ (List.mem_append_right _ (List.mem_append_right _ (List.mem_append_left _ (List.mem_of_getElem? h)))))))), rfl⟩), rfl⟩
theorem tp9 {y : MethodName} {n i : Nat} (h : lw_privs_9[i]? = some (y, n)) : Cond.selects y.cls y y ∈ TBL := List.mem_filter.mpr ⟨List.mem_append_left _ (List.mem_map.mpr ⟨(y, n), List.mem_append_right _ (List.mem_append_right _ (List.mem_append_right _ (List.mem_append_right _ (List.mem_append_right _ (List.mem_append_right _ (List.mem_append_right _ (List.mem_append_right _ (List.mem_of_getElem? h)))))))), rfl⟩), rfl⟩
theorem in_X0 : ∀ w ∈ u_ws RX0 TX0 4, w ∈ TBL := by
  intro w hw
  obtain ⟨k, hk, rfl⟩ := List.mem_map.mp hw
  have hk := List.mem_range.mp hk
  match k, hk with
  | 0, _ => exact tb2 (i := 11) rfl rfl
  | 1, _ => exact tb2 (i := 13) rfl rfl
  | 2, _ => exact tb2 (i := 15) rfl rfl
  | 3, _ => exact tb2 (i := 17) rfl rfl
  | k + 4, h => exact absurd h (by omega)
theorem in_X1 : ∀ w ∈ u_ws RX1 TX1 9, w ∈ TBL := by
  intro w hw
  obtain ⟨k, hk, rfl⟩ := List.mem_map.mp hw
  have hk := List.mem_range.mp hk
  match k, hk with
  | 0, _ => exact tb1 (i := 77) rfl rfl
  | 1, _ => exact tb1 (i := 79) rfl rfl
  | 2, _ => exact tb1 (i := 81) rfl rfl
  | 3, _ => exact tb1 (i := 83) rfl rfl
  | 4, _ => exact tb1 (i := 85) rfl rfl
  | 5, _ => exact tb1 (i := 87) rfl rfl
  | 6, _ => exact tb1 (i := 89) rfl rfl
  | 7, _ => exact tb1 (i := 91) rfl rfl
  | 8, _ => exact tb1 (i := 93) rfl rfl
  | k + 9, h => exact absurd h (by omega)
theorem in_X2 : ∀ w ∈ u_ws RX2 TX2 3, w ∈ TBL := by
  intro w hw
  obtain ⟨k, hk, rfl⟩ := List.mem_map.mp hw
  have hk := List.mem_range.mp hk
  match k, hk with
  | 0, _ => exact tb1 (i := 204) rfl rfl
  | 1, _ => exact tb1 (i := 206) rfl rfl
  | 2, _ => exact tb1 (i := 208) rfl rfl
  | k + 3, h => exact absurd h (by omega)
theorem in_X3 : ∀ w ∈ u_ws RX3 TX3 19, w ∈ TBL := by
  intro w hw
  obtain ⟨k, hk, rfl⟩ := List.mem_map.mp hw
  have hk := List.mem_range.mp hk
  match k, hk with
  | 0, _ => exact tb1 (i := 139) rfl rfl
  | 1, _ => exact tb1 (i := 141) rfl rfl
  | 2, _ => exact tb1 (i := 143) rfl rfl
  | 3, _ => exact tb1 (i := 145) rfl rfl
  | 4, _ => exact tb1 (i := 147) rfl rfl
  | 5, _ => exact tb1 (i := 149) rfl rfl
  | 6, _ => exact tb1 (i := 151) rfl rfl
  | 7, _ => exact tb1 (i := 153) rfl rfl
  | 8, _ => exact tb1 (i := 155) rfl rfl
  | 9, _ => exact tb1 (i := 157) rfl rfl
  | 10, _ => exact tb1 (i := 159) rfl rfl
  | 11, _ => exact tb1 (i := 161) rfl rfl
  | 12, _ => exact tb1 (i := 163) rfl rfl
  | 13, _ => exact tb1 (i := 165) rfl rfl
  | 14, _ => exact tb1 (i := 167) rfl rfl
  | 15, _ => exact tb1 (i := 169) rfl rfl
  | 16, _ => exact tb1 (i := 171) rfl rfl
  | 17, _ => exact tb1 (i := 173) rfl rfl
  | 18, _ => exact tb1 (i := 175) rfl rfl
  | k + 19, h => exact absurd h (by omega)
theorem in_X4 : ∀ w ∈ u_ws RX4 TX4 2, w ∈ TBL := by
  intro w hw
  obtain ⟨k, hk, rfl⟩ := List.mem_map.mp hw
  have hk := List.mem_range.mp hk
  match k, hk with
  | 0, _ => exact tb2 (i := 56) rfl rfl
  | 1, _ => exact tb2 (i := 58) rfl rfl
  | k + 2, h => exact absurd h (by omega)
theorem in_X5 : ∀ w ∈ u_ws RX5 TX5 1, w ∈ TBL := by
  intro w hw
  obtain ⟨k, hk, rfl⟩ := List.mem_map.mp hw
  have hk := List.mem_range.mp hk
  match k, hk with
  | 0, _ => exact tb1 (i := 187) rfl rfl
  | k + 1, h => exact absurd h (by omega)
theorem in_X6 : ∀ w ∈ u_ws RX6 TX6 4, w ∈ TBL := by
  intro w hw
  obtain ⟨k, hk, rfl⟩ := List.mem_map.mp hw
  have hk := List.mem_range.mp hk
  match k, hk with
  | 0, _ => exact tb2 (i := 37) rfl rfl
  | 1, _ => exact tb2 (i := 39) rfl rfl
  | 2, _ => exact tb2 (i := 41) rfl rfl
  | 3, _ => exact tb2 (i := 43) rfl rfl
  | k + 4, h => exact absurd h (by omega)
theorem in_X7 : ∀ w ∈ u_ws RX7 TX7 5, w ∈ TBL := by
  intro w hw
  obtain ⟨k, hk, rfl⟩ := List.mem_map.mp hw
  have hk := List.mem_range.mp hk
  match k, hk with
  | 0, _ => exact tb1 (i := 232) rfl rfl
  | 1, _ => exact tb1 (i := 234) rfl rfl
  | 2, _ => exact tb1 (i := 236) rfl rfl
  | 3, _ => exact tb1 (i := 238) rfl rfl
  | 4, _ => exact tb2 (i := 0) rfl rfl
  | k + 5, h => exact absurd h (by omega)
theorem in_X8 : ∀ w ∈ u_ws RX8 TX8 9, w ∈ TBL := by
  intro w hw
  obtain ⟨k, hk, rfl⟩ := List.mem_map.mp hw
  have hk := List.mem_range.mp hk
  match k, hk with
  | 0, _ => exact tb3 (i := 6) rfl rfl
  | 1, _ => exact tb3 (i := 8) rfl rfl
  | 2, _ => exact tb3 (i := 10) rfl rfl
  | 3, _ => exact tb3 (i := 12) rfl rfl
  | 4, _ => exact tb3 (i := 14) rfl rfl
  | 5, _ => exact tb3 (i := 16) rfl rfl
  | 6, _ => exact tb3 (i := 18) rfl rfl
  | 7, _ => exact tb3 (i := 20) rfl rfl
  | 8, _ => exact tb3 (i := 22) rfl rfl
  | k + 9, h => exact absurd h (by omega)
theorem in_X9 : ∀ w ∈ u_ws RX9 TX9 21, w ∈ TBL := by
  intro w hw
  obtain ⟨k, hk, rfl⟩ := List.mem_map.mp hw
  have hk := List.mem_range.mp hk
  match k, hk with
  | 0, _ => exact tb7 (i := 5) rfl rfl
  | 1, _ => exact tb7 (i := 7) rfl rfl
  | 2, _ => exact tb7 (i := 9) rfl rfl
  | 3, _ => exact tb7 (i := 11) rfl rfl
  | 4, _ => exact tb7 (i := 13) rfl rfl
  | 5, _ => exact tb7 (i := 15) rfl rfl
  | 6, _ => exact tb7 (i := 17) rfl rfl
  | 7, _ => exact tb7 (i := 19) rfl rfl
  | 8, _ => exact tb7 (i := 21) rfl rfl
  | 9, _ => exact tb7 (i := 23) rfl rfl
  | 10, _ => exact tb7 (i := 25) rfl rfl
  | 11, _ => exact tb7 (i := 27) rfl rfl
  | 12, _ => exact tb7 (i := 29) rfl rfl
  | 13, _ => exact tb7 (i := 31) rfl rfl
  | 14, _ => exact tb7 (i := 33) rfl rfl
  | 15, _ => exact tb7 (i := 35) rfl rfl
  | 16, _ => exact tb7 (i := 37) rfl rfl
  | 17, _ => exact tb7 (i := 39) rfl rfl
  | 18, _ => exact tb7 (i := 41) rfl rfl
  | 19, _ => exact tb7 (i := 43) rfl rfl
  | 20, _ => exact tb7 (i := 45) rfl rfl
  | k + 21, h => exact absurd h (by omega)
/-- what the tables say of a class' fields -/
def FLc (ci : Nat) : Prop := ∀ (C : String) (T : u_T) (N : Nat), vwCl[ci]? = some (C, T, N) → (∀ w ∈ u_ws C T N, w ∈ TBL) ∧ (∃ ty : Nat → FieldType, ∀ k, k < N → parseFieldDescriptor (T k).2.2.1 = some (ty k)) ∧ (∀ a, a < N → ∀ b, b < N → a ≠ b → (T a).2.1 ≠ (T b).2.1)
theorem flc0 : FLc 0 := by
  intro C T N h
  cases h
  exact ⟨in_X0, ⟨tyX0, tyX0_ok⟩, nmX0⟩
theorem flc1 : FLc 1 := by
  intro C T N h
  cases h
  exact ⟨in_X1, ⟨tyX1, tyX1_ok⟩, nmX1⟩
theorem flc2 : FLc 2 := by
  intro C T N h
  cases h
  exact ⟨in_X2, ⟨tyX2, tyX2_ok⟩, nmX2⟩
theorem flc3 : FLc 3 := by
  intro C T N h
  cases h
  exact ⟨in_X3, ⟨tyX3, tyX3_ok⟩, nmX3⟩
theorem flc4 : FLc 4 := by
  intro C T N h
  cases h
  exact ⟨in_X4, ⟨tyX4, tyX4_ok⟩, nmX4⟩
theorem flc5 : FLc 5 := by
  intro C T N h
  cases h
  exact ⟨in_X5, ⟨tyX5, tyX5_ok⟩, nmX5⟩
theorem flc6 : FLc 6 := by
  intro C T N h
  cases h
  exact ⟨in_X6, ⟨tyX6, tyX6_ok⟩, nmX6⟩
theorem flc7 : FLc 7 := by
  intro C T N h
  cases h
  exact ⟨in_X7, ⟨tyX7, tyX7_ok⟩, nmX7⟩
theorem flc8 : FLc 8 := by
  intro C T N h
  cases h
  exact ⟨in_X8, ⟨tyX8, tyX8_ok⟩, nmX8⟩
theorem flc9 : FLc 9 := by
  intro C T N h
  cases h
  exact ⟨in_X9, ⟨tyX9, tyX9_ok⟩, nmX9⟩
def FL (own : String) (idx ci k : Nat) (fin : Bool) (ty : FieldType) : Prop := FLc ci ∧ ∃ (C : String) (T : u_T) (N : Nat), vwCl[ci]? = some (C, T, N) ∧ k < N ∧ Cond.fieldLink own idx (T k).1 (T k).2.1 (T k).2.2.1 ∈ TBL ∧ (T k).2.2.2 = fin ∧ parseFieldDescriptor (T k).2.2.1 = some ty
theorem f_X8_10 : FL RX8 10 8 0 true (.object "HutLedger$Hut") := ⟨flc8, RX8, TX8, 9, rfl, by decide, tb2 (i := 237) rfl rfl, rfl, (tyX8_ok 0 (by decide)).trans rfl⟩
theorem f_X8_16 : FL RX8 16 8 1 true (.object "HutLedger$Hut") := ⟨flc8, RX8, TX8, 9, rfl, by decide, tb2 (i := 238) rfl rfl, rfl, (tyX8_ok 1 (by decide)).trans rfl⟩
theorem f_X8_22 : FL RX8 22 8 2 true (.object "HutLedger$Planner") := ⟨flc8, RX8, TX8, 9, rfl, by decide, tb2 (i := 239) rfl rfl, rfl, (tyX8_ok 2 (by decide)).trans rfl⟩
theorem f_X8_29 : FL RX8 29 8 3 true (.object "HutLedger$History") := ⟨flc8, RX8, TX8, 9, rfl, by decide, tb3 (i := 0) rfl rfl, rfl, (tyX8_ok 3 (by decide)).trans rfl⟩
theorem f_X8_37 : FL RX8 37 8 4 true (.array (.object "HutLedger$Hut")) := ⟨flc8, RX8, TX8, 9, rfl, by decide, tb3 (i := 1) rfl rfl, rfl, (tyX8_ok 4 (by decide)).trans rfl⟩
theorem f_X8_41 : FL RX8 41 8 5 true (.array .boolean) := ⟨flc8, RX8, TX8, 9, rfl, by decide, tb3 (i := 2) rfl rfl, rfl, (tyX8_ok 5 (by decide)).trans rfl⟩
theorem f_X8_48 : FL RX8 48 8 6 true (.object "HutLedger$Grammar") := ⟨flc8, RX8, TX8, 9, rfl, by decide, tb3 (i := 3) rfl rfl, rfl, (tyX8_ok 6 (by decide)).trans rfl⟩
theorem f_X8_55 : FL RX8 55 8 7 true (.object "HutLedger$Script") := ⟨flc8, RX8, TX8, 9, rfl, by decide, tb3 (i := 4) rfl rfl, rfl, (tyX8_ok 7 (by decide)).trans rfl⟩
theorem f_X8_62 : FL RX8 62 8 8 true (.object "HutLedger$Output") := ⟨flc8, RX8, TX8, 9, rfl, by decide, tb3 (i := 5) rfl rfl, rfl, (tyX8_ok 8 (by decide)).trans rfl⟩
theorem f_X8_66 : FL RX8 66 0 0 true (.object "HutLedger$Text") := ⟨flc0, RX0, TX0, 4, rfl, by decide, tb2 (i := 5) rfl rfl, rfl, (tyX0_ok 0 (by decide)).trans rfl⟩
theorem f_X8_82 : FL RX8 82 7 1 false .int := ⟨flc7, RX7, TX7, 5, rfl, by decide, tb1 (i := 225) rfl rfl, rfl, (tyX7_ok 1 (by decide)).trans rfl⟩
theorem f_X8_116 : FL RX8 116 3 12 false .int := ⟨flc3, RX3, TX3, 19, rfl, by decide, tb1 (i := 125) rfl rfl, rfl, (tyX3_ok 12 (by decide)).trans rfl⟩
theorem f_X8_123 : FL RX8 123 6 3 false .int := ⟨flc6, RX6, TX6, 4, rfl, by decide, tb2 (i := 35) rfl rfl, rfl, (tyX6_ok 3 (by decide)).trans rfl⟩
theorem f_X8_126 : FL RX8 126 6 0 true (.array .int) := ⟨flc6, RX6, TX6, 4, rfl, by decide, tb2 (i := 27) rfl rfl, rfl, (tyX6_ok 0 (by decide)).trans rfl⟩
theorem f_X8_130 : FL RX8 130 6 1 true (.array .int) := ⟨flc6, RX6, TX6, 4, rfl, by decide, tb2 (i := 30) rfl rfl, rfl, (tyX6_ok 1 (by decide)).trans rfl⟩
theorem f_X8_133 : FL RX8 133 6 2 true (.array .int) := ⟨flc6, RX6, TX6, 4, rfl, by decide, tb2 (i := 33) rfl rfl, rfl, (tyX6_ok 2 (by decide)).trans rfl⟩
theorem f_X8_146 : FL RX8 146 0 1 false .int := ⟨flc0, RX0, TX0, 4, rfl, by decide, tb2 (i := 7) rfl rfl, rfl, (tyX0_ok 1 (by decide)).trans rfl⟩
theorem f_X8_149 : FL RX8 149 0 2 false .int := ⟨flc0, RX0, TX0, 4, rfl, by decide, tb2 (i := 9) rfl rfl, rfl, (tyX0_ok 2 (by decide)).trans rfl⟩
theorem f_X8_152 : FL RX8 152 3 0 false .int := ⟨flc3, RX3, TX3, 19, rfl, by decide, tb1 (i := 98) rfl rfl, rfl, (tyX3_ok 0 (by decide)).trans rfl⟩
theorem f_X8_159 : FL RX8 159 3 1 false .int := ⟨flc3, RX3, TX3, 19, rfl, by decide, tb1 (i := 102) rfl rfl, rfl, (tyX3_ok 1 (by decide)).trans rfl⟩
theorem f_X8_223 : FL RX8 223 3 18 true (.array (.object "HutLedger$Hiker")) := ⟨flc3, RX3, TX3, 19, rfl, by decide, tb1 (i := 138) rfl rfl, rfl, (tyX3_ok 18 (by decide)).trans rfl⟩
theorem f_X8_227 : FL RX8 227 1 4 false .int := ⟨flc1, RX1, TX1, 9, rfl, by decide, tb1 (i := 62) rfl rfl, rfl, (tyX1_ok 4 (by decide)).trans rfl⟩
theorem f_X8_232 : FL RX8 232 1 5 false .int := ⟨flc1, RX1, TX1, 9, rfl, by decide, tb1 (i := 65) rfl rfl, rfl, (tyX1_ok 5 (by decide)).trans rfl⟩
theorem f_X8_235 : FL RX8 235 1 7 false .int := ⟨flc1, RX1, TX1, 9, rfl, by decide, tb1 (i := 72) rfl rfl, rfl, (tyX1_ok 7 (by decide)).trans rfl⟩
theorem f_X8_243 : FL RX8 243 1 8 true (.array .int) := ⟨flc1, RX1, TX1, 9, rfl, by decide, tb1 (i := 75) rfl rfl, rfl, (tyX1_ok 8 (by decide)).trans rfl⟩
theorem f_X8_246 : FL RX8 246 1 2 false .int := ⟨flc1, RX1, TX1, 9, rfl, by decide, tb1 (i := 54) rfl rfl, rfl, (tyX1_ok 2 (by decide)).trans rfl⟩
theorem f_X8_249 : FL RX8 249 1 3 false .int := ⟨flc1, RX1, TX1, 9, rfl, by decide, tb1 (i := 58) rfl rfl, rfl, (tyX1_ok 3 (by decide)).trans rfl⟩
theorem f_X8_277 : FL RX8 277 3 4 false .int := ⟨flc3, RX3, TX3, 19, rfl, by decide, tb1 (i := 107) rfl rfl, rfl, (tyX3_ok 4 (by decide)).trans rfl⟩
theorem f_X8_280 : FL RX8 280 3 5 false .int := ⟨flc3, RX3, TX3, 19, rfl, by decide, tb1 (i := 109) rfl rfl, rfl, (tyX3_ok 5 (by decide)).trans rfl⟩
theorem f_X8_286 : FL RX8 286 3 7 false .int := ⟨flc3, RX3, TX3, 19, rfl, by decide, tb1 (i := 112) rfl rfl, rfl, (tyX3_ok 7 (by decide)).trans rfl⟩
theorem f_X8_297 : FL RX8 297 3 8 false .int := ⟨flc3, RX3, TX3, 19, rfl, by decide, tb1 (i := 114) rfl rfl, rfl, (tyX3_ok 8 (by decide)).trans rfl⟩
theorem f_X8_354 : FL RX8 354 3 9 false .int := ⟨flc3, RX3, TX3, 19, rfl, by decide, tb1 (i := 118) rfl rfl, rfl, (tyX3_ok 9 (by decide)).trans rfl⟩
theorem f_X8_361 : FL RX8 361 4 1 false .int := ⟨flc4, RX4, TX4, 2, rfl, by decide, tb2 (i := 55) rfl rfl, rfl, (tyX4_ok 1 (by decide)).trans rfl⟩
theorem f_X8_362 : FL RX8 362 1 6 false .int := ⟨flc1, RX1, TX1, 9, rfl, by decide, tb1 (i := 68) rfl rfl, rfl, (tyX1_ok 6 (by decide)).trans rfl⟩
theorem f_X8_372 : FL RX8 372 4 0 true (.array .int) := ⟨flc4, RX4, TX4, 2, rfl, by decide, tb2 (i := 53) rfl rfl, rfl, (tyX4_ok 0 (by decide)).trans rfl⟩
theorem f_X8_375 : FL RX8 375 2 2 false .int := ⟨flc2, RX2, TX2, 3, rfl, by decide, tb1 (i := 203) rfl rfl, rfl, (tyX2_ok 2 (by decide)).trans rfl⟩
theorem f_X0_12 : FL RX0 12 0 0 true (.object "HutLedger$Text") := ⟨flc0, RX0, TX0, 4, rfl, by decide, tb2 (i := 4) rfl rfl, rfl, (tyX0_ok 0 (by decide)).trans rfl⟩
theorem f_X0_18 : FL RX0 18 0 1 false .int := ⟨flc0, RX0, TX0, 4, rfl, by decide, tb2 (i := 6) rfl rfl, rfl, (tyX0_ok 1 (by decide)).trans rfl⟩
theorem f_X0_22 : FL RX0 22 0 2 false .int := ⟨flc0, RX0, TX0, 4, rfl, by decide, tb2 (i := 8) rfl rfl, rfl, (tyX0_ok 2 (by decide)).trans rfl⟩
theorem f_X0_52 : FL RX0 52 7 3 false .int := ⟨flc7, RX7, TX7, 5, rfl, by decide, tb1 (i := 229) rfl rfl, rfl, (tyX7_ok 3 (by decide)).trans rfl⟩
theorem f_X0_69 : FL RX0 69 3 1 false .int := ⟨flc3, RX3, TX3, 19, rfl, by decide, tb1 (i := 100) rfl rfl, rfl, (tyX3_ok 1 (by decide)).trans rfl⟩
theorem f_X0_81 : FL RX0 81 3 13 true (.array .int) := ⟨flc3, RX3, TX3, 19, rfl, by decide, tb1 (i := 128) rfl rfl, rfl, (tyX3_ok 13 (by decide)).trans rfl⟩
theorem f_X0_89 : FL RX0 89 0 3 false .int := ⟨flc0, RX0, TX0, 4, rfl, by decide, tb2 (i := 10) rfl rfl, rfl, (tyX0_ok 3 (by decide)).trans rfl⟩
theorem f_X0_92 : FL RX0 92 3 9 false .int := ⟨flc3, RX3, TX3, 19, rfl, by decide, tb1 (i := 117) rfl rfl, rfl, (tyX3_ok 9 (by decide)).trans rfl⟩
theorem f_X0_97 : FL RX0 97 3 14 true (.array .int) := ⟨flc3, RX3, TX3, 19, rfl, by decide, tb1 (i := 130) rfl rfl, rfl, (tyX3_ok 14 (by decide)).trans rfl⟩
theorem f_X0_100 : FL RX0 100 3 10 false .int := ⟨flc3, RX3, TX3, 19, rfl, by decide, tb1 (i := 120) rfl rfl, rfl, (tyX3_ok 10 (by decide)).trans rfl⟩
theorem f_X0_105 : FL RX0 105 3 15 true (.array .int) := ⟨flc3, RX3, TX3, 19, rfl, by decide, tb1 (i := 132) rfl rfl, rfl, (tyX3_ok 15 (by decide)).trans rfl⟩
theorem f_X0_107 : FL RX0 107 3 11 false .int := ⟨flc3, RX3, TX3, 19, rfl, by decide, tb1 (i := 122) rfl rfl, rfl, (tyX3_ok 11 (by decide)).trans rfl⟩
theorem f_X0_110 : FL RX0 110 7 2 false .int := ⟨flc7, RX7, TX7, 5, rfl, by decide, tb1 (i := 228) rfl rfl, rfl, (tyX7_ok 2 (by decide)).trans rfl⟩
theorem f_X0_117 : FL RX0 117 3 12 false .int := ⟨flc3, RX3, TX3, 19, rfl, by decide, tb1 (i := 126) rfl rfl, rfl, (tyX3_ok 12 (by decide)).trans rfl⟩
theorem f_X0_125 : FL RX0 125 3 18 true (.array (.object "HutLedger$Hiker")) := ⟨flc3, RX3, TX3, 19, rfl, by decide, tb1 (i := 137) rfl rfl, rfl, (tyX3_ok 18 (by decide)).trans rfl⟩
theorem f_X0_133 : FL RX0 133 1 0 false .int := ⟨flc1, RX1, TX1, 9, rfl, by decide, tb1 (i := 46) rfl rfl, rfl, (tyX1_ok 0 (by decide)).trans rfl⟩
theorem f_X0_138 : FL RX0 138 1 1 false .int := ⟨flc1, RX1, TX1, 9, rfl, by decide, tb1 (i := 51) rfl rfl, rfl, (tyX1_ok 1 (by decide)).trans rfl⟩
theorem f_X0_141 : FL RX0 141 1 2 false .int := ⟨flc1, RX1, TX1, 9, rfl, by decide, tb1 (i := 53) rfl rfl, rfl, (tyX1_ok 2 (by decide)).trans rfl⟩
theorem f_X0_148 : FL RX0 148 6 3 false .int := ⟨flc6, RX6, TX6, 4, rfl, by decide, tb2 (i := 36) rfl rfl, rfl, (tyX6_ok 3 (by decide)).trans rfl⟩
theorem f_X0_154 : FL RX0 154 6 0 true (.array .int) := ⟨flc6, RX6, TX6, 4, rfl, by decide, tb2 (i := 28) rfl rfl, rfl, (tyX6_ok 0 (by decide)).trans rfl⟩
theorem f_X0_183 : FL RX0 183 6 1 true (.array .int) := ⟨flc6, RX6, TX6, 4, rfl, by decide, tb2 (i := 31) rfl rfl, rfl, (tyX6_ok 1 (by decide)).trans rfl⟩
theorem f_X0_190 : FL RX0 190 6 2 true (.array .int) := ⟨flc6, RX6, TX6, 4, rfl, by decide, tb2 (i := 34) rfl rfl, rfl, (tyX6_ok 2 (by decide)).trans rfl⟩
theorem f_X1_9 : FL RX1 9 1 4 false .int := ⟨flc1, RX1, TX1, 9, rfl, by decide, tb1 (i := 60) rfl rfl, rfl, (tyX1_ok 4 (by decide)).trans rfl⟩
theorem f_X1_15 : FL RX1 15 1 5 false .int := ⟨flc1, RX1, TX1, 9, rfl, by decide, tb1 (i := 63) rfl rfl, rfl, (tyX1_ok 5 (by decide)).trans rfl⟩
theorem f_X1_18 : FL RX1 18 1 8 true (.array .int) := ⟨flc1, RX1, TX1, 9, rfl, by decide, tb1 (i := 73) rfl rfl, rfl, (tyX1_ok 8 (by decide)).trans rfl⟩
theorem f_X1_22 : FL RX1 22 1 0 false .int := ⟨flc1, RX1, TX1, 9, rfl, by decide, tb1 (i := 45) rfl rfl, rfl, (tyX1_ok 0 (by decide)).trans rfl⟩
theorem f_X1_25 : FL RX1 25 1 1 false .int := ⟨flc1, RX1, TX1, 9, rfl, by decide, tb1 (i := 48) rfl rfl, rfl, (tyX1_ok 1 (by decide)).trans rfl⟩
theorem f_X1_28 : FL RX1 28 1 2 false .int := ⟨flc1, RX1, TX1, 9, rfl, by decide, tb1 (i := 52) rfl rfl, rfl, (tyX1_ok 2 (by decide)).trans rfl⟩
theorem f_X1_31 : FL RX1 31 1 3 false .int := ⟨flc1, RX1, TX1, 9, rfl, by decide, tb1 (i := 56) rfl rfl, rfl, (tyX1_ok 3 (by decide)).trans rfl⟩
theorem f_X1_34 : FL RX1 34 1 6 false .int := ⟨flc1, RX1, TX1, 9, rfl, by decide, tb1 (i := 66) rfl rfl, rfl, (tyX1_ok 6 (by decide)).trans rfl⟩
theorem f_X1_37 : FL RX1 37 1 7 false .int := ⟨flc1, RX1, TX1, 9, rfl, by decide, tb1 (i := 69) rfl rfl, rfl, (tyX1_ok 7 (by decide)).trans rfl⟩
theorem f_X2_13 : FL RX2 13 2 0 true (.array (.object "HutLedger$Hut")) := ⟨flc2, RX2, TX2, 3, rfl, by decide, tb1 (i := 200) rfl rfl, rfl, (tyX2_ok 0 (by decide)).trans rfl⟩
theorem f_X2_19 : FL RX2 19 2 1 false .int := ⟨flc2, RX2, TX2, 3, rfl, by decide, tb1 (i := 201) rfl rfl, rfl, (tyX2_ok 1 (by decide)).trans rfl⟩
theorem f_X2_29 : FL RX2 29 2 2 false .int := ⟨flc2, RX2, TX2, 3, rfl, by decide, tb1 (i := 202) rfl rfl, rfl, (tyX2_ok 2 (by decide)).trans rfl⟩
theorem f_X3_9 : FL RX3 9 3 13 true (.array .int) := ⟨flc3, RX3, TX3, 19, rfl, by decide, tb1 (i := 127) rfl rfl, rfl, (tyX3_ok 13 (by decide)).trans rfl⟩
theorem f_X3_15 : FL RX3 15 3 14 true (.array .int) := ⟨flc3, RX3, TX3, 19, rfl, by decide, tb1 (i := 129) rfl rfl, rfl, (tyX3_ok 14 (by decide)).trans rfl⟩
theorem f_X3_18 : FL RX3 18 3 15 true (.array .int) := ⟨flc3, RX3, TX3, 19, rfl, by decide, tb1 (i := 131) rfl rfl, rfl, (tyX3_ok 15 (by decide)).trans rfl⟩
theorem f_X3_21 : FL RX3 21 3 16 true (.array .int) := ⟨flc3, RX3, TX3, 19, rfl, by decide, tb1 (i := 133) rfl rfl, rfl, (tyX3_ok 16 (by decide)).trans rfl⟩
theorem f_X3_24 : FL RX3 24 3 17 true (.array .int) := ⟨flc3, RX3, TX3, 19, rfl, by decide, tb1 (i := 134) rfl rfl, rfl, (tyX3_ok 17 (by decide)).trans rfl⟩
theorem f_X3_29 : FL RX3 29 3 18 true (.array (.object "HutLedger$Hiker")) := ⟨flc3, RX3, TX3, 19, rfl, by decide, tb1 (i := 135) rfl rfl, rfl, (tyX3_ok 18 (by decide)).trans rfl⟩
theorem f_X3_34 : FL RX3 34 3 1 false .int := ⟨flc3, RX3, TX3, 19, rfl, by decide, tb1 (i := 99) rfl rfl, rfl, (tyX3_ok 1 (by decide)).trans rfl⟩
theorem f_X3_38 : FL RX3 38 3 8 false .int := ⟨flc3, RX3, TX3, 19, rfl, by decide, tb1 (i := 113) rfl rfl, rfl, (tyX3_ok 8 (by decide)).trans rfl⟩
theorem f_X3_45 : FL RX3 45 3 7 false .int := ⟨flc3, RX3, TX3, 19, rfl, by decide, tb1 (i := 111) rfl rfl, rfl, (tyX3_ok 7 (by decide)).trans rfl⟩
theorem f_X3_51 : FL RX3 51 3 0 false .int := ⟨flc3, RX3, TX3, 19, rfl, by decide, tb1 (i := 97) rfl rfl, rfl, (tyX3_ok 0 (by decide)).trans rfl⟩
theorem f_X3_54 : FL RX3 54 3 2 false .int := ⟨flc3, RX3, TX3, 19, rfl, by decide, tb1 (i := 103) rfl rfl, rfl, (tyX3_ok 2 (by decide)).trans rfl⟩
theorem f_X3_57 : FL RX3 57 3 3 false .int := ⟨flc3, RX3, TX3, 19, rfl, by decide, tb1 (i := 104) rfl rfl, rfl, (tyX3_ok 3 (by decide)).trans rfl⟩
theorem f_X3_60 : FL RX3 60 3 4 false .int := ⟨flc3, RX3, TX3, 19, rfl, by decide, tb1 (i := 106) rfl rfl, rfl, (tyX3_ok 4 (by decide)).trans rfl⟩
theorem f_X3_63 : FL RX3 63 3 5 false .int := ⟨flc3, RX3, TX3, 19, rfl, by decide, tb1 (i := 108) rfl rfl, rfl, (tyX3_ok 5 (by decide)).trans rfl⟩
theorem f_X3_66 : FL RX3 66 3 6 false .int := ⟨flc3, RX3, TX3, 19, rfl, by decide, tb1 (i := 110) rfl rfl, rfl, (tyX3_ok 6 (by decide)).trans rfl⟩
theorem f_X3_69 : FL RX3 69 3 9 false .int := ⟨flc3, RX3, TX3, 19, rfl, by decide, tb1 (i := 116) rfl rfl, rfl, (tyX3_ok 9 (by decide)).trans rfl⟩
theorem f_X3_72 : FL RX3 72 3 10 false .int := ⟨flc3, RX3, TX3, 19, rfl, by decide, tb1 (i := 119) rfl rfl, rfl, (tyX3_ok 10 (by decide)).trans rfl⟩
theorem f_X3_75 : FL RX3 75 3 11 false .int := ⟨flc3, RX3, TX3, 19, rfl, by decide, tb1 (i := 121) rfl rfl, rfl, (tyX3_ok 11 (by decide)).trans rfl⟩
theorem f_X3_78 : FL RX3 78 3 12 false .int := ⟨flc3, RX3, TX3, 19, rfl, by decide, tb1 (i := 123) rfl rfl, rfl, (tyX3_ok 12 (by decide)).trans rfl⟩
theorem f_X3_94 : FL RX3 94 1 5 false .int := ⟨flc1, RX1, TX1, 9, rfl, by decide, tb1 (i := 64) rfl rfl, rfl, (tyX1_ok 5 (by decide)).trans rfl⟩
theorem f_X3_101 : FL RX3 101 1 6 false .int := ⟨flc1, RX1, TX1, 9, rfl, by decide, tb1 (i := 67) rfl rfl, rfl, (tyX1_ok 6 (by decide)).trans rfl⟩
theorem f_X3_104 : FL RX3 104 1 4 false .int := ⟨flc1, RX1, TX1, 9, rfl, by decide, tb1 (i := 61) rfl rfl, rfl, (tyX1_ok 4 (by decide)).trans rfl⟩
theorem f_X3_111 : FL RX3 111 1 7 false .int := ⟨flc1, RX1, TX1, 9, rfl, by decide, tb1 (i := 71) rfl rfl, rfl, (tyX1_ok 7 (by decide)).trans rfl⟩
theorem f_X3_121 : FL RX3 121 1 1 false .int := ⟨flc1, RX1, TX1, 9, rfl, by decide, tb1 (i := 50) rfl rfl, rfl, (tyX1_ok 1 (by decide)).trans rfl⟩
theorem f_X3_178 : FL RX3 178 1 0 false .int := ⟨flc1, RX1, TX1, 9, rfl, by decide, tb1 (i := 47) rfl rfl, rfl, (tyX1_ok 0 (by decide)).trans rfl⟩
theorem f_X3_188 : FL RX3 188 1 2 false .int := ⟨flc1, RX1, TX1, 9, rfl, by decide, tb1 (i := 55) rfl rfl, rfl, (tyX1_ok 2 (by decide)).trans rfl⟩
theorem f_X3_191 : FL RX3 191 1 3 false .int := ⟨flc1, RX1, TX1, 9, rfl, by decide, tb1 (i := 59) rfl rfl, rfl, (tyX1_ok 3 (by decide)).trans rfl⟩
theorem f_X3_194 : FL RX3 194 1 8 true (.array .int) := ⟨flc1, RX1, TX1, 9, rfl, by decide, tb1 (i := 76) rfl rfl, rfl, (tyX1_ok 8 (by decide)).trans rfl⟩
theorem f_X4_9 : FL RX4 9 4 0 true (.array .int) := ⟨flc4, RX4, TX4, 2, rfl, by decide, tb2 (i := 52) rfl rfl, rfl, (tyX4_ok 0 (by decide)).trans rfl⟩
theorem f_X4_15 : FL RX4 15 4 1 false .int := ⟨flc4, RX4, TX4, 2, rfl, by decide, tb2 (i := 54) rfl rfl, rfl, (tyX4_ok 1 (by decide)).trans rfl⟩
theorem f_X5_12 : FL RX5 12 5 0 true (.object "HutLedger$Hut") := ⟨flc5, RX5, TX5, 1, rfl, by decide, tb1 (i := 186) rfl rfl, rfl, (tyX5_ok 0 (by decide)).trans rfl⟩
theorem f_X5_30 : FL RX5 30 3 9 false .int := ⟨flc3, RX3, TX3, 19, rfl, by decide, tb1 (i := 115) rfl rfl, rfl, (tyX3_ok 9 (by decide)).trans rfl⟩
theorem f_X5_38 : FL RX5 38 3 18 true (.array (.object "HutLedger$Hiker")) := ⟨flc3, RX3, TX3, 19, rfl, by decide, tb1 (i := 136) rfl rfl, rfl, (tyX3_ok 18 (by decide)).trans rfl⟩
theorem f_X5_42 : FL RX5 42 1 7 false .int := ⟨flc1, RX1, TX1, 9, rfl, by decide, tb1 (i := 70) rfl rfl, rfl, (tyX1_ok 7 (by decide)).trans rfl⟩
theorem f_X5_53 : FL RX5 53 3 12 false .int := ⟨flc3, RX3, TX3, 19, rfl, by decide, tb1 (i := 124) rfl rfl, rfl, (tyX3_ok 12 (by decide)).trans rfl⟩
theorem f_X5_56 : FL RX5 56 1 1 false .int := ⟨flc1, RX1, TX1, 9, rfl, by decide, tb1 (i := 49) rfl rfl, rfl, (tyX1_ok 1 (by decide)).trans rfl⟩
theorem f_X5_76 : FL RX5 76 1 8 true (.array .int) := ⟨flc1, RX1, TX1, 9, rfl, by decide, tb1 (i := 74) rfl rfl, rfl, (tyX1_ok 8 (by decide)).trans rfl⟩
theorem f_X5_89 : FL RX5 89 1 3 false .int := ⟨flc1, RX1, TX1, 9, rfl, by decide, tb1 (i := 57) rfl rfl, rfl, (tyX1_ok 3 (by decide)).trans rfl⟩
theorem f_X5_92 : FL RX5 92 3 1 false .int := ⟨flc3, RX3, TX3, 19, rfl, by decide, tb1 (i := 101) rfl rfl, rfl, (tyX3_ok 1 (by decide)).trans rfl⟩
theorem f_X5_99 : FL RX5 99 3 3 false .int := ⟨flc3, RX3, TX3, 19, rfl, by decide, tb1 (i := 105) rfl rfl, rfl, (tyX3_ok 3 (by decide)).trans rfl⟩
theorem f_X6_9 : FL RX6 9 6 0 true (.array .int) := ⟨flc6, RX6, TX6, 4, rfl, by decide, tb2 (i := 26) rfl rfl, rfl, (tyX6_ok 0 (by decide)).trans rfl⟩
theorem f_X6_15 : FL RX6 15 6 1 true (.array .int) := ⟨flc6, RX6, TX6, 4, rfl, by decide, tb2 (i := 29) rfl rfl, rfl, (tyX6_ok 1 (by decide)).trans rfl⟩
theorem f_X6_18 : FL RX6 18 6 2 true (.array .int) := ⟨flc6, RX6, TX6, 4, rfl, by decide, tb2 (i := 32) rfl rfl, rfl, (tyX6_ok 2 (by decide)).trans rfl⟩
theorem f_X7_9 : FL RX7 9 7 0 true (.array .int) := ⟨flc7, RX7, TX7, 5, rfl, by decide, tb1 (i := 224) rfl rfl, rfl, (tyX7_ok 0 (by decide)).trans rfl⟩
theorem f_X7_15 : FL RX7 15 7 1 false .int := ⟨flc7, RX7, TX7, 5, rfl, by decide, tb1 (i := 226) rfl rfl, rfl, (tyX7_ok 1 (by decide)).trans rfl⟩
theorem f_X7_36 : FL RX7 36 7 4 false .int := ⟨flc7, RX7, TX7, 5, rfl, by decide, tb1 (i := 231) rfl rfl, rfl, (tyX7_ok 4 (by decide)).trans rfl⟩
theorem f_X7_42 : FL RX7 42 7 3 false .int := ⟨flc7, RX7, TX7, 5, rfl, by decide, tb1 (i := 230) rfl rfl, rfl, (tyX7_ok 3 (by decide)).trans rfl⟩
theorem f_X7_49 : FL RX7 49 7 2 false .int := ⟨flc7, RX7, TX7, 5, rfl, by decide, tb1 (i := 227) rfl rfl, rfl, (tyX7_ok 2 (by decide)).trans rfl⟩
theorem f_X9_7 : FL RX9 7 9 0 true (.array .int) := ⟨flc9, RX9, TX9, 21, rfl, by decide, tb6 (i := 224) rfl rfl, rfl, (tyX9_ok 0 (by decide)).trans rfl⟩
theorem f_X9_13 : FL RX9 13 9 1 true (.array .int) := ⟨flc9, RX9, TX9, 21, rfl, by decide, tb6 (i := 225) rfl rfl, rfl, (tyX9_ok 1 (by decide)).trans rfl⟩
theorem f_X9_16 : FL RX9 16 9 2 true (.array .int) := ⟨flc9, RX9, TX9, 21, rfl, by decide, tb6 (i := 226) rfl rfl, rfl, (tyX9_ok 2 (by decide)).trans rfl⟩
theorem f_X9_19 : FL RX9 19 9 3 true (.array .int) := ⟨flc9, RX9, TX9, 21, rfl, by decide, tb6 (i := 227) rfl rfl, rfl, (tyX9_ok 3 (by decide)).trans rfl⟩
theorem f_X9_22 : FL RX9 22 9 4 true (.array .boolean) := ⟨flc9, RX9, TX9, 21, rfl, by decide, tb6 (i := 228) rfl rfl, rfl, (tyX9_ok 4 (by decide)).trans rfl⟩
theorem f_X9_26 : FL RX9 26 9 7 true (.array .int) := ⟨flc9, RX9, TX9, 21, rfl, by decide, tb6 (i := 231) rfl rfl, rfl, (tyX9_ok 7 (by decide)).trans rfl⟩
theorem f_X9_29 : FL RX9 29 9 8 true (.array .byte) := ⟨flc9, RX9, TX9, 21, rfl, by decide, tb6 (i := 232) rfl rfl, rfl, (tyX9_ok 8 (by decide)).trans rfl⟩
theorem f_X9_33 : FL RX9 33 9 15 false .int := ⟨flc9, RX9, TX9, 21, rfl, by decide, tb6 (i := 239) rfl rfl, rfl, (tyX9_ok 15 (by decide)).trans rfl⟩
theorem f_X9_37 : FL RX9 37 9 16 true (.array .int) := ⟨flc9, RX9, TX9, 21, rfl, by decide, tb7 (i := 0) rfl rfl, rfl, (tyX9_ok 16 (by decide)).trans rfl⟩
theorem f_X9_40 : FL RX9 40 9 18 true (.array .boolean) := ⟨flc9, RX9, TX9, 21, rfl, by decide, tb7 (i := 2) rfl rfl, rfl, (tyX9_ok 18 (by decide)).trans rfl⟩
theorem f_X9_43 : FL RX9 43 9 19 true (.array .byte) := ⟨flc9, RX9, TX9, 21, rfl, by decide, tb7 (i := 3) rfl rfl, rfl, (tyX9_ok 19 (by decide)).trans rfl⟩
theorem f_X9_57 : FL RX9 57 9 6 false .int := ⟨flc9, RX9, TX9, 21, rfl, by decide, tb6 (i := 230) rfl rfl, rfl, (tyX9_ok 6 (by decide)).trans rfl⟩
theorem f_X9_138 : FL RX9 138 9 9 false .int := ⟨flc9, RX9, TX9, 21, rfl, by decide, tb6 (i := 233) rfl rfl, rfl, (tyX9_ok 9 (by decide)).trans rfl⟩
theorem f_X9_144 : FL RX9 144 9 14 false .int := ⟨flc9, RX9, TX9, 21, rfl, by decide, tb6 (i := 238) rfl rfl, rfl, (tyX9_ok 14 (by decide)).trans rfl⟩
theorem f_X9_151 : FL RX9 151 9 11 false .int := ⟨flc9, RX9, TX9, 21, rfl, by decide, tb6 (i := 235) rfl rfl, rfl, (tyX9_ok 11 (by decide)).trans rfl⟩
theorem f_X9_154 : FL RX9 154 9 12 false .int := ⟨flc9, RX9, TX9, 21, rfl, by decide, tb6 (i := 236) rfl rfl, rfl, (tyX9_ok 12 (by decide)).trans rfl⟩
theorem f_X9_160 : FL RX9 160 9 10 false .int := ⟨flc9, RX9, TX9, 21, rfl, by decide, tb6 (i := 234) rfl rfl, rfl, (tyX9_ok 10 (by decide)).trans rfl⟩
theorem f_X9_169 : FL RX9 169 9 13 false .int := ⟨flc9, RX9, TX9, 21, rfl, by decide, tb6 (i := 237) rfl rfl, rfl, (tyX9_ok 13 (by decide)).trans rfl⟩
theorem f_X9_173 : FL RX9 173 9 17 false .int := ⟨flc9, RX9, TX9, 21, rfl, by decide, tb7 (i := 1) rfl rfl, rfl, (tyX9_ok 17 (by decide)).trans rfl⟩
theorem f_X9_241 : FL RX9 241 9 5 false .int := ⟨flc9, RX9, TX9, 21, rfl, by decide, tb6 (i := 229) rfl rfl, rfl, (tyX9_ok 5 (by decide)).trans rfl⟩
theorem f_X9_419 : FL RX9 419 9 20 false .int := ⟨flc9, RX9, TX9, 21, rfl, by decide, tb7 (i := 4) rfl rfl, rfl, (tyX9_ok 20 (by decide)).trans rfl⟩
def YL (kind : Nat) (y : MethodName) (bytes : ByteArray) (maxL : Nat) (ret : Option FieldType) (n : Nat) : Prop := Jvm.plainName y.cls = true ∧ Cond.code y bytes maxL ret ∈ TBL ∧ Cond.initialized y.cls ∈ TBL ∧ (y.cls ≠ "java/lang/invoke/MethodHandle" ∧ y.cls ≠ "java/lang/invoke/VarHandle" ∧ (parseMethodDescriptor y.desc).map (fun d => d.parameters.length) = some n) ∧ (kind = 0 → Cond.instanceMethod y ∈ TBL ∧ Cond.selects y.cls y y ∈ TBL) ∧ (kind = 1 → Cond.static y ∈ TBL) ∧ (kind = 2 → Cond.instanceMethod y ∈ TBL ∧ y.name = "<init>")
theorem y_J0_charAt_5068e : YL 0 yJ0_charAt_5068e cJ0_charAt_5068e 2 (some .char) 1 := ⟨by decide +kernel, tb2 (i := 79) rfl rfl, tb1 (i := 10) rfl rfl, by decide +kernel, fun _ => ⟨tb2 (i := 77) rfl rfl, tb2 (i := 78) rfl rfl⟩, (fun h => by cases h), (fun h => by cases h)⟩
theorem y_J0_checkIndex_df160 : YL 1 yJ0_checkIndex_df160 cJ0_checkIndex_df160 2 none 2 := ⟨by decide +kernel, tb2 (i := 89) rfl rfl, tb1 (i := 10) rfl rfl, by decide +kernel, (fun h => by cases h), fun _ => tb2 (i := 88) rfl rfl, (fun h => by cases h)⟩
theorem y_J0_coder_7d493 : YL 0 yJ0_coder_7d493 cJ0_coder_7d493 1 (some .byte) 0 := ⟨by decide +kernel, tb2 (i := 73) rfl rfl, tb1 (i := 10) rfl rfl, by decide +kernel, fun _ => ⟨tb2 (i := 71) rfl rfl, tb2 (i := 72) rfl rfl⟩, (fun h => by cases h), (fun h => by cases h)⟩
theorem y_J0_isLatin1_aae02 : YL 0 yJ0_isLatin1_aae02 cJ0_isLatin1_aae02 1 (some .boolean) 0 := ⟨by decide +kernel, tb2 (i := 83) rfl rfl, tb1 (i := 10) rfl rfl, by decide +kernel, fun _ => ⟨tb2 (i := 81) rfl rfl, tb2 (i := 82) rfl rfl⟩, (fun h => by cases h), (fun h => by cases h)⟩
theorem y_J0_length_8abf5 : YL 0 yJ0_length_8abf5 cJ0_length_8abf5 1 (some .int) 0 := ⟨by decide +kernel, tb2 (i := 69) rfl rfl, tb1 (i := 10) rfl rfl, by decide +kernel, fun _ => ⟨tb2 (i := 67) rfl rfl, tb2 (i := 68) rfl rfl⟩, (fun h => by cases h), (fun h => by cases h)⟩
theorem y_J1_charAt_3b067 : YL 1 yJ1_charAt_3b067 cJ1_charAt_3b067 2 (some .char) 2 := ⟨by decide +kernel, tb2 (i := 86) rfl rfl, tb1 (i := 11) rfl rfl, by decide +kernel, (fun h => by cases h), fun _ => tb2 (i := 85) rfl rfl, (fun h => by cases h)⟩
theorem y_J2_charAt_3b067 : YL 1 yJ2_charAt_3b067 cJ2_charAt_3b067 2 (some .char) 2 := ⟨by decide +kernel, tb2 (i := 97) rfl rfl, tb1 (i := 13) rfl rfl, by decide +kernel, (fun h => by cases h), fun _ => tb2 (i := 96) rfl rfl, (fun h => by cases h)⟩
theorem y_J2_checkIndex_2214a : YL 1 yJ2_checkIndex_2214a cJ2_checkIndex_2214a 2 none 2 := ⟨by decide +kernel, tb2 (i := 100) rfl rfl, tb1 (i := 13) rfl rfl, by decide +kernel, (fun h => by cases h), fun _ => tb2 (i := 99) rfl rfl, (fun h => by cases h)⟩
theorem y_J2_getChar_3b067 : YL 1 yJ2_getChar_3b067 cJ2_getChar_3b067 2 (some .char) 2 := ⟨by decide +kernel, tb2 (i := 107) rfl rfl, tb1 (i := 13) rfl rfl, by decide +kernel, (fun h => by cases h), fun _ => tb2 (i := 106) rfl rfl, (fun h => by cases h)⟩
theorem y_J2_length_9d52b : YL 1 yJ2_length_9d52b cJ2_length_9d52b 1 (some .int) 1 := ⟨by decide +kernel, tb2 (i := 103) rfl rfl, tb1 (i := 13) rfl rfl, by decide +kernel, (fun h => by cases h), fun _ => tb2 (i := 102) rfl rfl, (fun h => by cases h)⟩
theorem y_J3_checkIndex_8e157 : YL 1 yJ3_checkIndex_8e157 cJ3_checkIndex_8e157 3 (some .int) 3 := ⟨by decide +kernel, tb2 (i := 94) rfl rfl, tb1 (i := 12) rfl rfl, by decide +kernel, (fun h => by cases h), fun _ => tb2 (i := 93) rfl rfl, (fun h => by cases h)⟩
theorem y_X0_begin : YL 0 yX0_begin cX0_begin 1 none 0 := ⟨by decide +kernel, tb2 (i := 129) rfl rfl, tb1 (i := 6) rfl rfl, by decide +kernel, fun _ => ⟨tb2 (i := 128) rfl rfl, tp1 (i := 0) rfl⟩, (fun h => by cases h), (fun h => by cases h)⟩
theorem y_X0_commandOfWord : YL 0 yX0_commandOfWord cX0_commandOfWord 1 (some .int) 0 := ⟨by decide +kernel, tb3 (i := 57) rfl rfl, tb1 (i := 6) rfl rfl, by decide +kernel, fun _ => ⟨tb3 (i := 56) rfl rfl, tp1 (i := 13) rfl⟩, (fun h => by cases h), (fun h => by cases h)⟩
theorem y_X0_fail : YL 0 yX0_fail cX0_fail 2 (some .boolean) 1 := ⟨by decide +kernel, tb2 (i := 157) rfl rfl, tb1 (i := 6) rfl rfl, by decide +kernel, fun _ => ⟨tb2 (i := 156) rfl rfl, tp1 (i := 3) rfl⟩, (fun h => by cases h), (fun h => by cases h)⟩
theorem y_X0_init : YL 2 yX0_init cX0_init 1 none 0 := ⟨by decide +kernel, tb1 (i := 216) rfl rfl, tb1 (i := 6) rfl rfl, by decide +kernel, (fun h => by cases h), (fun h => by cases h), fun _ => ⟨tb1 (i := 215) rfl rfl, rfl⟩⟩
theorem y_X0_isNumber : YL 0 yX0_isNumber cX0_isNumber 3 (some .boolean) 2 := ⟨by decide +kernel, tb2 (i := 162) rfl rfl, tb1 (i := 6) rfl rfl, by decide +kernel, fun _ => ⟨tb2 (i := 161) rfl rfl, tp1 (i := 4) rfl⟩, (fun h => by cases h), (fun h => by cases h)⟩
theorem y_X0_readArguments : YL 0 yX0_readArguments cX0_readArguments 3 (some .boolean) 2 := ⟨by decide +kernel, tb3 (i := 70) rfl rfl, tb1 (i := 6) rfl rfl, by decide +kernel, fun _ => ⟨tb3 (i := 69) rfl rfl, tp1 (i := 14) rfl⟩, (fun h => by cases h), (fun h => by cases h)⟩
theorem y_X0_readBlankets : YL 0 yX0_readBlankets cX0_readBlankets 3 (some .boolean) 1 := ⟨by decide +kernel, tb2 (i := 189) rfl rfl, tb1 (i := 6) rfl rfl, by decide +kernel, fun _ => ⟨tb2 (i := 188) rfl rfl, tp1 (i := 8) rfl⟩, (fun h => by cases h), (fun h => by cases h)⟩
theorem y_X0_readBunks : YL 0 yX0_readBunks cX0_readBunks 3 (some .boolean) 1 := ⟨by decide +kernel, tb2 (i := 180) rfl rfl, tb1 (i := 6) rfl rfl, by decide +kernel, fun _ => ⟨tb2 (i := 179) rfl rfl, tp1 (i := 6) rfl⟩, (fun h => by cases h), (fun h => by cases h)⟩
theorem y_X0_readForecast : YL 0 yX0_readForecast cX0_readForecast 3 (some .boolean) 1 := ⟨by decide +kernel, tb2 (i := 194) rfl rfl, tb1 (i := 6) rfl rfl, by decide +kernel, fun _ => ⟨tb2 (i := 193) rfl rfl, tp1 (i := 9) rfl⟩, (fun h => by cases h), (fun h => by cases h)⟩
theorem y_X0_readHiker : YL 0 yX0_readHiker cX0_readHiker 2 (some .boolean) 1 := ⟨by decide +kernel, tb2 (i := 204) rfl rfl, tb1 (i := 6) rfl rfl, by decide +kernel, fun _ => ⟨tb2 (i := 203) rfl rfl, tp1 (i := 11) rfl⟩, (fun h => by cases h), (fun h => by cases h)⟩
theorem y_X0_readHikerAnd : YL 0 yX0_readHikerAnd cX0_readHikerAnd 5 (some .boolean) 4 := ⟨by decide +kernel, tb3 (i := 74) rfl rfl, tb1 (i := 6) rfl rfl, by decide +kernel, fun _ => ⟨tb3 (i := 73) rfl rfl, tp1 (i := 15) rfl⟩, (fun h => by cases h), (fun h => by cases h)⟩
theorem y_X0_readHikers : YL 0 yX0_readHikers cX0_readHikers 3 (some .boolean) 1 := ⟨by decide +kernel, tb2 (i := 199) rfl rfl, tb1 (i := 6) rfl rfl, by decide +kernel, fun _ => ⟨tb2 (i := 198) rfl rfl, tp1 (i := 10) rfl⟩, (fun h => by cases h), (fun h => by cases h)⟩
theorem y_X0_readInto : YL 0 yX0_readInto cX0_readInto 5 (some .boolean) 4 := ⟨by decide +kernel, tb3 (i := 78) rfl rfl, tb1 (i := 6) rfl rfl, by decide +kernel, fun _ => ⟨tb3 (i := 77) rfl rfl, tp2 (i := 0) rfl⟩, (fun h => by cases h), (fun h => by cases h)⟩
theorem y_X0_readLogs : YL 0 yX0_readLogs cX0_readLogs 2 (some .boolean) 1 := ⟨by decide +kernel, tb2 (i := 144) rfl rfl, tb1 (i := 6) rfl rfl, by decide +kernel, fun _ => ⟨tb2 (i := 143) rfl rfl, tp1 (i := 1) rfl⟩, (fun h => by cases h), (fun h => by cases h)⟩
theorem y_X0_readRow : YL 0 yX0_readRow cX0_readRow 5 (some .boolean) 3 := ⟨by decide +kernel, tb2 (i := 185) rfl rfl, tb1 (i := 6) rfl rfl, by decide +kernel, fun _ => ⟨tb2 (i := 184) rfl rfl, tp1 (i := 7) rfl⟩, (fun h => by cases h), (fun h => by cases h)⟩
theorem y_X0_readScript : YL 0 yX0_readScript cX0_readScript 4 (some .boolean) 1 := ⟨by decide +kernel, tb3 (i := 53) rfl rfl, tb1 (i := 6) rfl rfl, by decide +kernel, fun _ => ⟨tb3 (i := 51) rfl rfl, tb3 (i := 52) rfl rfl⟩, (fun h => by cases h), (fun h => by cases h)⟩
theorem y_X0_readSemicolon : YL 0 yX0_readSemicolon cX0_readSemicolon 1 (some .boolean) 0 := ⟨by decide +kernel, tb2 (i := 176) rfl rfl, tb1 (i := 6) rfl rfl, by decide +kernel, fun _ => ⟨tb2 (i := 175) rfl rfl, tp1 (i := 5) rfl⟩, (fun h => by cases h), (fun h => by cases h)⟩
theorem y_X0_readSetup : YL 0 yX0_readSetup cX0_readSetup 3 (some .boolean) 1 := ⟨by decide +kernel, tb2 (i := 125) rfl rfl, tb1 (i := 6) rfl rfl, by decide +kernel, fun _ => ⟨tb2 (i := 123) rfl rfl, tb2 (i := 124) rfl rfl⟩, (fun h => by cases h), (fun h => by cases h)⟩
theorem y_X0_readWord : YL 0 yX0_readWord cX0_readWord 2 (some .boolean) 1 := ⟨by decide +kernel, tb2 (i := 149) rfl rfl, tb1 (i := 6) rfl rfl, by decide +kernel, fun _ => ⟨tb2 (i := 148) rfl rfl, tp1 (i := 2) rfl⟩, (fun h => by cases h), (fun h => by cases h)⟩
theorem y_X1_copyFrom : YL 0 yX1_copyFrom cX1_copyFrom 2 none 1 := ⟨by decide +kernel, tb3 (i := 40) rfl rfl, tb1 (i := 3) rfl rfl, by decide +kernel, fun _ => ⟨tb3 (i := 38) rfl rfl, tb3 (i := 39) rfl rfl⟩, (fun h => by cases h), (fun h => by cases h)⟩
theorem y_X1_feeForBlanket : YL 0 yX1_feeForBlanket cX1_feeForBlanket 1 (some .int) 0 := ⟨by decide +kernel, tb3 (i := 217) rfl rfl, tb1 (i := 3) rfl rfl, by decide +kernel, fun _ => ⟨tb3 (i := 215) rfl rfl, tb3 (i := 216) rfl rfl⟩, (fun h => by cases h), (fun h => by cases h)⟩
theorem y_X1_init : YL 2 yX1_init cX1_init 1 none 0 := ⟨by decide +kernel, tb1 (i := 43) rfl rfl, tb1 (i := 3) rfl rfl, by decide +kernel, (fun h => by cases h), (fun h => by cases h), fun _ => ⟨tb1 (i := 42) rfl rfl, rfl⟩⟩
theorem y_X1_isCold : YL 0 yX1_isCold cX1_isCold 1 (some .boolean) 0 := ⟨by decide +kernel, tb2 (i := 236) rfl rfl, tb1 (i := 3) rfl rfl, by decide +kernel, fun _ => ⟨tb2 (i := 234) rfl rfl, tb2 (i := 235) rfl rfl⟩, (fun h => by cases h), (fun h => by cases h)⟩
theorem y_X1_lack : YL 0 yX1_lack cX1_lack 1 (some .int) 0 := ⟨by decide +kernel, tb4 (i := 90) rfl rfl, tb1 (i := 3) rfl rfl, by decide +kernel, fun _ => ⟨tb4 (i := 88) rfl rfl, tb4 (i := 89) rfl rfl⟩, (fun h => by cases h), (fun h => by cases h)⟩
theorem y_X1_payOut : YL 0 yX1_payOut cX1_payOut 3 (some .int) 1 := ⟨by decide +kernel, tb3 (i := 201) rfl rfl, tb1 (i := 3) rfl rfl, by decide +kernel, fun _ => ⟨tb3 (i := 199) rfl rfl, tb3 (i := 200) rfl rfl⟩, (fun h => by cases h), (fun h => by cases h)⟩
theorem y_X1_ranksBefore : YL 0 yX1_ranksBefore cX1_ranksBefore 2 (some .boolean) 1 := ⟨by decide +kernel, tb6 (i := 26) rfl rfl, tb1 (i := 3) rfl rfl, by decide +kernel, fun _ => ⟨tb6 (i := 24) rfl rfl, tb6 (i := 25) rfl rfl⟩, (fun h => by cases h), (fun h => by cases h)⟩
theorem y_X2_forget : YL 0 yX2_forget cX2_forget 1 none 0 := ⟨by decide +kernel, tb3 (i := 45) rfl rfl, tb1 (i := 5) rfl rfl, by decide +kernel, fun _ => ⟨tb3 (i := 43) rfl rfl, tb3 (i := 44) rfl rfl⟩, (fun h => by cases h), (fun h => by cases h)⟩
theorem y_X2_init : YL 2 yX2_init cX2_init 1 none 0 := ⟨by decide +kernel, tb1 (i := 194) rfl rfl, tb1 (i := 5) rfl rfl, by decide +kernel, (fun h => by cases h), (fun h => by cases h), fun _ => ⟨tb1 (i := 193) rfl rfl, rfl⟩⟩
theorem y_X2_keep : YL 0 yX2_keep cX2_keep 2 none 1 := ⟨by decide +kernel, tb3 (i := 131) rfl rfl, tb1 (i := 5) rfl rfl, by decide +kernel, fun _ => ⟨tb3 (i := 129) rfl rfl, tb3 (i := 130) rfl rfl⟩, (fun h => by cases h), (fun h => by cases h)⟩
theorem y_X2_takeBack : YL 0 yX2_takeBack cX2_takeBack 2 none 1 := ⟨by decide +kernel, tb6 (i := 186) rfl rfl, tb1 (i := 5) rfl rfl, by decide +kernel, fun _ => ⟨tb6 (i := 184) rfl rfl, tb6 (i := 185) rfl rfl⟩, (fun h => by cases h), (fun h => by cases h)⟩
theorem y_X3_activityNow : YL 0 yX3_activityNow cX3_activityNow 3 (some .int) 1 := ⟨by decide +kernel, tb3 (i := 157) rfl rfl, tb1 (i := 2) rfl rfl, by decide +kernel, fun _ => ⟨tb3 (i := 155) rfl rfl, tb3 (i := 156) rfl rfl⟩, (fun h => by cases h), (fun h => by cases h)⟩
theorem y_X3_addLogs : YL 0 yX3_addLogs cX3_addLogs 2 (some .int) 1 := ⟨by decide +kernel, tb3 (i := 173) rfl rfl, tb1 (i := 2) rfl rfl, by decide +kernel, fun _ => ⟨tb3 (i := 172) rfl rfl, tp2 (i := 12) rfl⟩, (fun h => by cases h), (fun h => by cases h)⟩
theorem y_X3_blanketAtRank : YL 0 yX3_blanketAtRank cX3_blanketAtRank 3 (some .int) 1 := ⟨by decide +kernel, tb5 (i := 166) rfl rfl, tb1 (i := 2) rfl rfl, by decide +kernel, fun _ => ⟨tb5 (i := 164) rfl rfl, tb5 (i := 165) rfl rfl⟩, (fun h => by cases h), (fun h => by cases h)⟩
theorem y_X3_blanketsOfThickness : YL 0 yX3_blanketsOfThickness cX3_blanketsOfThickness 4 (some .int) 1 := ⟨by decide +kernel, tb4 (i := 94) rfl rfl, tb1 (i := 2) rfl rfl, by decide +kernel, fun _ => ⟨tb4 (i := 93) rfl rfl, tp3 (i := 6) rfl⟩, (fun h => by cases h), (fun h => by cases h)⟩
theorem y_X3_blanketsOnPile : YL 0 yX3_blanketsOnPile cX3_blanketsOnPile 1 (some .int) 0 := ⟨by decide +kernel, tb4 (i := 41) rfl rfl, tb1 (i := 2) rfl rfl, by decide +kernel, fun _ => ⟨tb4 (i := 39) rfl rfl, tb4 (i := 40) rfl rfl⟩, (fun h => by cases h), (fun h => by cases h)⟩
theorem y_X3_burnLogs : YL 0 yX3_burnLogs cX3_burnLogs 2 none 0 := ⟨by decide +kernel, tb3 (i := 185) rfl rfl, tb1 (i := 2) rfl rfl, by decide +kernel, fun _ => ⟨tb3 (i := 184) rfl rfl, tp2 (i := 14) rfl⟩, (fun h => by cases h), (fun h => by cases h)⟩
theorem y_X3_changeRate : YL 0 yX3_changeRate cX3_changeRate 3 (some .int) 1 := ⟨by decide +kernel, tb3 (i := 169) rfl rfl, tb1 (i := 2) rfl rfl, by decide +kernel, fun _ => ⟨tb3 (i := 168) rfl rfl, tp2 (i := 11) rfl⟩, (fun h => by cases h), (fun h => by cases h)⟩
theorem y_X3_coldCount : YL 0 yX3_coldCount cX3_coldCount 1 (some .int) 0 := ⟨by decide +kernel, tb3 (i := 149) rfl rfl, tb1 (i := 2) rfl rfl, by decide +kernel, fun _ => ⟨tb3 (i := 147) rfl rfl, tb3 (i := 148) rfl rfl⟩, (fun h => by cases h), (fun h => by cases h)⟩
theorem y_X3_coldIfSharedBest : YL 0 yX3_coldIfSharedBest cX3_coldIfSharedBest 4 (some .int) 0 := ⟨by decide +kernel, tb4 (i := 82) rfl rfl, tb1 (i := 2) rfl rfl, by decide +kernel, fun _ => ⟨tb4 (i := 80) rfl rfl, tb4 (i := 81) rfl rfl⟩, (fun h => by cases h), (fun h => by cases h)⟩
theorem y_X3_copyFrom : YL 0 yX3_copyFrom cX3_copyFrom 3 none 1 := ⟨by decide +kernel, tb3 (i := 33) rfl rfl, tb1 (i := 2) rfl rfl, by decide +kernel, fun _ => ⟨tb3 (i := 31) rfl rfl, tb3 (i := 32) rfl rfl⟩, (fun h => by cases h), (fun h => by cases h)⟩
theorem y_X3_countOf : YL 0 yX3_countOf cX3_countOf 4 (some .int) 1 := ⟨by decide +kernel, tb3 (i := 153) rfl rfl, tb1 (i := 2) rfl rfl, by decide +kernel, fun _ => ⟨tb3 (i := 151) rfl rfl, tb3 (i := 152) rfl rfl⟩, (fun h => by cases h), (fun h => by cases h)⟩
theorem y_X3_endHour : YL 0 yX3_endHour cX3_endHour 1 none 0 := ⟨by decide +kernel, tb3 (i := 193) rfl rfl, tb1 (i := 2) rfl rfl, by decide +kernel, fun _ => ⟨tb3 (i := 192) rfl rfl, tp3 (i := 0) rfl⟩, (fun h => by cases h), (fun h => by cases h)⟩
theorem y_X3_exchangeBlankets : YL 0 yX3_exchangeBlankets cX3_exchangeBlankets 4 none 2 := ⟨by decide +kernel, tb3 (i := 145) rfl rfl, tb1 (i := 2) rfl rfl, by decide +kernel, fun _ => ⟨tb3 (i := 144) rfl rfl, tp2 (i := 10) rfl⟩, (fun h => by cases h), (fun h => by cases h)⟩
theorem y_X3_exchangeForFewestCold : YL 0 yX3_exchangeForFewestCold cX3_exchangeForFewestCold 6 (some .int) 0 := ⟨by decide +kernel, tb4 (i := 104) rfl rfl, tb1 (i := 2) rfl rfl, by decide +kernel, fun _ => ⟨tb4 (i := 102) rfl rfl, tb4 (i := 103) rfl rfl⟩, (fun h => by cases h), (fun h => by cases h)⟩
theorem y_X3_faultOf : YL 0 yX3_faultOf cX3_faultOf 4 (some .int) 3 := ⟨by decide +kernel, tb3 (i := 82) rfl rfl, tb1 (i := 2) rfl rfl, by decide +kernel, fun _ => ⟨tb3 (i := 80) rfl rfl, tb3 (i := 81) rfl rfl⟩, (fun h => by cases h), (fun h => by cases h)⟩
theorem y_X3_faultOfFetch : YL 0 yX3_faultOfFetch cX3_faultOfFetch 2 (some .int) 1 := ⟨by decide +kernel, tb3 (i := 119) rfl rfl, tb1 (i := 2) rfl rfl, by decide +kernel, fun _ => ⟨tb3 (i := 118) rfl rfl, tp2 (i := 6) rfl⟩, (fun h => by cases h), (fun h => by cases h)⟩
theorem y_X3_faultOfLie : YL 0 yX3_faultOfLie cX3_faultOfLie 3 (some .int) 2 := ⟨by decide +kernel, tb3 (i := 106) rfl rfl, tb1 (i := 2) rfl rfl, by decide +kernel, fun _ => ⟨tb3 (i := 105) rfl rfl, tp2 (i := 4) rfl⟩, (fun h => by cases h), (fun h => by cases h)⟩
theorem y_X3_faultOfPass : YL 0 yX3_faultOfPass cX3_faultOfPass 2 (some .int) 1 := ⟨by decide +kernel, tb3 (i := 127) rfl rfl, tb1 (i := 2) rfl rfl, by decide +kernel, fun _ => ⟨tb3 (i := 126) rfl rfl, tp2 (i := 8) rfl⟩, (fun h => by cases h), (fun h => by cases h)⟩
theorem y_X3_faultOfPay : YL 0 yX3_faultOfPay cX3_faultOfPay 4 (some .int) 2 := ⟨by decide +kernel, tb3 (i := 123) rfl rfl, tb1 (i := 2) rfl rfl, by decide +kernel, fun _ => ⟨tb3 (i := 122) rfl rfl, tp2 (i := 7) rfl⟩, (fun h => by cases h), (fun h => by cases h)⟩
theorem y_X3_faultOfReturn : YL 0 yX3_faultOfReturn cX3_faultOfReturn 2 (some .int) 1 := ⟨by decide +kernel, tb3 (i := 98) rfl rfl, tb1 (i := 2) rfl rfl, by decide +kernel, fun _ => ⟨tb3 (i := 97) rfl rfl, tp2 (i := 2) rfl⟩, (fun h => by cases h), (fun h => by cases h)⟩
theorem y_X3_faultOfRise : YL 0 yX3_faultOfRise cX3_faultOfRise 2 (some .int) 1 := ⟨by decide +kernel, tb3 (i := 114) rfl rfl, tb1 (i := 2) rfl rfl, by decide +kernel, fun _ => ⟨tb3 (i := 113) rfl rfl, tp2 (i := 5) rfl⟩, (fun h => by cases h), (fun h => by cases h)⟩
theorem y_X3_faultOfSwap : YL 0 yX3_faultOfSwap cX3_faultOfSwap 4 (some .int) 2 := ⟨by decide +kernel, tb3 (i := 102) rfl rfl, tb1 (i := 2) rfl rfl, by decide +kernel, fun _ => ⟨tb3 (i := 101) rfl rfl, tp2 (i := 3) rfl⟩, (fun h => by cases h), (fun h => by cases h)⟩
theorem y_X3_faultOfTake : YL 0 yX3_faultOfTake cX3_faultOfTake 3 (some .int) 2 := ⟨by decide +kernel, tb3 (i := 86) rfl rfl, tb1 (i := 2) rfl rfl, by decide +kernel, fun _ => ⟨tb3 (i := 85) rfl rfl, tp2 (i := 1) rfl⟩, (fun h => by cases h), (fun h => by cases h)⟩
theorem y_X3_giveBlanket : YL 0 yX3_giveBlanket cX3_giveBlanket 4 (some .int) 2 := ⟨by decide +kernel, tb3 (i := 141) rfl rfl, tb1 (i := 2) rfl rfl, by decide +kernel, fun _ => ⟨tb3 (i := 140) rfl rfl, tp2 (i := 9) rfl⟩, (fun h => by cases h), (fun h => by cases h)⟩
theorem y_X3_hasBlanket : YL 0 yX3_hasBlanket cX3_hasBlanket 2 (some .boolean) 1 := ⟨by decide +kernel, tb2 (i := 224) rfl rfl, tb1 (i := 2) rfl rfl, by decide +kernel, fun _ => ⟨tb2 (i := 222) rfl rfl, tb2 (i := 223) rfl rfl⟩, (fun h => by cases h), (fun h => by cases h)⟩
theorem y_X3_hasBunk : YL 0 yX3_hasBunk cX3_hasBunk 2 (some .boolean) 1 := ⟨by decide +kernel, tb2 (i := 232) rfl rfl, tb1 (i := 2) rfl rfl, by decide +kernel, fun _ => ⟨tb2 (i := 230) rfl rfl, tb2 (i := 231) rfl rfl⟩, (fun h => by cases h), (fun h => by cases h)⟩
theorem y_X3_hasHiker : YL 0 yX3_hasHiker cX3_hasHiker 2 (some .boolean) 1 := ⟨by decide +kernel, tb3 (i := 90) rfl rfl, tb1 (i := 2) rfl rfl, by decide +kernel, fun _ => ⟨tb3 (i := 88) rfl rfl, tb3 (i := 89) rfl rfl⟩, (fun h => by cases h), (fun h => by cases h)⟩
theorem y_X3_hikerMissingMost : YL 0 yX3_hikerMissingMost cX3_hikerMissingMost 3 (some .int) 0 := ⟨by decide +kernel, tb4 (i := 74) rfl rfl, tb1 (i := 2) rfl rfl, by decide +kernel, fun _ => ⟨tb4 (i := 72) rfl rfl, tb4 (i := 73) rfl rfl⟩, (fun h => by cases h), (fun h => by cases h)⟩
theorem y_X3_hikerOfRank : YL 0 yX3_hikerOfRank cX3_hikerOfRank 3 (some .int) 1 := ⟨by decide +kernel, tb6 (i := 18) rfl rfl, tb1 (i := 2) rfl rfl, by decide +kernel, fun _ => ⟨tb6 (i := 16) rfl rfl, tb6 (i := 17) rfl rfl⟩, (fun h => by cases h), (fun h => by cases h)⟩
theorem y_X3_hikersLacking : YL 0 yX3_hikersLacking cX3_hikersLacking 4 (some .int) 1 := ⟨by decide +kernel, tb4 (i := 86) rfl rfl, tb1 (i := 2) rfl rfl, by decide +kernel, fun _ => ⟨tb4 (i := 85) rfl rfl, tp3 (i := 5) rfl⟩, (fun h => by cases h), (fun h => by cases h)⟩
theorem y_X3_hikersWithoutBlanket : YL 0 yX3_hikersWithoutBlanket cX3_hikersWithoutBlanket 3 (some .int) 0 := ⟨by decide +kernel, tb3 (i := 221) rfl rfl, tb1 (i := 2) rfl rfl, by decide +kernel, fun _ => ⟨tb3 (i := 219) rfl rfl, tb3 (i := 220) rfl rfl⟩, (fun h => by cases h), (fun h => by cases h)⟩
theorem y_X3_hoursToDawn : YL 0 yX3_hoursToDawn cX3_hoursToDawn 1 (some .int) 0 := ⟨by decide +kernel, tb4 (i := 1) rfl rfl, tb1 (i := 2) rfl rfl, by decide +kernel, fun _ => ⟨tb3 (i := 239) rfl rfl, tb4 (i := 0) rfl rfl⟩, (fun h => by cases h), (fun h => by cases h)⟩
theorem y_X3_init : YL 2 yX3_init cX3_init 2 none 0 := ⟨by decide +kernel, tb1 (i := 36) rfl rfl, tb1 (i := 2) rfl rfl, by decide +kernel, (fun h => by cases h), (fun h => by cases h), fun _ => ⟨tb1 (i := 35) rfl rfl, rfl⟩⟩
theorem y_X3_isQuieter : YL 0 yX3_isQuieter cX3_isQuieter 5 (some .boolean) 2 := ⟨by decide +kernel, tb4 (i := 22) rfl rfl, tb1 (i := 2) rfl rfl, by decide +kernel, fun _ => ⟨tb4 (i := 21) rfl rfl, tp3 (i := 4) rfl⟩, (fun h => by cases h), (fun h => by cases h)⟩
theorem y_X3_longestRowOfSleepers : YL 0 yX3_longestRowOfSleepers cX3_longestRowOfSleepers 4 (some .int) 0 := ⟨by decide +kernel, tb4 (i := 30) rfl rfl, tb1 (i := 2) rfl rfl, by decide +kernel, fun _ => ⟨tb4 (i := 28) rfl rfl, tb4 (i := 29) rfl rfl⟩, (fun h => by cases h), (fun h => by cases h)⟩
theorem y_X3_measure : YL 0 yX3_measure cX3_measure 4 none 0 := ⟨by decide +kernel, tb2 (i := 216) rfl rfl, tb1 (i := 2) rfl rfl, by decide +kernel, fun _ => ⟨tb2 (i := 214) rfl rfl, tb2 (i := 215) rfl rfl⟩, (fun h => by cases h), (fun h => by cases h)⟩
theorem y_X3_moveTo : YL 0 yX3_moveTo cX3_moveTo 4 (some .int) 2 := ⟨by decide +kernel, tb3 (i := 165) rfl rfl, tb1 (i := 2) rfl rfl, by decide +kernel, fun _ => ⟨tb3 (i := 163) rfl rfl, tb3 (i := 164) rfl rfl⟩, (fun h => by cases h), (fun h => by cases h)⟩
theorem y_X3_noiseAt : YL 0 yX3_noiseAt cX3_noiseAt 5 (some .int) 1 := ⟨by decide +kernel, tb3 (i := 161) rfl rfl, tb1 (i := 2) rfl rfl, by decide +kernel, fun _ => ⟨tb3 (i := 159) rfl rfl, tb3 (i := 160) rfl rfl⟩, (fun h => by cases h), (fun h => by cases h)⟩
theorem y_X3_noteWhatHappens : YL 0 yX3_noteWhatHappens cX3_noteWhatHappens 2 none 0 := ⟨by decide +kernel, tb3 (i := 189) rfl rfl, tb1 (i := 2) rfl rfl, by decide +kernel, fun _ => ⟨tb3 (i := 188) rfl rfl, tp2 (i := 15) rfl⟩, (fun h => by cases h), (fun h => by cases h)⟩
theorem y_X3_open : YL 0 yX3_open cX3_open 1 none 0 := ⟨by decide +kernel, tb2 (i := 208) rfl rfl, tb1 (i := 2) rfl rfl, by decide +kernel, fun _ => ⟨tb2 (i := 206) rfl rfl, tb2 (i := 207) rfl rfl⟩, (fun h => by cases h), (fun h => by cases h)⟩
theorem y_X3_partOfLogs : YL 0 yX3_partOfLogs cX3_partOfLogs 4 (some .int) 1 := ⟨by decide +kernel, tb3 (i := 209) rfl rfl, tb1 (i := 2) rfl rfl, by decide +kernel, fun _ => ⟨tb3 (i := 207) rfl rfl, tb3 (i := 208) rfl rfl⟩, (fun h => by cases h), (fun h => by cases h)⟩
theorem y_X3_passTime : YL 0 yX3_passTime cX3_passTime 4 (some .int) 1 := ⟨by decide +kernel, tb3 (i := 181) rfl rfl, tb1 (i := 2) rfl rfl, by decide +kernel, fun _ => ⟨tb3 (i := 179) rfl rfl, tb3 (i := 180) rfl rfl⟩, (fun h => by cases h), (fun h => by cases h)⟩
theorem y_X3_passTimeUnwatched : YL 0 yX3_passTimeUnwatched cX3_passTimeUnwatched 3 none 1 := ⟨by decide +kernel, tb4 (i := 163) rfl rfl, tb1 (i := 2) rfl rfl, by decide +kernel, fun _ => ⟨tb4 (i := 161) rfl rfl, tb4 (i := 162) rfl rfl⟩, (fun h => by cases h), (fun h => by cases h)⟩
theorem y_X3_payBack : YL 0 yX3_payBack cX3_payBack 3 (some .int) 2 := ⟨by decide +kernel, tb3 (i := 177) rfl rfl, tb1 (i := 2) rfl rfl, by decide +kernel, fun _ => ⟨tb3 (i := 176) rfl rfl, tp2 (i := 13) rfl⟩, (fun h => by cases h), (fun h => by cases h)⟩
theorem y_X3_payForBlankets : YL 0 yX3_payForBlankets cX3_payForBlankets 5 none 0 := ⟨by decide +kernel, tb3 (i := 213) rfl rfl, tb1 (i := 2) rfl rfl, by decide +kernel, fun _ => ⟨tb3 (i := 212) rfl rfl, tp3 (i := 3) rfl⟩, (fun h => by cases h), (fun h => by cases h)⟩
theorem y_X3_payForLogs : YL 0 yX3_payForLogs cX3_payForLogs 2 none 0 := ⟨by decide +kernel, tb3 (i := 205) rfl rfl, tb1 (i := 2) rfl rfl, by decide +kernel, fun _ => ⟨tb3 (i := 204) rfl rfl, tp3 (i := 2) rfl⟩, (fun h => by cases h), (fun h => by cases h)⟩
theorem y_X3_payForNight : YL 0 yX3_payForNight cX3_payForNight 2 none 0 := ⟨by decide +kernel, tb3 (i := 197) rfl rfl, tb1 (i := 2) rfl rfl, by decide +kernel, fun _ => ⟨tb3 (i := 196) rfl rfl, tp3 (i := 1) rfl⟩, (fun h => by cases h), (fun h => by cases h)⟩
theorem y_X3_perform : YL 0 yX3_perform cX3_perform 4 (some .int) 3 := ⟨by decide +kernel, tb3 (i := 137) rfl rfl, tb1 (i := 2) rfl rfl, by decide +kernel, fun _ => ⟨tb3 (i := 135) rfl rfl, tb3 (i := 136) rfl rfl⟩, (fun h => by cases h), (fun h => by cases h)⟩
theorem y_X3_pileRankOf : YL 0 yX3_pileRankOf cX3_pileRankOf 5 (some .int) 1 := ⟨by decide +kernel, tb5 (i := 170) rfl rfl, tb1 (i := 2) rfl rfl, by decide +kernel, fun _ => ⟨tb5 (i := 169) rfl rfl, tp3 (i := 13) rfl⟩, (fun h => by cases h), (fun h => by cases h)⟩
theorem y_X3_quietestEmptyBunk : YL 0 yX3_quietestEmptyBunk cX3_quietestEmptyBunk 3 (some .int) 0 := ⟨by decide +kernel, tb4 (i := 18) rfl rfl, tb1 (i := 2) rfl rfl, by decide +kernel, fun _ => ⟨tb4 (i := 16) rfl rfl, tb4 (i := 17) rfl rfl⟩, (fun h => by cases h), (fun h => by cases h)⟩
theorem y_X3_rankOfHiker : YL 0 yX3_rankOfHiker cX3_rankOfHiker 5 (some .int) 1 := ⟨by decide +kernel, tb6 (i := 22) rfl rfl, tb1 (i := 2) rfl rfl, by decide +kernel, fun _ => ⟨tb6 (i := 21) rfl rfl, tp3 (i := 14) rfl⟩, (fun h => by cases h), (fun h => by cases h)⟩
theorem y_X3_savedByExchange : YL 1 yX3_savedByExchange cX3_savedByExchange 4 (some .int) 2 := ⟨by decide +kernel, tb4 (i := 107) rfl rfl, tb1 (i := 2) rfl rfl, by decide +kernel, (fun h => by cases h), fun _ => tb4 (i := 106) rfl rfl, (fun h => by cases h)⟩
theorem y_X3_sleeperIn : YL 0 yX3_sleeperIn cX3_sleeperIn 2 (some .int) 1 := ⟨by decide +kernel, tb3 (i := 110) rfl rfl, tb1 (i := 2) rfl rfl, by decide +kernel, fun _ => ⟨tb3 (i := 108) rfl rfl, tb3 (i := 109) rfl rfl⟩, (fun h => by cases h), (fun h => by cases h)⟩
theorem y_X3_sumOfCoins : YL 0 yX3_sumOfCoins cX3_sumOfCoins 3 (some .int) 0 := ⟨by decide +kernel, tb2 (i := 212) rfl rfl, tb1 (i := 2) rfl rfl, by decide +kernel, fun _ => ⟨tb2 (i := 210) rfl rfl, tb2 (i := 211) rfl rfl⟩, (fun h => by cases h), (fun h => by cases h)⟩
theorem y_X3_sumOfDebts : YL 0 yX3_sumOfDebts cX3_sumOfDebts 3 (some .int) 0 := ⟨by decide +kernel, tb4 (i := 123) rfl rfl, tb1 (i := 2) rfl rfl, by decide +kernel, fun _ => ⟨tb4 (i := 121) rfl rfl, tb4 (i := 122) rfl rfl⟩, (fun h => by cases h), (fun h => by cases h)⟩
theorem y_X3_sumOfHours : YL 0 yX3_sumOfHours cX3_sumOfHours 4 (some .int) 1 := ⟨by decide +kernel, tb4 (i := 151) rfl rfl, tb1 (i := 2) rfl rfl, by decide +kernel, fun _ => ⟨tb4 (i := 149) rfl rfl, tb4 (i := 150) rfl rfl⟩, (fun h => by cases h), (fun h => by cases h)⟩
theorem y_X3_sumOfWarmths : YL 0 yX3_sumOfWarmths cX3_sumOfWarmths 3 (some .int) 0 := ⟨by decide +kernel, tb4 (i := 143) rfl rfl, tb1 (i := 2) rfl rfl, by decide +kernel, fun _ => ⟨tb4 (i := 141) rfl rfl, tb4 (i := 142) rfl rfl⟩, (fun h => by cases h), (fun h => by cases h)⟩
theorem y_X3_temperatureInside : YL 0 yX3_temperatureInside cX3_temperatureInside 2 (some .int) 0 := ⟨by decide +kernel, tb2 (i := 220) rfl rfl, tb1 (i := 2) rfl rfl, by decide +kernel, fun _ => ⟨tb2 (i := 218) rfl rfl, tb2 (i := 219) rfl rfl⟩, (fun h => by cases h), (fun h => by cases h)⟩
theorem y_X3_thingsUsedTwice : YL 0 yX3_thingsUsedTwice cX3_thingsUsedTwice 4 (some .int) 0 := ⟨by decide +kernel, tb4 (i := 135) rfl rfl, tb1 (i := 2) rfl rfl, by decide +kernel, fun _ => ⟨tb4 (i := 133) rfl rfl, tb4 (i := 134) rfl rfl⟩, (fun h => by cases h), (fun h => by cases h)⟩
theorem y_X3_thinnestFitting : YL 0 yX3_thinnestFitting cX3_thinnestFitting 5 (some .int) 1 := ⟨by decide +kernel, tb5 (i := 197) rfl rfl, tb1 (i := 2) rfl rfl, by decide +kernel, fun _ => ⟨tb5 (i := 195) rfl rfl, tb5 (i := 196) rfl rfl⟩, (fun h => by cases h), (fun h => by cases h)⟩
theorem y_X3_userOfBlanket : YL 0 yX3_userOfBlanket cX3_userOfBlanket 3 (some .int) 1 := ⟨by decide +kernel, tb3 (i := 94) rfl rfl, tb1 (i := 2) rfl rfl, by decide +kernel, fun _ => ⟨tb3 (i := 92) rfl rfl, tb3 (i := 93) rfl rfl⟩, (fun h => by cases h), (fun h => by cases h)⟩
theorem y_X3_warmthOfBunk : YL 0 yX3_warmthOfBunk cX3_warmthOfBunk 5 (some .int) 1 := ⟨by decide +kernel, tb2 (i := 228) rfl rfl, tb1 (i := 2) rfl rfl, by decide +kernel, fun _ => ⟨tb2 (i := 227) rfl rfl, tp1 (i := 12) rfl⟩, (fun h => by cases h), (fun h => by cases h)⟩
theorem y_X4_clear : YL 0 yX4_clear cX4_clear 1 none 0 := ⟨by decide +kernel, tb4 (i := 194) rfl rfl, tb1 (i := 9) rfl rfl, by decide +kernel, fun _ => ⟨tb4 (i := 192) rfl rfl, tb4 (i := 193) rfl rfl⟩, (fun h => by cases h), (fun h => by cases h)⟩
theorem y_X4_init : YL 2 yX4_init cX4_init 1 none 0 := ⟨by decide +kernel, tb2 (i := 50) rfl rfl, tb1 (i := 9) rfl rfl, by decide +kernel, (fun h => by cases h), (fun h => by cases h), fun _ => ⟨tb2 (i := 49) rfl rfl, rfl⟩⟩
theorem y_X4_put : YL 0 yX4_put cX4_put 2 none 1 := ⟨by decide +kernel, tb4 (i := 198) rfl rfl, tb1 (i := 9) rfl rfl, by decide +kernel, fun _ => ⟨tb4 (i := 196) rfl rfl, tb4 (i := 197) rfl rfl⟩, (fun h => by cases h), (fun h => by cases h)⟩
theorem y_X4_putNumber : YL 0 yX4_putNumber cX4_putNumber 3 none 1 := ⟨by decide +kernel, tb4 (i := 208) rfl rfl, tb1 (i := 9) rfl rfl, by decide +kernel, fun _ => ⟨tb4 (i := 206) rfl rfl, tb4 (i := 207) rfl rfl⟩, (fun h => by cases h), (fun h => by cases h)⟩
theorem y_X5_bunkForMostWarmth : YL 0 yX5_bunkForMostWarmth cX5_bunkForMostWarmth 9 (some .int) 2 := ⟨by decide +kernel, tb6 (i := 37) rfl rfl, tb1 (i := 4) rfl rfl, by decide +kernel, fun _ => ⟨tb6 (i := 35) rfl rfl, tb6 (i := 36) rfl rfl⟩, (fun h => by cases h), (fun h => by cases h)⟩
theorem y_X5_dawnsToDebt : YL 0 yX5_dawnsToDebt cX5_dawnsToDebt 4 (some .int) 2 := ⟨by decide +kernel, tb6 (i := 101) rfl rfl, tb1 (i := 4) rfl rfl, by decide +kernel, fun _ => ⟨tb6 (i := 99) rfl rfl, tb6 (i := 100) rfl rfl⟩, (fun h => by cases h), (fun h => by cases h)⟩
theorem y_X5_debtIn : YL 0 yX5_debtIn cX5_debtIn 4 (some .int) 3 := ⟨by decide +kernel, tb6 (i := 90) rfl rfl, tb1 (i := 4) rfl rfl, by decide +kernel, fun _ => ⟨tb6 (i := 88) rfl rfl, tb6 (i := 89) rfl rfl⟩, (fun h => by cases h), (fun h => by cases h)⟩
theorem y_X5_hoursToDawnOf : YL 0 yX5_hoursToDawnOf cX5_hoursToDawnOf 4 (some .int) 3 := ⟨by decide +kernel, tb4 (i := 175) rfl rfl, tb1 (i := 4) rfl rfl, by decide +kernel, fun _ => ⟨tb4 (i := 174) rfl rfl, tp3 (i := 7) rfl⟩, (fun h => by cases h), (fun h => by cases h)⟩
theorem y_X5_hoursToNoLogs : YL 0 yX5_hoursToNoLogs cX5_hoursToNoLogs 3 (some .int) 1 := ⟨by decide +kernel, tb4 (i := 159) rfl rfl, tb1 (i := 4) rfl rfl, by decide +kernel, fun _ => ⟨tb4 (i := 157) rfl rfl, tb4 (i := 158) rfl rfl⟩, (fun h => by cases h), (fun h => by cases h)⟩
theorem y_X5_init : YL 2 yX5_init cX5_init 1 none 0 := ⟨by decide +kernel, tb1 (i := 182) rfl rfl, tb1 (i := 4) rfl rfl, by decide +kernel, (fun h => by cases h), (fun h => by cases h), fun _ => ⟨tb1 (i := 181) rfl rfl, rfl⟩⟩
theorem y_X5_isFreeFor : YL 1 yX5_isFreeFor cX5_isFreeFor 4 (some .boolean) 3 := ⟨by decide +kernel, tb5 (i := 143) rfl rfl, tb1 (i := 4) rfl rfl, by decide +kernel, (fun h => by cases h), fun _ => tb5 (i := 142) rfl rfl, (fun h => by cases h)⟩
theorem y_X5_loudestDisturber : YL 0 yX5_loudestDisturber cX5_loudestDisturber 6 (some .int) 1 := ⟨by decide +kernel, tb4 (i := 53) rfl rfl, tb1 (i := 4) rfl rfl, by decide +kernel, fun _ => ⟨tb4 (i := 51) rfl rfl, tb4 (i := 52) rfl rfl⟩, (fun h => by cases h), (fun h => by cases h)⟩
theorem y_X5_paymentNextDawn : YL 0 yX5_paymentNextDawn cX5_paymentNextDawn 3 (some .int) 2 := ⟨by decide +kernel, tb6 (i := 76) rfl rfl, tb1 (i := 4) rfl rfl, by decide +kernel, fun _ => ⟨tb6 (i := 74) rfl rfl, tb6 (i := 75) rfl rfl⟩, (fun h => by cases h), (fun h => by cases h)⟩
theorem y_X5_placeForMostSleep : YL 0 yX5_placeForMostSleep cX5_placeForMostSleep 7 (some .int) 2 := ⟨by decide +kernel, tb5 (i := 139) rfl rfl, tb1 (i := 4) rfl rfl, by decide +kernel, fun _ => ⟨tb5 (i := 137) rfl rfl, tb5 (i := 138) rfl rfl⟩, (fun h => by cases h), (fun h => by cases h)⟩
theorem y_X5_rateForMostSleep : YL 0 yX5_rateForMostSleep cX5_rateForMostSleep 6 (some .int) 1 := ⟨by decide +kernel, tb4 (i := 186) rfl rfl, tb1 (i := 4) rfl rfl, by decide +kernel, fun _ => ⟨tb4 (i := 184) rfl rfl, tb4 (i := 185) rfl rfl⟩, (fun h => by cases h), (fun h => by cases h)⟩
theorem y_X5_rateWithoutShivers : YL 0 yX5_rateWithoutShivers cX5_rateWithoutShivers 3 (some .int) 1 := ⟨by decide +kernel, tb4 (i := 171) rfl rfl, tb1 (i := 4) rfl rfl, by decide +kernel, fun _ => ⟨tb4 (i := 169) rfl rfl, tb4 (i := 170) rfl rfl⟩, (fun h => by cases h), (fun h => by cases h)⟩
theorem y_X5_shiversToDawn : YL 0 yX5_shiversToDawn cX5_shiversToDawn 3 (some .int) 2 := ⟨by decide +kernel, tb6 (i := 65) rfl rfl, tb1 (i := 4) rfl rfl, by decide +kernel, fun _ => ⟨tb6 (i := 63) rfl rfl, tb6 (i := 64) rfl rfl⟩, (fun h => by cases h), (fun h => by cases h)⟩
theorem y_X5_temperatureIn : YL 0 yX5_temperatureIn cX5_temperatureIn 3 (some .int) 2 := ⟨by decide +kernel, tb6 (i := 53) rfl rfl, tb1 (i := 4) rfl rfl, by decide +kernel, fun _ => ⟨tb6 (i := 51) rfl rfl, tb6 (i := 52) rfl rfl⟩, (fun h => by cases h), (fun h => by cases h)⟩
theorem y_X6_init : YL 2 yX6_init cX6_init 1 none 0 := ⟨by decide +kernel, tb2 (i := 24) rfl rfl, tb1 (i := 8) rfl rfl, by decide +kernel, (fun h => by cases h), (fun h => by cases h), fun _ => ⟨tb2 (i := 23) rfl rfl, rfl⟩⟩
theorem y_X7_hasRoomFor : YL 0 yX7_hasRoomFor cX7_hasRoomFor 2 (some .boolean) 1 := ⟨by decide +kernel, tb2 (i := 121) rfl rfl, tb1 (i := 7) rfl rfl, by decide +kernel, fun _ => ⟨tb2 (i := 119) rfl rfl, tb2 (i := 120) rfl rfl⟩, (fun h => by cases h), (fun h => by cases h)⟩
theorem y_X7_init : YL 2 yX7_init cX7_init 1 none 0 := ⟨by decide +kernel, tb1 (i := 222) rfl rfl, tb1 (i := 7) rfl rfl, by decide +kernel, (fun h => by cases h), (fun h => by cases h), fun _ => ⟨tb1 (i := 221) rfl rfl, rfl⟩⟩
theorem y_X7_isWord : YL 0 yX7_isWord cX7_isWord 3 (some .boolean) 1 := ⟨by decide +kernel, tb2 (i := 153) rfl rfl, tb1 (i := 7) rfl rfl, by decide +kernel, fun _ => ⟨tb2 (i := 151) rfl rfl, tb2 (i := 152) rfl rfl⟩, (fun h => by cases h), (fun h => by cases h)⟩
theorem y_X7_kindOf : YL 1 yX7_kindOf cX7_kindOf 1 (some .int) 1 := ⟨by decide +kernel, tb2 (i := 140) rfl rfl, tb1 (i := 7) rfl rfl, by decide +kernel, (fun h => by cases h), fun _ => tb2 (i := 139) rfl rfl, (fun h => by cases h)⟩
theorem y_X7_put : YL 0 yX7_put cX7_put 2 none 1 := ⟨by decide +kernel, tb2 (i := 117) rfl rfl, tb1 (i := 7) rfl rfl, by decide +kernel, fun _ => ⟨tb2 (i := 115) rfl rfl, tb2 (i := 116) rfl rfl⟩, (fun h => by cases h), (fun h => by cases h)⟩
theorem y_X7_putAll : YL 0 yX7_putAll cX7_putAll 3 none 1 := ⟨by decide +kernel, tb2 (i := 65) rfl rfl, tb1 (i := 7) rfl rfl, by decide +kernel, fun _ => ⟨tb2 (i := 63) rfl rfl, tb2 (i := 64) rfl rfl⟩, (fun h => by cases h), (fun h => by cases h)⟩
theorem y_X7_readFirst : YL 0 yX7_readFirst cX7_readFirst 1 none 0 := ⟨by decide +kernel, tb2 (i := 133) rfl rfl, tb1 (i := 7) rfl rfl, by decide +kernel, fun _ => ⟨tb2 (i := 131) rfl rfl, tb2 (i := 132) rfl rfl⟩, (fun h => by cases h), (fun h => by cases h)⟩
theorem y_X7_readNext : YL 0 yX7_readNext cX7_readNext 1 none 0 := ⟨by decide +kernel, tb2 (i := 137) rfl rfl, tb1 (i := 7) rfl rfl, by decide +kernel, fun _ => ⟨tb2 (i := 135) rfl rfl, tb2 (i := 136) rfl rfl⟩, (fun h => by cases h), (fun h => by cases h)⟩
theorem y_X7_value : YL 0 yX7_value cX7_value 3 (some .int) 0 := ⟨by decide +kernel, tb2 (i := 166) rfl rfl, tb1 (i := 7) rfl rfl, by decide +kernel, fun _ => ⟨tb2 (i := 164) rfl rfl, tb2 (i := 165) rfl rfl⟩, (fun h => by cases h), (fun h => by cases h)⟩
theorem y_X8_act : YL 0 yX8_act cX8_act 4 (some .int) 3 := ⟨by decide +kernel, tb6 (i := 112) rfl rfl, tb1 (i := 1) rfl rfl, by decide +kernel, fun _ => ⟨tb6 (i := 111) rfl rfl, tp3 (i := 15) rfl⟩, (fun h => by cases h), (fun h => by cases h)⟩
theorem y_X8_activity : YL 0 yX8_activity cX8_activity 2 (some .int) 1 := ⟨by decide +kernel, tb5 (i := 225) rfl rfl, tb1 (i := 1) rfl rfl, by decide +kernel, fun _ => ⟨tb5 (i := 223) rfl rfl, tb5 (i := 224) rfl rfl⟩, (fun h => by cases h), (fun h => by cases h)⟩
theorem y_X8_appendText : YL 0 yX8_appendText cX8_appendText 2 (some .int) 1 := ⟨by decide +kernel, tb4 (i := 232) rfl rfl, tb1 (i := 1) rfl rfl, by decide +kernel, fun _ => ⟨tb4 (i := 230) rfl rfl, tb4 (i := 231) rfl rfl⟩, (fun h => by cases h), (fun h => by cases h)⟩
theorem y_X8_auditDifference : YL 0 yX8_auditDifference cX8_auditDifference 1 (some .int) 0 := ⟨by decide +kernel, tb4 (i := 127) rfl rfl, tb1 (i := 1) rfl rfl, by decide +kernel, fun _ => ⟨tb4 (i := 125) rfl rfl, tb4 (i := 126) rfl rfl⟩, (fun h => by cases h), (fun h => by cases h)⟩
theorem y_X8_bestExchange : YL 0 yX8_bestExchange cX8_bestExchange 1 (some .int) 0 := ⟨by decide +kernel, tb4 (i := 100) rfl rfl, tb1 (i := 1) rfl rfl, by decide +kernel, fun _ => ⟨tb4 (i := 98) rfl rfl, tb4 (i := 99) rfl rfl⟩, (fun h => by cases h), (fun h => by cases h)⟩
theorem y_X8_bestPlaceFor : YL 0 yX8_bestPlaceFor cX8_bestPlaceFor 2 (some .int) 1 := ⟨by decide +kernel, tb5 (i := 130) rfl rfl, tb1 (i := 1) rfl rfl, by decide +kernel, fun _ => ⟨tb5 (i := 128) rfl rfl, tb5 (i := 129) rfl rfl⟩, (fun h => by cases h), (fun h => by cases h)⟩
theorem y_X8_bestRate : YL 0 yX8_bestRate cX8_bestRate 1 (some .int) 0 := ⟨by decide +kernel, tb4 (i := 182) rfl rfl, tb1 (i := 1) rfl rfl, by decide +kernel, fun _ => ⟨tb4 (i := 180) rfl rfl, tb4 (i := 181) rfl rfl⟩, (fun h => by cases h), (fun h => by cases h)⟩
theorem y_X8_blanketOf : YL 0 yX8_blanketOf cX8_blanketOf 2 (some .int) 1 := ⟨by decide +kernel, tb5 (i := 211) rfl rfl, tb1 (i := 1) rfl rfl, by decide +kernel, fun _ => ⟨tb5 (i := 209) rfl rfl, tb5 (i := 210) rfl rfl⟩, (fun h => by cases h), (fun h => by cases h)⟩
theorem y_X8_blanketOnPile : YL 0 yX8_blanketOnPile cX8_blanketOnPile 3 (some .int) 1 := ⟨by decide +kernel, tb5 (i := 162) rfl rfl, tb1 (i := 1) rfl rfl, by decide +kernel, fun _ => ⟨tb5 (i := 160) rfl rfl, tb5 (i := 161) rfl rfl⟩, (fun h => by cases h), (fun h => by cases h)⟩
theorem y_X8_bunkOf : YL 0 yX8_bunkOf cX8_bunkOf 2 (some .int) 1 := ⟨by decide +kernel, tb5 (i := 204) rfl rfl, tb1 (i := 1) rfl rfl, by decide +kernel, fun _ => ⟨tb5 (i := 202) rfl rfl, tb5 (i := 203) rfl rfl⟩, (fun h => by cases h), (fun h => by cases h)⟩
theorem y_X8_burnedLogs : YL 0 yX8_burnedLogs cX8_burnedLogs 1 (some .int) 0 := ⟨by decide +kernel, tb4 (i := 115) rfl rfl, tb1 (i := 1) rfl rfl, by decide +kernel, fun _ => ⟨tb4 (i := 113) rfl rfl, tb4 (i := 114) rfl rfl⟩, (fun h => by cases h), (fun h => by cases h)⟩
theorem y_X8_coinsOf : YL 0 yX8_coinsOf cX8_coinsOf 2 (some .int) 1 := ⟨by decide +kernel, tb6 (i := 0) rfl rfl, tb1 (i := 1) rfl rfl, by decide +kernel, fun _ => ⟨tb5 (i := 238) rfl rfl, tb5 (i := 239) rfl rfl⟩, (fun h => by cases h), (fun h => by cases h)⟩
theorem y_X8_coldHikers : YL 0 yX8_coldHikers cX8_coldHikers 1 (some .int) 0 := ⟨by decide +kernel, tb4 (i := 65) rfl rfl, tb1 (i := 1) rfl rfl, by decide +kernel, fun _ => ⟨tb4 (i := 63) rfl rfl, tb4 (i := 64) rfl rfl⟩, (fun h => by cases h), (fun h => by cases h)⟩
theorem y_X8_coldestHiker : YL 0 yX8_coldestHiker cX8_coldestHiker 1 (some .int) 0 := ⟨by decide +kernel, tb4 (i := 70) rfl rfl, tb1 (i := 1) rfl rfl, by decide +kernel, fun _ => ⟨tb4 (i := 68) rfl rfl, tb4 (i := 69) rfl rfl⟩, (fun h => by cases h), (fun h => by cases h)⟩
theorem y_X8_dawnsUntilDebt : YL 0 yX8_dawnsUntilDebt cX8_dawnsUntilDebt 2 (some .int) 1 := ⟨by decide +kernel, tb6 (i := 97) rfl rfl, tb1 (i := 1) rfl rfl, by decide +kernel, fun _ => ⟨tb6 (i := 95) rfl rfl, tb6 (i := 96) rfl rfl⟩, (fun h => by cases h), (fun h => by cases h)⟩
theorem y_X8_debtAfter : YL 0 yX8_debtAfter cX8_debtAfter 3 (some .int) 2 := ⟨by decide +kernel, tb6 (i := 86) rfl rfl, tb1 (i := 1) rfl rfl, by decide +kernel, fun _ => ⟨tb6 (i := 84) rfl rfl, tb6 (i := 85) rfl rfl⟩, (fun h => by cases h), (fun h => by cases h)⟩
theorem y_X8_debtOf : YL 0 yX8_debtOf cX8_debtOf 2 (some .int) 1 := ⟨by decide +kernel, tb6 (i := 7) rfl rfl, tb1 (i := 1) rfl rfl, by decide +kernel, fun _ => ⟨tb6 (i := 5) rfl rfl, tb6 (i := 6) rfl rfl⟩, (fun h => by cases h), (fun h => by cases h)⟩
theorem y_X8_demandBunk : YL 0 yX8_demandBunk cX8_demandBunk 2 none 1 := ⟨by decide +kernel, tb5 (i := 98) rfl rfl, tb1 (i := 1) rfl rfl, by decide +kernel, fun _ => ⟨tb5 (i := 97) rfl rfl, tp3 (i := 11) rfl⟩, (fun h => by cases h), (fun h => by cases h)⟩
theorem y_X8_demandForeseeable : YL 1 yX8_demandForeseeable cX8_demandForeseeable 1 none 1 := ⟨by decide +kernel, tb6 (i := 48) rfl rfl, tb1 (i := 1) rfl rfl, by decide +kernel, (fun h => by cases h), fun _ => tb6 (i := 47) rfl rfl, (fun h => by cases h)⟩
theorem y_X8_demandHiker : YL 0 yX8_demandHiker cX8_demandHiker 2 none 1 := ⟨by decide +kernel, tb5 (i := 134) rfl rfl, tb1 (i := 1) rfl rfl, by decide +kernel, fun _ => ⟨tb5 (i := 133) rfl rfl, tp3 (i := 12) rfl⟩, (fun h => by cases h), (fun h => by cases h)⟩
theorem y_X8_demandSnapshotNumber : YL 1 yX8_demandSnapshotNumber cX8_demandSnapshotNumber 1 none 1 := ⟨by decide +kernel, tb6 (i := 196) rfl rfl, tb1 (i := 1) rfl rfl, by decide +kernel, (fun h => by cases h), fun _ => tb6 (i := 195) rfl rfl, (fun h => by cases h)⟩
theorem y_X8_errorCode : YL 0 yX8_errorCode cX8_errorCode 1 (some .int) 0 := ⟨by decide +kernel, tb3 (i := 225) rfl rfl, tb1 (i := 1) rfl rfl, by decide +kernel, fun _ => ⟨tb3 (i := 223) rfl rfl, tb3 (i := 224) rfl rfl⟩, (fun h => by cases h), (fun h => by cases h)⟩
theorem y_X8_errorPosition : YL 0 yX8_errorPosition cX8_errorPosition 1 (some .int) 0 := ⟨by decide +kernel, tb3 (i := 229) rfl rfl, tb1 (i := 1) rfl rfl, by decide +kernel, fun _ => ⟨tb3 (i := 227) rfl rfl, tb3 (i := 228) rfl rfl⟩, (fun h => by cases h), (fun h => by cases h)⟩
theorem y_X8_fetchLogs : YL 0 yX8_fetchLogs cX8_fetchLogs 2 (some .int) 1 := ⟨by decide +kernel, tb6 (i := 160) rfl rfl, tb1 (i := 1) rfl rfl, by decide +kernel, fun _ => ⟨tb6 (i := 158) rfl rfl, tb6 (i := 159) rfl rfl⟩, (fun h => by cases h), (fun h => by cases h)⟩
theorem y_X8_fewestCold : YL 0 yX8_fewestCold cX8_fewestCold 1 (some .int) 0 := ⟨by decide +kernel, tb4 (i := 78) rfl rfl, tb1 (i := 1) rfl rfl, by decide +kernel, fun _ => ⟨tb4 (i := 76) rfl rfl, tb4 (i := 77) rfl rfl⟩, (fun h => by cases h), (fun h => by cases h)⟩
theorem y_X8_fittingBlanket : YL 0 yX8_fittingBlanket cX8_fittingBlanket 2 (some .int) 1 := ⟨by decide +kernel, tb5 (i := 193) rfl rfl, tb1 (i := 1) rfl rfl, by decide +kernel, fun _ => ⟨tb5 (i := 191) rfl rfl, tb5 (i := 192) rfl rfl⟩, (fun h => by cases h), (fun h => by cases h)⟩
theorem y_X8_getUp : YL 0 yX8_getUp cX8_getUp 2 (some .int) 1 := ⟨by decide +kernel, tb6 (i := 146) rfl rfl, tb1 (i := 1) rfl rfl, by decide +kernel, fun _ => ⟨tb6 (i := 144) rfl rfl, tb6 (i := 145) rfl rfl⟩, (fun h => by cases h), (fun h => by cases h)⟩
theorem y_X8_hikerAtRank : YL 0 yX8_hikerAtRank cX8_hikerAtRank 3 (some .int) 1 := ⟨by decide +kernel, tb6 (i := 14) rfl rfl, tb1 (i := 1) rfl rfl, by decide +kernel, fun _ => ⟨tb6 (i := 12) rfl rfl, tb6 (i := 13) rfl rfl⟩, (fun h => by cases h), (fun h => by cases h)⟩
theorem y_X8_hikerCount : YL 0 yX8_hikerCount cX8_hikerCount 1 (some .int) 0 := ⟨by decide +kernel, tb4 (i := 45) rfl rfl, tb1 (i := 1) rfl rfl, by decide +kernel, fun _ => ⟨tb4 (i := 43) rfl rfl, tb4 (i := 44) rfl rfl⟩, (fun h => by cases h), (fun h => by cases h)⟩
theorem y_X8_hikerIn : YL 0 yX8_hikerIn cX8_hikerIn 2 (some .int) 1 := ⟨by decide +kernel, tb5 (i := 94) rfl rfl, tb1 (i := 1) rfl rfl, by decide +kernel, fun _ => ⟨tb5 (i := 92) rfl rfl, tb5 (i := 93) rfl rfl⟩, (fun h => by cases h), (fun h => by cases h)⟩
theorem y_X8_hikersWithout : YL 0 yX8_hikersWithout cX8_hikersWithout 1 (some .int) 0 := ⟨by decide +kernel, tb4 (i := 60) rfl rfl, tb1 (i := 1) rfl rfl, by decide +kernel, fun _ => ⟨tb4 (i := 58) rfl rfl, tb4 (i := 59) rfl rfl⟩, (fun h => by cases h), (fun h => by cases h)⟩
theorem y_X8_hour : YL 0 yX8_hour cX8_hour 1 (some .int) 0 := ⟨by decide +kernel, tb3 (i := 233) rfl rfl, tb1 (i := 1) rfl rfl, by decide +kernel, fun _ => ⟨tb3 (i := 231) rfl rfl, tb3 (i := 232) rfl rfl⟩, (fun h => by cases h), (fun h => by cases h)⟩
theorem y_X8_hoursOf : YL 0 yX8_hoursOf cX8_hoursOf 3 (some .int) 2 := ⟨by decide +kernel, tb5 (i := 232) rfl rfl, tb1 (i := 1) rfl rfl, by decide +kernel, fun _ => ⟨tb5 (i := 230) rfl rfl, tb5 (i := 231) rfl rfl⟩, (fun h => by cases h), (fun h => by cases h)⟩
theorem y_X8_hoursUntilDawn : YL 0 yX8_hoursUntilDawn cX8_hoursUntilDawn 1 (some .int) 0 := ⟨by decide +kernel, tb3 (i := 237) rfl rfl, tb1 (i := 1) rfl rfl, by decide +kernel, fun _ => ⟨tb3 (i := 235) rfl rfl, tb3 (i := 236) rfl rfl⟩, (fun h => by cases h), (fun h => by cases h)⟩
theorem y_X8_hoursUntilNoLogs : YL 0 yX8_hoursUntilNoLogs cX8_hoursUntilNoLogs 1 (some .int) 0 := ⟨by decide +kernel, tb4 (i := 155) rfl rfl, tb1 (i := 1) rfl rfl, by decide +kernel, fun _ => ⟨tb4 (i := 153) rfl rfl, tb4 (i := 154) rfl rfl⟩, (fun h => by cases h), (fun h => by cases h)⟩
theorem y_X8_hutCoins : YL 0 yX8_hutCoins cX8_hutCoins 1 (some .int) 0 := ⟨by decide +kernel, tb4 (i := 111) rfl rfl, tb1 (i := 1) rfl rfl, by decide +kernel, fun _ => ⟨tb4 (i := 109) rfl rfl, tb4 (i := 110) rfl rfl⟩, (fun h => by cases h), (fun h => by cases h)⟩
theorem y_X8_init : YL 2 yX8_init cX8_init 1 none 0 := ⟨by decide +kernel, tb1 (i := 28) rfl rfl, tb1 (i := 1) rfl rfl, by decide +kernel, (fun h => by cases h), (fun h => by cases h), fun _ => ⟨tb1 (i := 27) rfl rfl, rfl⟩⟩
theorem y_X8_isWithin : YL 1 yX8_isWithin cX8_isWithin 3 (some .boolean) 3 := ⟨by decide +kernel, tb2 (i := 172) rfl rfl, tb1 (i := 1) rfl rfl, by decide +kernel, (fun h => by cases h), fun _ => tb2 (i := 171) rfl rfl, (fun h => by cases h)⟩
theorem y_X8_lieDown : YL 0 yX8_lieDown cX8_lieDown 3 (some .int) 2 := ⟨by decide +kernel, tb6 (i := 139) rfl rfl, tb1 (i := 1) rfl rfl, by decide +kernel, fun _ => ⟨tb6 (i := 137) rfl rfl, tb6 (i := 138) rfl rfl⟩, (fun h => by cases h), (fun h => by cases h)⟩
theorem y_X8_loadSetup : YL 0 yX8_loadSetup cX8_loadSetup 2 (some .int) 0 := ⟨by decide +kernel, tb3 (i := 29) rfl rfl, tb1 (i := 1) rfl rfl, by decide +kernel, fun _ => ⟨tb3 (i := 27) rfl rfl, tb3 (i := 28) rfl rfl⟩, (fun h => by cases h), (fun h => by cases h)⟩
theorem y_X8_logs : YL 0 yX8_logs cX8_logs 1 (some .int) 0 := ⟨by decide +kernel, tb4 (i := 5) rfl rfl, tb1 (i := 1) rfl rfl, by decide +kernel, fun _ => ⟨tb4 (i := 3) rfl rfl, tb4 (i := 4) rfl rfl⟩, (fun h => by cases h), (fun h => by cases h)⟩
theorem y_X8_longestRow : YL 0 yX8_longestRow cX8_longestRow 1 (some .int) 0 := ⟨by decide +kernel, tb4 (i := 26) rfl rfl, tb1 (i := 1) rfl rfl, by decide +kernel, fun _ => ⟨tb4 (i := 24) rfl rfl, tb4 (i := 25) rfl rfl⟩, (fun h => by cases h), (fun h => by cases h)⟩
theorem y_X8_meanWarmth : YL 0 yX8_meanWarmth cX8_meanWarmth 2 (some .double) 0 := ⟨by decide +kernel, tb4 (i := 139) rfl rfl, tb1 (i := 1) rfl rfl, by decide +kernel, fun _ => ⟨tb4 (i := 137) rfl rfl, tb4 (i := 138) rfl rfl⟩, (fun h => by cases h), (fun h => by cases h)⟩
theorem y_X8_newHuts : YL 1 yX8_newHuts cX8_newHuts 3 (some (.array (.object "HutLedger$Hut"))) 1 := ⟨by decide +kernel, tb1 (i := 198) rfl rfl, tb1 (i := 1) rfl rfl, by decide +kernel, (fun h => by cases h), fun _ => tb1 (i := 197) rfl rfl, (fun h => by cases h)⟩
theorem y_X8_noiseIn : YL 0 yX8_noiseIn cX8_noiseIn 2 (some .int) 1 := ⟨by decide +kernel, tb5 (i := 122) rfl rfl, tb1 (i := 1) rfl rfl, by decide +kernel, fun _ => ⟨tb5 (i := 120) rfl rfl, tb5 (i := 121) rfl rfl⟩, (fun h => by cases h), (fun h => by cases h)⟩
theorem y_X8_outputByte : YL 0 yX8_outputByte cX8_outputByte 2 (some .int) 1 := ⟨by decide +kernel, tb4 (i := 223) rfl rfl, tb1 (i := 1) rfl rfl, by decide +kernel, fun _ => ⟨tb4 (i := 221) rfl rfl, tb4 (i := 222) rfl rfl⟩, (fun h => by cases h), (fun h => by cases h)⟩
theorem y_X8_passHours : YL 0 yX8_passHours cX8_passHours 2 (some .int) 1 := ⟨by decide +kernel, tb6 (i := 174) rfl rfl, tb1 (i := 1) rfl rfl, by decide +kernel, fun _ => ⟨tb6 (i := 172) rfl rfl, tb6 (i := 173) rfl rfl⟩, (fun h => by cases h), (fun h => by cases h)⟩
theorem y_X8_payDebt : YL 0 yX8_payDebt cX8_payDebt 3 (some .int) 2 := ⟨by decide +kernel, tb6 (i := 167) rfl rfl, tb1 (i := 1) rfl rfl, by decide +kernel, fun _ => ⟨tb6 (i := 165) rfl rfl, tb6 (i := 166) rfl rfl⟩, (fun h => by cases h), (fun h => by cases h)⟩
theorem y_X8_paymentAtDawn : YL 0 yX8_paymentAtDawn cX8_paymentAtDawn 2 (some .int) 1 := ⟨by decide +kernel, tb6 (i := 72) rfl rfl, tb1 (i := 1) rfl rfl, by decide +kernel, fun _ => ⟨tb6 (i := 70) rfl rfl, tb6 (i := 71) rfl rfl⟩, (fun h => by cases h), (fun h => by cases h)⟩
theorem y_X8_pileSize : YL 0 yX8_pileSize cX8_pileSize 1 (some .int) 0 := ⟨by decide +kernel, tb4 (i := 37) rfl rfl, tb1 (i := 1) rfl rfl, by decide +kernel, fun _ => ⟨tb4 (i := 35) rfl rfl, tb4 (i := 36) rfl rfl⟩, (fun h => by cases h), (fun h => by cases h)⟩
theorem y_X8_quietestBunk : YL 0 yX8_quietestBunk cX8_quietestBunk 1 (some .int) 0 := ⟨by decide +kernel, tb4 (i := 14) rfl rfl, tb1 (i := 1) rfl rfl, by decide +kernel, fun _ => ⟨tb4 (i := 12) rfl rfl, tb4 (i := 13) rfl rfl⟩, (fun h => by cases h), (fun h => by cases h)⟩
theorem y_X8_rateNeeded : YL 0 yX8_rateNeeded cX8_rateNeeded 1 (some .int) 0 := ⟨by decide +kernel, tb4 (i := 167) rfl rfl, tb1 (i := 1) rfl rfl, by decide +kernel, fun _ => ⟨tb4 (i := 165) rfl rfl, tb4 (i := 166) rfl rfl⟩, (fun h => by cases h), (fun h => by cases h)⟩
theorem y_X8_refuse : YL 1 yX8_refuse cX8_refuse 1 none 1 := ⟨by decide +kernel, tb6 (i := 115) rfl rfl, tb1 (i := 1) rfl rfl, by decide +kernel, (fun h => by cases h), fun _ => tb6 (i := 114) rfl rfl, (fun h => by cases h)⟩
theorem y_X8_restoreSnapshot : YL 0 yX8_restoreSnapshot cX8_restoreSnapshot 2 none 1 := ⟨by decide +kernel, tb6 (i := 204) rfl rfl, tb1 (i := 1) rfl rfl, by decide +kernel, fun _ => ⟨tb6 (i := 202) rfl rfl, tb6 (i := 203) rfl rfl⟩, (fun h => by cases h), (fun h => by cases h)⟩
theorem y_X8_returnBlanket : YL 0 yX8_returnBlanket cX8_returnBlanket 2 (some .int) 1 := ⟨by decide +kernel, tb6 (i := 125) rfl rfl, tb1 (i := 1) rfl rfl, by decide +kernel, fun _ => ⟨tb6 (i := 123) rfl rfl, tb6 (i := 124) rfl rfl⟩, (fun h => by cases h), (fun h => by cases h)⟩
theorem y_X8_runScript : YL 0 yX8_runScript cX8_runScript 6 (some .int) 0 := ⟨by decide +kernel, tb3 (i := 49) rfl rfl, tb1 (i := 1) rfl rfl, by decide +kernel, fun _ => ⟨tb3 (i := 47) rfl rfl, tb3 (i := 48) rfl rfl⟩, (fun h => by cases h), (fun h => by cases h)⟩
theorem y_X8_saveSnapshot : YL 0 yX8_saveSnapshot cX8_saveSnapshot 2 none 1 := ⟨by decide +kernel, tb6 (i := 193) rfl rfl, tb1 (i := 1) rfl rfl, by decide +kernel, fun _ => ⟨tb6 (i := 191) rfl rfl, tb6 (i := 192) rfl rfl⟩, (fun h => by cases h), (fun h => by cases h)⟩
theorem y_X8_setRate : YL 0 yX8_setRate cX8_setRate 2 (some .int) 1 := ⟨by decide +kernel, tb6 (i := 153) rfl rfl, tb1 (i := 1) rfl rfl, by decide +kernel, fun _ => ⟨tb6 (i := 151) rfl rfl, tb6 (i := 152) rfl rfl⟩, (fun h => by cases h), (fun h => by cases h)⟩
theorem y_X8_shiversUntilDawn : YL 0 yX8_shiversUntilDawn cX8_shiversUntilDawn 2 (some .int) 1 := ⟨by decide +kernel, tb6 (i := 61) rfl rfl, tb1 (i := 1) rfl rfl, by decide +kernel, fun _ => ⟨tb6 (i := 59) rfl rfl, tb6 (i := 60) rfl rfl⟩, (fun h => by cases h), (fun h => by cases h)⟩
theorem y_X8_sleepShare : YL 0 yX8_sleepShare cX8_sleepShare 2 (some .float) 0 := ⟨by decide +kernel, tb4 (i := 147) rfl rfl, tb1 (i := 1) rfl rfl, by decide +kernel, fun _ => ⟨tb4 (i := 145) rfl rfl, tb4 (i := 146) rfl rfl⟩, (fun h => by cases h), (fun h => by cases h)⟩
theorem y_X8_swapBlankets : YL 0 yX8_swapBlankets cX8_swapBlankets 3 (some .int) 2 := ⟨by decide +kernel, tb6 (i := 132) rfl rfl, tb1 (i := 1) rfl rfl, by decide +kernel, fun _ => ⟨tb6 (i := 130) rfl rfl, tb6 (i := 131) rfl rfl⟩, (fun h => by cases h), (fun h => by cases h)⟩
theorem y_X8_takeBlanket : YL 0 yX8_takeBlanket cX8_takeBlanket 3 (some .int) 2 := ⟨by decide +kernel, tb6 (i := 108) rfl rfl, tb1 (i := 1) rfl rfl, by decide +kernel, fun _ => ⟨tb6 (i := 106) rfl rfl, tb6 (i := 107) rfl rfl⟩, (fun h => by cases h), (fun h => by cases h)⟩
theorem y_X8_temperature : YL 0 yX8_temperature cX8_temperature 1 (some .int) 0 := ⟨by decide +kernel, tb4 (i := 9) rfl rfl, tb1 (i := 1) rfl rfl, by decide +kernel, fun _ => ⟨tb4 (i := 7) rfl rfl, tb4 (i := 8) rfl rfl⟩, (fun h => by cases h), (fun h => by cases h)⟩
theorem y_X8_temperatureAfter : YL 0 yX8_temperatureAfter cX8_temperatureAfter 2 (some .int) 1 := ⟨by decide +kernel, tb6 (i := 45) rfl rfl, tb1 (i := 1) rfl rfl, by decide +kernel, fun _ => ⟨tb6 (i := 43) rfl rfl, tb6 (i := 44) rfl rfl⟩, (fun h => by cases h), (fun h => by cases h)⟩
theorem y_X8_totalDebt : YL 0 yX8_totalDebt cX8_totalDebt 1 (some .int) 0 := ⟨by decide +kernel, tb4 (i := 119) rfl rfl, tb1 (i := 1) rfl rfl, by decide +kernel, fun _ => ⟨tb4 (i := 117) rfl rfl, tb4 (i := 118) rfl rfl⟩, (fun h => by cases h), (fun h => by cases h)⟩
theorem y_X8_truncateText : YL 0 yX8_truncateText cX8_truncateText 2 (some .int) 1 := ⟨by decide +kernel, tb5 (i := 70) rfl rfl, tb1 (i := 1) rfl rfl, by decide +kernel, fun _ => ⟨tb5 (i := 68) rfl rfl, tb5 (i := 69) rfl rfl⟩, (fun h => by cases h), (fun h => by cases h)⟩
theorem y_X8_undo : YL 0 yX8_undo cX8_undo 1 (some .int) 0 := ⟨by decide +kernel, tb6 (i := 181) rfl rfl, tb1 (i := 1) rfl rfl, by decide +kernel, fun _ => ⟨tb6 (i := 179) rfl rfl, tb6 (i := 180) rfl rfl⟩, (fun h => by cases h), (fun h => by cases h)⟩
theorem y_X8_userOf : YL 0 yX8_userOf cX8_userOf 2 (some .int) 1 := ⟨by decide +kernel, tb5 (i := 151) rfl rfl, tb1 (i := 1) rfl rfl, by decide +kernel, fun _ => ⟨tb5 (i := 149) rfl rfl, tb5 (i := 150) rfl rfl⟩, (fun h => by cases h), (fun h => by cases h)⟩
theorem y_X8_warmestBunk : YL 0 yX8_warmestBunk cX8_warmestBunk 2 (some .int) 1 := ⟨by decide +kernel, tb6 (i := 33) rfl rfl, tb1 (i := 1) rfl rfl, by decide +kernel, fun _ => ⟨tb6 (i := 31) rfl rfl, tb6 (i := 32) rfl rfl⟩, (fun h => by cases h), (fun h => by cases h)⟩
theorem y_X8_warmth : YL 0 yX8_warmth cX8_warmth 2 (some .int) 1 := ⟨by decide +kernel, tb5 (i := 218) rfl rfl, tb1 (i := 1) rfl rfl, by decide +kernel, fun _ => ⟨tb5 (i := 216) rfl rfl, tb5 (i := 217) rfl rfl⟩, (fun h => by cases h), (fun h => by cases h)⟩
theorem y_X8_worstSnorer : YL 0 yX8_worstSnorer cX8_worstSnorer 1 (some .int) 0 := ⟨by decide +kernel, tb4 (i := 49) rfl rfl, tb1 (i := 1) rfl rfl, by decide +kernel, fun _ => ⟨tb4 (i := 47) rfl rfl, tb4 (i := 48) rfl rfl⟩, (fun h => by cases h), (fun h => by cases h)⟩
theorem y_X8_writeBunk : YL 0 yX8_writeBunk cX8_writeBunk 4 none 1 := ⟨by decide +kernel, tb4 (i := 202) rfl rfl, tb1 (i := 1) rfl rfl, by decide +kernel, fun _ => ⟨tb4 (i := 201) rfl rfl, tp3 (i := 8) rfl⟩, (fun h => by cases h), (fun h => by cases h)⟩
theorem y_X8_writeBunks : YL 0 yX8_writeBunks cX8_writeBunks 2 (some .int) 0 := ⟨by decide +kernel, tb4 (i := 190) rfl rfl, tb1 (i := 1) rfl rfl, by decide +kernel, fun _ => ⟨tb4 (i := 188) rfl rfl, tb4 (i := 189) rfl rfl⟩, (fun h => by cases h), (fun h => by cases h)⟩
theorem y_X8_writeHiker : YL 0 yX8_writeHiker cX8_writeHiker 3 none 2 := ⟨by decide +kernel, tb4 (i := 219) rfl rfl, tb1 (i := 1) rfl rfl, by decide +kernel, fun _ => ⟨tb4 (i := 218) rfl rfl, tp3 (i := 9) rfl⟩, (fun h => by cases h), (fun h => by cases h)⟩
theorem y_X8_writeLedger : YL 0 yX8_writeLedger cX8_writeLedger 2 (some .int) 0 := ⟨by decide +kernel, tb4 (i := 215) rfl rfl, tb1 (i := 1) rfl rfl, by decide +kernel, fun _ => ⟨tb4 (i := 213) rfl rfl, tb4 (i := 214) rfl rfl⟩, (fun h => by cases h), (fun h => by cases h)⟩
theorem y_X9_activity : YL 0 yX9_activity cX9_activity 2 (some .int) 1 := ⟨by decide +kernel, tb8 (i := 214) rfl rfl, tb1 (i := 15) rfl rfl, by decide +kernel, fun _ => ⟨tb8 (i := 212) rfl rfl, tb8 (i := 213) rfl rfl⟩, (fun h => by cases h), (fun h => by cases h)⟩
theorem y_X9_addHiker : YL 0 yX9_addHiker cX9_addHiker 5 none 3 := ⟨by decide +kernel, tb6 (i := 219) rfl rfl, tb1 (i := 15) rfl rfl, by decide +kernel, fun _ => ⟨tb6 (i := 218) rfl rfl, tp4 (i := 1) rfl⟩, (fun h => by cases h), (fun h => by cases h)⟩
theorem y_X9_addMany : YL 0 yX9_addMany cX9_addMany 7 none 4 := ⟨by decide +kernel, tb6 (i := 215) rfl rfl, tb1 (i := 15) rfl rfl, by decide +kernel, fun _ => ⟨tb6 (i := 214) rfl rfl, tp4 (i := 0) rfl⟩, (fun h => by cases h), (fun h => by cases h)⟩
theorem y_X9_appendText : YL 0 yX9_appendText cX9_appendText 3 (some .int) 1 := ⟨by decide +kernel, tb7 (i := 55) rfl rfl, tb1 (i := 15) rfl rfl, by decide +kernel, fun _ => ⟨tb7 (i := 53) rfl rfl, tb7 (i := 54) rfl rfl⟩, (fun h => by cases h), (fun h => by cases h)⟩
theorem y_X9_auditDifference : YL 0 yX9_auditDifference cX9_auditDifference 3 (some .int) 0 := ⟨by decide +kernel, tb9 (i := 70) rfl rfl, tb1 (i := 15) rfl rfl, by decide +kernel, fun _ => ⟨tb9 (i := 68) rfl rfl, tb9 (i := 69) rfl rfl⟩, (fun h => by cases h), (fun h => by cases h)⟩
theorem y_X9_awakeWithout : YL 0 yX9_awakeWithout cX9_awakeWithout 2 (some .int) 1 := ⟨by decide +kernel, tb9 (i := 6) rfl rfl, tb1 (i := 15) rfl rfl, by decide +kernel, fun _ => ⟨tb9 (i := 5) rfl rfl, tp8 (i := 1) rfl⟩, (fun h => by cases h), (fun h => by cases h)⟩
theorem y_X9_bestExchange : YL 0 yX9_bestExchange cX9_bestExchange 6 (some .int) 0 := ⟨by decide +kernel, tb9 (i := 38) rfl rfl, tb1 (i := 15) rfl rfl, by decide +kernel, fun _ => ⟨tb9 (i := 36) rfl rfl, tb9 (i := 37) rfl rfl⟩, (fun h => by cases h), (fun h => by cases h)⟩
theorem y_X9_bestPlaceFor : YL 0 yX9_bestPlaceFor cX9_bestPlaceFor 6 (some .int) 1 := ⟨by decide +kernel, tb8 (i := 154) rfl rfl, tb1 (i := 15) rfl rfl, by decide +kernel, fun _ => ⟨tb8 (i := 152) rfl rfl, tb8 (i := 153) rfl rfl⟩, (fun h => by cases h), (fun h => by cases h)⟩
theorem y_X9_bestRate : YL 0 yX9_bestRate cX9_bestRate 5 (some .int) 0 := ⟨by decide +kernel, tb9 (i := 146) rfl rfl, tb1 (i := 15) rfl rfl, by decide +kernel, fun _ => ⟨tb9 (i := 144) rfl rfl, tb9 (i := 145) rfl rfl⟩, (fun h => by cases h), (fun h => by cases h)⟩
theorem y_X9_blanketOf : YL 0 yX9_blanketOf cX9_blanketOf 2 (some .int) 1 := ⟨by decide +kernel, tb8 (i := 206) rfl rfl, tb1 (i := 15) rfl rfl, by decide +kernel, fun _ => ⟨tb8 (i := 204) rfl rfl, tb8 (i := 205) rfl rfl⟩, (fun h => by cases h), (fun h => by cases h)⟩
theorem y_X9_blanketOnPile : YL 0 yX9_blanketOnPile cX9_blanketOnPile 3 (some .int) 1 := ⟨by decide +kernel, tb8 (i := 174) rfl rfl, tb1 (i := 15) rfl rfl, by decide +kernel, fun _ => ⟨tb8 (i := 172) rfl rfl, tb8 (i := 173) rfl rfl⟩, (fun h => by cases h), (fun h => by cases h)⟩
theorem y_X9_bunkOf : YL 0 yX9_bunkOf cX9_bunkOf 2 (some .int) 1 := ⟨by decide +kernel, tb8 (i := 198) rfl rfl, tb1 (i := 15) rfl rfl, by decide +kernel, fun _ => ⟨tb8 (i := 196) rfl rfl, tb8 (i := 197) rfl rfl⟩, (fun h => by cases h), (fun h => by cases h)⟩
theorem y_X9_burn : YL 0 yX9_burn cX9_burn 2 none 0 := ⟨by decide +kernel, tb8 (i := 77) rfl rfl, tb1 (i := 15) rfl rfl, by decide +kernel, fun _ => ⟨tb8 (i := 76) rfl rfl, tp7 (i := 0) rfl⟩, (fun h => by cases h), (fun h => by cases h)⟩
theorem y_X9_burnedLogs : YL 0 yX9_burnedLogs cX9_burnedLogs 1 (some .int) 0 := ⟨by decide +kernel, tb9 (i := 58) rfl rfl, tb1 (i := 15) rfl rfl, by decide +kernel, fun _ => ⟨tb9 (i := 56) rfl rfl, tb9 (i := 57) rfl rfl⟩, (fun h => by cases h), (fun h => by cases h)⟩
theorem y_X9_byteAt : YL 0 yX9_byteAt cX9_byteAt 2 (some .int) 1 := ⟨by decide +kernel, tb7 (i := 93) rfl rfl, tb1 (i := 15) rfl rfl, by decide +kernel, fun _ => ⟨tb7 (i := 92) rfl rfl, tp4 (i := 8) rfl⟩, (fun h => by cases h), (fun h => by cases h)⟩
theorem y_X9_change : YL 0 yX9_change cX9_change 5 (some .int) 3 := ⟨by decide +kernel, tb7 (i := 217) rfl rfl, tb1 (i := 15) rfl rfl, by decide +kernel, fun _ => ⟨tb7 (i := 216) rfl rfl, tp5 (i := 15) rfl⟩, (fun h => by cases h), (fun h => by cases h)⟩
theorem y_X9_coinsOf : YL 0 yX9_coinsOf cX9_coinsOf 2 (some .int) 1 := ⟨by decide +kernel, tb8 (i := 222) rfl rfl, tb1 (i := 15) rfl rfl, by decide +kernel, fun _ => ⟨tb8 (i := 220) rfl rfl, tb8 (i := 221) rfl rfl⟩, (fun h => by cases h), (fun h => by cases h)⟩
theorem y_X9_coldBehind : YL 0 yX9_coldBehind cX9_coldBehind 3 (some .int) 2 := ⟨by decide +kernel, tb9 (i := 42) rfl rfl, tb1 (i := 15) rfl rfl, by decide +kernel, fun _ => ⟨tb9 (i := 41) rfl rfl, tp8 (i := 5) rfl⟩, (fun h => by cases h), (fun h => by cases h)⟩
theorem y_X9_coldHikers : YL 0 yX9_coldHikers cX9_coldHikers 1 (some .int) 0 := ⟨by decide +kernel, tb9 (i := 14) rfl rfl, tb1 (i := 15) rfl rfl, by decide +kernel, fun _ => ⟨tb9 (i := 12) rfl rfl, tb9 (i := 13) rfl rfl⟩, (fun h => by cases h), (fun h => by cases h)⟩
theorem y_X9_coldestHiker : YL 0 yX9_coldestHiker cX9_coldestHiker 3 (some .int) 0 := ⟨by decide +kernel, tb9 (i := 18) rfl rfl, tb1 (i := 15) rfl rfl, by decide +kernel, fun _ => ⟨tb9 (i := 16) rfl rfl, tb9 (i := 17) rfl rfl⟩, (fun h => by cases h), (fun h => by cases h)⟩
theorem y_X9_comeBack : YL 0 yX9_comeBack cX9_comeBack 2 (some .int) 1 := ⟨by decide +kernel, tb7 (i := 152) rfl rfl, tb1 (i := 15) rfl rfl, by decide +kernel, fun _ => ⟨tb7 (i := 151) rfl rfl, tp5 (i := 3) rfl⟩, (fun h => by cases h), (fun h => by cases h)⟩
theorem y_X9_commandHere : YL 0 yX9_commandHere cX9_commandHere 1 (some .int) 0 := ⟨by decide +kernel, tb7 (i := 164) rfl rfl, tb1 (i := 15) rfl rfl, by decide +kernel, fun _ => ⟨tb7 (i := 163) rfl rfl, tp5 (i := 5) rfl⟩, (fun h => by cases h), (fun h => by cases h)⟩
theorem y_X9_copy : YL 1 yX9_copy cX9_copy 5 none 4 := ⟨by decide +kernel, tb7 (i := 77) rfl rfl, tb1 (i := 15) rfl rfl, by decide +kernel, (fun h => by cases h), fun _ => tb7 (i := 76) rfl rfl, (fun h => by cases h)⟩
theorem y_X9_countDeed : YL 0 yX9_countDeed cX9_countDeed 4 (some .int) 1 := ⟨by decide +kernel, tb8 (i := 21) rfl rfl, tb1 (i := 15) rfl rfl, by decide +kernel, fun _ => ⟨tb8 (i := 20) rfl rfl, tp6 (i := 8) rfl⟩, (fun h => by cases h), (fun h => by cases h)⟩
theorem y_X9_countPile : YL 0 yX9_countPile cX9_countPile 3 (some .int) 0 := ⟨by decide +kernel, tb8 (i := 186) rfl rfl, tb1 (i := 15) rfl rfl, by decide +kernel, fun _ => ⟨tb8 (i := 185) rfl rfl, tp7 (i := 13) rfl⟩, (fun h => by cases h), (fun h => by cases h)⟩
theorem y_X9_countTwice : YL 0 yX9_countTwice cX9_countTwice 7 (some .int) 2 := ⟨by decide +kernel, tb9 (i := 75) rfl rfl, tb1 (i := 15) rfl rfl, by decide +kernel, fun _ => ⟨tb9 (i := 74) rfl rfl, tp8 (i := 8) rfl⟩, (fun h => by cases h), (fun h => by cases h)⟩
theorem y_X9_countWithout : YL 0 yX9_countWithout cX9_countWithout 3 (some .int) 0 := ⟨by decide +kernel, tb8 (i := 97) rfl rfl, tb1 (i := 15) rfl rfl, by decide +kernel, fun _ => ⟨tb8 (i := 96) rfl rfl, tp7 (i := 5) rfl⟩, (fun h => by cases h), (fun h => by cases h)⟩
theorem y_X9_dawn : YL 0 yX9_dawn cX9_dawn 3 none 0 := ⟨by decide +kernel, tb8 (i := 81) rfl rfl, tb1 (i := 15) rfl rfl, by decide +kernel, fun _ => ⟨tb8 (i := 80) rfl rfl, tp7 (i := 1) rfl⟩, (fun h => by cases h), (fun h => by cases h)⟩
theorem y_X9_dawnsToDebt : YL 0 yX9_dawnsToDebt cX9_dawnsToDebt 3 (some .int) 1 := ⟨by decide +kernel, tb9 (i := 126) rfl rfl, tb1 (i := 15) rfl rfl, by decide +kernel, fun _ => ⟨tb9 (i := 125) rfl rfl, tp8 (i := 13) rfl⟩, (fun h => by cases h), (fun h => by cases h)⟩
theorem y_X9_dawnsUntilDebt : YL 0 yX9_dawnsUntilDebt cX9_dawnsUntilDebt 2 (some .int) 1 := ⟨by decide +kernel, tb9 (i := 122) rfl rfl, tb1 (i := 15) rfl rfl, by decide +kernel, fun _ => ⟨tb9 (i := 120) rfl rfl, tb9 (i := 121) rfl rfl⟩, (fun h => by cases h), (fun h => by cases h)⟩
theorem y_X9_debtAfter : YL 0 yX9_debtAfter cX9_debtAfter 3 (some .int) 2 := ⟨by decide +kernel, tb9 (i := 114) rfl rfl, tb1 (i := 15) rfl rfl, by decide +kernel, fun _ => ⟨tb9 (i := 112) rfl rfl, tb9 (i := 113) rfl rfl⟩, (fun h => by cases h), (fun h => by cases h)⟩
theorem y_X9_debtBehind : YL 0 yX9_debtBehind cX9_debtBehind 3 (some .int) 2 := ⟨by decide +kernel, tb9 (i := 118) rfl rfl, tb1 (i := 15) rfl rfl, by decide +kernel, fun _ => ⟨tb9 (i := 117) rfl rfl, tp8 (i := 12) rfl⟩, (fun h => by cases h), (fun h => by cases h)⟩
theorem y_X9_debtOf : YL 0 yX9_debtOf cX9_debtOf 2 (some .int) 1 := ⟨by decide +kernel, tb8 (i := 226) rfl rfl, tb1 (i := 15) rfl rfl, by decide +kernel, fun _ => ⟨tb8 (i := 224) rfl rfl, tb8 (i := 225) rfl rfl⟩, (fun h => by cases h), (fun h => by cases h)⟩
theorem y_X9_deed : YL 0 yX9_deed cX9_deed 2 (some .int) 1 := ⟨by decide +kernel, tb8 (i := 25) rfl rfl, tb1 (i := 15) rfl rfl, by decide +kernel, fun _ => ⟨tb8 (i := 24) rfl rfl, tp6 (i := 9) rfl⟩, (fun h => by cases h), (fun h => by cases h)⟩
theorem y_X9_dueAtDawn : YL 0 yX9_dueAtDawn cX9_dueAtDawn 2 (some .int) 1 := ⟨by decide +kernel, tb9 (i := 110) rfl rfl, tb1 (i := 15) rfl rfl, by decide +kernel, fun _ => ⟨tb9 (i := 109) rfl rfl, tp8 (i := 11) rfl⟩, (fun h => by cases h), (fun h => by cases h)⟩
theorem y_X9_errorCode : YL 0 yX9_errorCode cX9_errorCode 1 (some .int) 0 := ⟨by decide +kernel, tb8 (i := 105) rfl rfl, tb1 (i := 15) rfl rfl, by decide +kernel, fun _ => ⟨tb8 (i := 103) rfl rfl, tb8 (i := 104) rfl rfl⟩, (fun h => by cases h), (fun h => by cases h)⟩
theorem y_X9_errorPosition : YL 0 yX9_errorPosition cX9_errorPosition 1 (some .int) 0 := ⟨by decide +kernel, tb8 (i := 109) rfl rfl, tb1 (i := 15) rfl rfl, by decide +kernel, fun _ => ⟨tb8 (i := 107) rfl rfl, tb8 (i := 108) rfl rfl⟩, (fun h => by cases h), (fun h => by cases h)⟩
theorem y_X9_exchange : YL 0 yX9_exchange cX9_exchange 4 none 2 := ⟨by decide +kernel, tb8 (i := 17) rfl rfl, tb1 (i := 15) rfl rfl, by decide +kernel, fun _ => ⟨tb8 (i := 16) rfl rfl, tp6 (i := 7) rfl⟩, (fun h => by cases h), (fun h => by cases h)⟩
theorem y_X9_execute : YL 0 yX9_execute cX9_execute 5 (some .boolean) 1 := ⟨by decide +kernel, tb7 (i := 189) rfl rfl, tb1 (i := 15) rfl rfl, by decide +kernel, fun _ => ⟨tb7 (i := 188) rfl rfl, tp5 (i := 9) rfl⟩, (fun h => by cases h), (fun h => by cases h)⟩
theorem y_X9_fail : YL 0 yX9_fail cX9_fail 2 (some .int) 1 := ⟨by decide +kernel, tb7 (i := 59) rfl rfl, tb1 (i := 15) rfl rfl, by decide +kernel, fun _ => ⟨tb7 (i := 58) rfl rfl, tp4 (i := 3) rfl⟩, (fun h => by cases h), (fun h => by cases h)⟩
theorem y_X9_fetchLogs : YL 0 yX9_fetchLogs cX9_fetchLogs 2 (some .int) 1 := ⟨by decide +kernel, tb8 (i := 53) rfl rfl, tb1 (i := 15) rfl rfl, by decide +kernel, fun _ => ⟨tb8 (i := 51) rfl rfl, tb8 (i := 52) rfl rfl⟩, (fun h => by cases h), (fun h => by cases h)⟩
theorem y_X9_fewestCold : YL 0 yX9_fewestCold cX9_fewestCold 4 (some .int) 0 := ⟨by decide +kernel, tb9 (i := 26) rfl rfl, tb1 (i := 15) rfl rfl, by decide +kernel, fun _ => ⟨tb9 (i := 24) rfl rfl, tb9 (i := 25) rfl rfl⟩, (fun h => by cases h), (fun h => by cases h)⟩
theorem y_X9_fittingBlanket : YL 0 yX9_fittingBlanket cX9_fittingBlanket 6 (some .int) 1 := ⟨by decide +kernel, tb8 (i := 190) rfl rfl, tb1 (i := 15) rfl rfl, by decide +kernel, fun _ => ⟨tb8 (i := 188) rfl rfl, tb8 (i := 189) rfl rfl⟩, (fun h => by cases h), (fun h => by cases h)⟩
theorem y_X9_get : YL 0 yX9_get cX9_get 3 (some .int) 2 := ⟨by decide +kernel, tb7 (i := 213) rfl rfl, tb1 (i := 15) rfl rfl, by decide +kernel, fun _ => ⟨tb7 (i := 212) rfl rfl, tp5 (i := 14) rfl⟩, (fun h => by cases h), (fun h => by cases h)⟩
theorem y_X9_getUp : YL 0 yX9_getUp cX9_getUp 2 (some .int) 1 := ⟨by decide +kernel, tb8 (i := 45) rfl rfl, tb1 (i := 15) rfl rfl, by decide +kernel, fun _ => ⟨tb8 (i := 43) rfl rfl, tb8 (i := 44) rfl rfl⟩, (fun h => by cases h), (fun h => by cases h)⟩
theorem y_X9_give : YL 0 yX9_give cX9_give 3 (some .boolean) 1 := ⟨by decide +kernel, tb9 (i := 30) rfl rfl, tb1 (i := 15) rfl rfl, by decide +kernel, fun _ => ⟨tb9 (i := 29) rfl rfl, tp8 (i := 3) rfl⟩, (fun h => by cases h), (fun h => by cases h)⟩
theorem y_X9_goAside : YL 0 yX9_goAside cX9_goAside 1 none 0 := ⟨by decide +kernel, tb7 (i := 74) rfl rfl, tb1 (i := 15) rfl rfl, by decide +kernel, fun _ => ⟨tb7 (i := 73) rfl rfl, tp4 (i := 4) rfl⟩, (fun h => by cases h), (fun h => by cases h)⟩
theorem y_X9_goodness : YL 0 yX9_goodness cX9_goodness 3 (some .int) 2 := ⟨by decide +kernel, tb9 (i := 50) rfl rfl, tb1 (i := 15) rfl rfl, by decide +kernel, fun _ => ⟨tb9 (i := 49) rfl rfl, tp8 (i := 6) rfl⟩, (fun h => by cases h), (fun h => by cases h)⟩
theorem y_X9_growth : YL 0 yX9_growth cX9_growth 5 (some .int) 3 := ⟨by decide +kernel, tb9 (i := 102) rfl rfl, tb1 (i := 15) rfl rfl, by decide +kernel, fun _ => ⟨tb9 (i := 101) rfl rfl, tp8 (i := 10) rfl⟩, (fun h => by cases h), (fun h => by cases h)⟩
theorem y_X9_hikerAtRank : YL 0 yX9_hikerAtRank cX9_hikerAtRank 3 (some .int) 1 := ⟨by decide +kernel, tb8 (i := 230) rfl rfl, tb1 (i := 15) rfl rfl, by decide +kernel, fun _ => ⟨tb8 (i := 228) rfl rfl, tb8 (i := 229) rfl rfl⟩, (fun h => by cases h), (fun h => by cases h)⟩
theorem y_X9_hikerCount : YL 0 yX9_hikerCount cX9_hikerCount 1 (some .int) 0 := ⟨by decide +kernel, tb8 (i := 194) rfl rfl, tb1 (i := 15) rfl rfl, by decide +kernel, fun _ => ⟨tb8 (i := 192) rfl rfl, tb8 (i := 193) rfl rfl⟩, (fun h => by cases h), (fun h => by cases h)⟩
theorem y_X9_hikerIn : YL 0 yX9_hikerIn cX9_hikerIn 2 (some .int) 1 := ⟨by decide +kernel, tb8 (i := 133) rfl rfl, tb1 (i := 15) rfl rfl, by decide +kernel, fun _ => ⟨tb8 (i := 131) rfl rfl, tb8 (i := 132) rfl rfl⟩, (fun h => by cases h), (fun h => by cases h)⟩
theorem y_X9_hikerWith : YL 0 yX9_hikerWith cX9_hikerWith 4 (some .int) 2 := ⟨by decide +kernel, tb7 (i := 209) rfl rfl, tb1 (i := 15) rfl rfl, by decide +kernel, fun _ => ⟨tb7 (i := 208) rfl rfl, tp5 (i := 13) rfl⟩, (fun h => by cases h), (fun h => by cases h)⟩
theorem y_X9_hikersWithout : YL 0 yX9_hikersWithout cX9_hikersWithout 1 (some .int) 0 := ⟨by decide +kernel, tb9 (i := 10) rfl rfl, tb1 (i := 15) rfl rfl, by decide +kernel, fun _ => ⟨tb9 (i := 8) rfl rfl, tb9 (i := 9) rfl rfl⟩, (fun h => by cases h), (fun h => by cases h)⟩
theorem y_X9_hour : YL 0 yX9_hour cX9_hour 1 (some .int) 0 := ⟨by decide +kernel, tb8 (i := 113) rfl rfl, tb1 (i := 15) rfl rfl, by decide +kernel, fun _ => ⟨tb8 (i := 111) rfl rfl, tb8 (i := 112) rfl rfl⟩, (fun h => by cases h), (fun h => by cases h)⟩
theorem y_X9_hoursOf : YL 0 yX9_hoursOf cX9_hoursOf 3 (some .int) 2 := ⟨by decide +kernel, tb8 (i := 218) rfl rfl, tb1 (i := 15) rfl rfl, by decide +kernel, fun _ => ⟨tb8 (i := 216) rfl rfl, tb8 (i := 217) rfl rfl⟩, (fun h => by cases h), (fun h => by cases h)⟩
theorem y_X9_hoursToNoLogs : YL 0 yX9_hoursToNoLogs cX9_hoursToNoLogs 2 (some .int) 0 := ⟨by decide +kernel, tb9 (i := 134) rfl rfl, tb1 (i := 15) rfl rfl, by decide +kernel, fun _ => ⟨tb9 (i := 133) rfl rfl, tp8 (i := 14) rfl⟩, (fun h => by cases h), (fun h => by cases h)⟩
theorem y_X9_hoursUntilDawn : YL 0 yX9_hoursUntilDawn cX9_hoursUntilDawn 1 (some .int) 0 := ⟨by decide +kernel, tb8 (i := 117) rfl rfl, tb1 (i := 15) rfl rfl, by decide +kernel, fun _ => ⟨tb8 (i := 115) rfl rfl, tb8 (i := 116) rfl rfl⟩, (fun h => by cases h), (fun h => by cases h)⟩
theorem y_X9_hoursUntilNoLogs : YL 0 yX9_hoursUntilNoLogs cX9_hoursUntilNoLogs 1 (some .int) 0 := ⟨by decide +kernel, tb9 (i := 130) rfl rfl, tb1 (i := 15) rfl rfl, by decide +kernel, fun _ => ⟨tb9 (i := 128) rfl rfl, tb9 (i := 129) rfl rfl⟩, (fun h => by cases h), (fun h => by cases h)⟩
theorem y_X9_hoursWith : YL 0 yX9_hoursWith cX9_hoursWith 4 (some .int) 2 := ⟨by decide +kernel, tb9 (i := 142) rfl rfl, tb1 (i := 15) rfl rfl, by decide +kernel, fun _ => ⟨tb9 (i := 141) rfl rfl, tp8 (i := 15) rfl⟩, (fun h => by cases h), (fun h => by cases h)⟩
theorem y_X9_hutCoins : YL 0 yX9_hutCoins cX9_hutCoins 1 (some .int) 0 := ⟨by decide +kernel, tb9 (i := 54) rfl rfl, tb1 (i := 15) rfl rfl, by decide +kernel, fun _ => ⟨tb9 (i := 52) rfl rfl, tb9 (i := 53) rfl rfl⟩, (fun h => by cases h), (fun h => by cases h)⟩
theorem y_X9_inBunk : YL 0 yX9_inBunk cX9_inBunk 2 (some .int) 1 := ⟨by decide +kernel, tb7 (i := 237) rfl rfl, tb1 (i := 15) rfl rfl, by decide +kernel, fun _ => ⟨tb7 (i := 236) rfl rfl, tp6 (i := 4) rfl⟩, (fun h => by cases h), (fun h => by cases h)⟩
theorem y_X9_increase : YL 0 yX9_increase cX9_increase 4 none 3 := ⟨by decide +kernel, tb8 (i := 61) rfl rfl, tb1 (i := 15) rfl rfl, by decide +kernel, fun _ => ⟨tb8 (i := 60) rfl rfl, tp6 (i := 13) rfl⟩, (fun h => by cases h), (fun h => by cases h)⟩
theorem y_X9_init : YL 2 yX9_init cX9_init 1 none 0 := ⟨by decide +kernel, tb6 (i := 210) rfl rfl, tb1 (i := 15) rfl rfl, by decide +kernel, (fun h => by cases h), (fun h => by cases h), fun _ => ⟨tb6 (i := 209) rfl rfl, rfl⟩⟩
theorem y_X9_inside : YL 0 yX9_inside cX9_inside 1 (some .int) 0 := ⟨by decide +kernel, tb7 (i := 233) rfl rfl, tb1 (i := 15) rfl rfl, by decide +kernel, fun _ => ⟨tb7 (i := 232) rfl rfl, tp6 (i := 3) rfl⟩, (fun h => by cases h), (fun h => by cases h)⟩
theorem y_X9_insideBehind : YL 0 yX9_insideBehind cX9_insideBehind 2 (some .int) 1 := ⟨by decide +kernel, tb9 (i := 94) rfl rfl, tb1 (i := 15) rfl rfl, by decide +kernel, fun _ => ⟨tb9 (i := 93) rfl rfl, tp8 (i := 9) rfl⟩, (fun h => by cases h), (fun h => by cases h)⟩
theorem y_X9_isAhead : YL 0 yX9_isAhead cX9_isAhead 4 (some .boolean) 2 := ⟨by decide +kernel, tb8 (i := 238) rfl rfl, tb1 (i := 15) rfl rfl, by decide +kernel, fun _ => ⟨tb8 (i := 237) rfl rfl, tp8 (i := 0) rfl⟩, (fun h => by cases h), (fun h => by cases h)⟩
theorem y_X9_isAheadOfNow : YL 1 yX9_isAheadOfNow cX9_isAheadOfNow 1 (some .boolean) 1 := ⟨by decide +kernel, tb9 (i := 90) rfl rfl, tb1 (i := 15) rfl rfl, by decide +kernel, (fun h => by cases h), fun _ => tb9 (i := 89) rfl rfl, (fun h => by cases h)⟩
theorem y_X9_isBetween : YL 1 yX9_isBetween cX9_isBetween 3 (some .boolean) 3 := ⟨by decide +kernel, tb7 (i := 66) rfl rfl, tb1 (i := 15) rfl rfl, by decide +kernel, (fun h => by cases h), fun _ => tb7 (i := 65) rfl rfl, (fun h => by cases h)⟩
theorem y_X9_isBlanket : YL 0 yX9_isBlanket cX9_isBlanket 2 (some .boolean) 1 := ⟨by decide +kernel, tb7 (i := 201) rfl rfl, tb1 (i := 15) rfl rfl, by decide +kernel, fun _ => ⟨tb7 (i := 200) rfl rfl, tp5 (i := 11) rfl⟩, (fun h => by cases h), (fun h => by cases h)⟩
theorem y_X9_isBunk : YL 0 yX9_isBunk cX9_isBunk 2 (some .boolean) 1 := ⟨by decide +kernel, tb8 (i := 1) rfl rfl, tb1 (i := 15) rfl rfl, by decide +kernel, fun _ => ⟨tb8 (i := 0) rfl rfl, tp6 (i := 5) rfl⟩, (fun h => by cases h), (fun h => by cases h)⟩
theorem y_X9_isCold : YL 0 yX9_isCold cX9_isCold 2 (some .boolean) 1 := ⟨by decide +kernel, tb8 (i := 29) rfl rfl, tb1 (i := 15) rfl rfl, by decide +kernel, fun _ => ⟨tb8 (i := 28) rfl rfl, tp6 (i := 10) rfl⟩, (fun h => by cases h), (fun h => by cases h)⟩
theorem y_X9_isDigit : YL 1 yX9_isDigit cX9_isDigit 1 (some .boolean) 1 := ⟨by decide +kernel, tb7 (i := 99) rfl rfl, tb1 (i := 15) rfl rfl, by decide +kernel, (fun h => by cases h), fun _ => tb7 (i := 98) rfl rfl, (fun h => by cases h)⟩
theorem y_X9_isFine : YL 0 yX9_isFine cX9_isFine 1 (some .boolean) 0 := ⟨by decide +kernel, tb7 (i := 89) rfl rfl, tb1 (i := 15) rfl rfl, by decide +kernel, fun _ => ⟨tb7 (i := 88) rfl rfl, tp4 (i := 7) rfl⟩, (fun h => by cases h), (fun h => by cases h)⟩
theorem y_X9_isFreeFor : YL 0 yX9_isFreeFor cX9_isFreeFor 3 (some .boolean) 2 := ⟨by decide +kernel, tb8 (i := 166) rfl rfl, tb1 (i := 15) rfl rfl, by decide +kernel, fun _ => ⟨tb8 (i := 165) rfl rfl, tp7 (i := 11) rfl⟩, (fun h => by cases h), (fun h => by cases h)⟩
theorem y_X9_isHiker : YL 0 yX9_isHiker cX9_isHiker 2 (some .boolean) 1 := ⟨by decide +kernel, tb7 (i := 197) rfl rfl, tb1 (i := 15) rfl rfl, by decide +kernel, fun _ => ⟨tb7 (i := 196) rfl rfl, tp5 (i := 10) rfl⟩, (fun h => by cases h), (fun h => by cases h)⟩
theorem y_X9_isLetter : YL 1 yX9_isLetter cX9_isLetter 1 (some .boolean) 1 := ⟨by decide +kernel, tb7 (i := 96) rfl rfl, tb1 (i := 15) rfl rfl, by decide +kernel, (fun h => by cases h), fun _ => tb7 (i := 95) rfl rfl, (fun h => by cases h)⟩
theorem y_X9_isOnPile : YL 0 yX9_isOnPile cX9_isOnPile 2 (some .boolean) 1 := ⟨by decide +kernel, tb7 (i := 205) rfl rfl, tb1 (i := 15) rfl rfl, by decide +kernel, fun _ => ⟨tb7 (i := 204) rfl rfl, tp5 (i := 12) rfl⟩, (fun h => by cases h), (fun h => by cases h)⟩
theorem y_X9_isQuieter : YL 0 yX9_isQuieter cX9_isQuieter 4 (some .boolean) 2 := ⟨by decide +kernel, tb8 (i := 145) rfl rfl, tb1 (i := 15) rfl rfl, by decide +kernel, fun _ => ⟨tb8 (i := 144) rfl rfl, tp7 (i := 8) rfl⟩, (fun h => by cases h), (fun h => by cases h)⟩
theorem y_X9_isWord : YL 0 yX9_isWord cX9_isWord 3 (some .boolean) 1 := ⟨by decide +kernel, tb7 (i := 114) rfl rfl, tb1 (i := 15) rfl rfl, by decide +kernel, fun _ => ⟨tb7 (i := 113) rfl rfl, tp4 (i := 11) rfl⟩, (fun h => by cases h), (fun h => by cases h)⟩
theorem y_X9_lieDown : YL 0 yX9_lieDown cX9_lieDown 4 (some .int) 2 := ⟨by decide +kernel, tb8 (i := 41) rfl rfl, tb1 (i := 15) rfl rfl, by decide +kernel, fun _ => ⟨tb8 (i := 39) rfl rfl, tb8 (i := 40) rfl rfl⟩, (fun h => by cases h), (fun h => by cases h)⟩
theorem y_X9_loadSetup : YL 0 yX9_loadSetup cX9_loadSetup 2 (some .int) 0 := ⟨by decide +kernel, tb7 (i := 70) rfl rfl, tb1 (i := 15) rfl rfl, by decide +kernel, fun _ => ⟨tb7 (i := 68) rfl rfl, tb7 (i := 69) rfl rfl⟩, (fun h => by cases h), (fun h => by cases h)⟩
theorem y_X9_logs : YL 0 yX9_logs cX9_logs 1 (some .int) 0 := ⟨by decide +kernel, tb8 (i := 125) rfl rfl, tb1 (i := 15) rfl rfl, by decide +kernel, fun _ => ⟨tb8 (i := 123) rfl rfl, tb8 (i := 124) rfl rfl⟩, (fun h => by cases h), (fun h => by cases h)⟩
theorem y_X9_longestRow : YL 0 yX9_longestRow cX9_longestRow 4 (some .int) 0 := ⟨by decide +kernel, tb8 (i := 149) rfl rfl, tb1 (i := 15) rfl rfl, by decide +kernel, fun _ => ⟨tb8 (i := 147) rfl rfl, tb8 (i := 148) rfl rfl⟩, (fun h => by cases h), (fun h => by cases h)⟩
theorem y_X9_meanWarmth : YL 0 yX9_meanWarmth cX9_meanWarmth 3 (some .double) 0 := ⟨by decide +kernel, tb9 (i := 79) rfl rfl, tb1 (i := 15) rfl rfl, by decide +kernel, fun _ => ⟨tb9 (i := 77) rfl rfl, tb9 (i := 78) rfl rfl⟩, (fun h => by cases h), (fun h => by cases h)⟩
theorem y_X9_missing : YL 0 yX9_missing cX9_missing 2 (some .int) 1 := ⟨by decide +kernel, tb9 (i := 22) rfl rfl, tb1 (i := 15) rfl rfl, by decide +kernel, fun _ => ⟨tb9 (i := 21) rfl rfl, tp8 (i := 2) rfl⟩, (fun h => by cases h), (fun h => by cases h)⟩
theorem y_X9_noise : YL 0 yX9_noise cX9_noise 2 (some .int) 1 := ⟨by decide +kernel, tb8 (i := 33) rfl rfl, tb1 (i := 15) rfl rfl, by decide +kernel, fun _ => ⟨tb8 (i := 32) rfl rfl, tp6 (i := 11) rfl⟩, (fun h => by cases h), (fun h => by cases h)⟩
theorem y_X9_noiseIn : YL 0 yX9_noiseIn cX9_noiseIn 2 (some .int) 1 := ⟨by decide +kernel, tb8 (i := 137) rfl rfl, tb1 (i := 15) rfl rfl, by decide +kernel, fun _ => ⟨tb8 (i := 135) rfl rfl, tb8 (i := 136) rfl rfl⟩, (fun h => by cases h), (fun h => by cases h)⟩
theorem y_X9_outputByte : YL 0 yX9_outputByte cX9_outputByte 2 (some .int) 1 := ⟨by decide +kernel, tb9 (i := 183) rfl rfl, tb1 (i := 15) rfl rfl, by decide +kernel, fun _ => ⟨tb9 (i := 181) rfl rfl, tb9 (i := 182) rfl rfl⟩, (fun h => by cases h), (fun h => by cases h)⟩
theorem y_X9_parseCommand : YL 0 yX9_parseCommand cX9_parseCommand 5 none 0 := ⟨by decide +kernel, tb7 (i := 160) rfl rfl, tb1 (i := 15) rfl rfl, by decide +kernel, fun _ => ⟨tb7 (i := 159) rfl rfl, tp5 (i := 4) rfl⟩, (fun h => by cases h), (fun h => by cases h)⟩
theorem y_X9_parseEnd : YL 0 yX9_parseEnd cX9_parseEnd 1 none 0 := ⟨by decide +kernel, tb7 (i := 132) rfl rfl, tb1 (i := 15) rfl rfl, by decide +kernel, fun _ => ⟨tb7 (i := 131) rfl rfl, tp4 (i := 15) rfl⟩, (fun h => by cases h), (fun h => by cases h)⟩
theorem y_X9_parseFirst : YL 0 yX9_parseFirst cX9_parseFirst 2 (some .int) 1 := ⟨by decide +kernel, tb7 (i := 181) rfl rfl, tb1 (i := 15) rfl rfl, by decide +kernel, fun _ => ⟨tb7 (i := 180) rfl rfl, tp5 (i := 7) rfl⟩, (fun h => by cases h), (fun h => by cases h)⟩
theorem y_X9_parseHiker : YL 0 yX9_parseHiker cX9_parseHiker 4 none 0 := ⟨by decide +kernel, tb7 (i := 147) rfl rfl, tb1 (i := 15) rfl rfl, by decide +kernel, fun _ => ⟨tb7 (i := 146) rfl rfl, tp5 (i := 2) rfl⟩, (fun h => by cases h), (fun h => by cases h)⟩
theorem y_X9_parseHut : YL 0 yX9_parseHut cX9_parseHut 1 none 0 := ⟨by decide +kernel, tb7 (i := 105) rfl rfl, tb1 (i := 15) rfl rfl, by decide +kernel, fun _ => ⟨tb7 (i := 104) rfl rfl, tp4 (i := 9) rfl⟩, (fun h => by cases h), (fun h => by cases h)⟩
theorem y_X9_parseNumber : YL 0 yX9_parseNumber cX9_parseNumber 4 (some .int) 2 := ⟨by decide +kernel, tb7 (i := 128) rfl rfl, tb1 (i := 15) rfl rfl, by decide +kernel, fun _ => ⟨tb7 (i := 127) rfl rfl, tp4 (i := 14) rfl⟩, (fun h => by cases h), (fun h => by cases h)⟩
theorem y_X9_parseOneOf : YL 0 yX9_parseOneOf cX9_parseOneOf 5 none 4 := ⟨by decide +kernel, tb7 (i := 141) rfl rfl, tb1 (i := 15) rfl rfl, by decide +kernel, fun _ => ⟨tb7 (i := 140) rfl rfl, tp5 (i := 1) rfl⟩, (fun h => by cases h), (fun h => by cases h)⟩
theorem y_X9_parseRange : YL 0 yX9_parseRange cX9_parseRange 3 (some .int) 2 := ⟨by decide +kernel, tb7 (i := 124) rfl rfl, tb1 (i := 15) rfl rfl, by decide +kernel, fun _ => ⟨tb7 (i := 123) rfl rfl, tp4 (i := 13) rfl⟩, (fun h => by cases h), (fun h => by cases h)⟩
theorem y_X9_parseRow : YL 0 yX9_parseRow cX9_parseRow 6 none 5 := ⟨by decide +kernel, tb7 (i := 137) rfl rfl, tb1 (i := 15) rfl rfl, by decide +kernel, fun _ => ⟨tb7 (i := 136) rfl rfl, tp5 (i := 0) rfl⟩, (fun h => by cases h), (fun h => by cases h)⟩
theorem y_X9_parseSecond : YL 0 yX9_parseSecond cX9_parseSecond 2 (some .int) 1 := ⟨by decide +kernel, tb7 (i := 185) rfl rfl, tb1 (i := 15) rfl rfl, by decide +kernel, fun _ => ⟨tb7 (i := 184) rfl rfl, tp5 (i := 8) rfl⟩, (fun h => by cases h), (fun h => by cases h)⟩
theorem y_X9_parseWord : YL 0 yX9_parseWord cX9_parseWord 2 none 1 := ⟨by decide +kernel, tb7 (i := 110) rfl rfl, tb1 (i := 15) rfl rfl, by decide +kernel, fun _ => ⟨tb7 (i := 109) rfl rfl, tp4 (i := 10) rfl⟩, (fun h => by cases h), (fun h => by cases h)⟩
theorem y_X9_passHour : YL 0 yX9_passHour cX9_passHour 2 none 0 := ⟨by decide +kernel, tb8 (i := 73) rfl rfl, tb1 (i := 15) rfl rfl, by decide +kernel, fun _ => ⟨tb8 (i := 72) rfl rfl, tp6 (i := 15) rfl⟩, (fun h => by cases h), (fun h => by cases h)⟩
theorem y_X9_passHours : YL 0 yX9_passHours cX9_passHours 3 (some .int) 1 := ⟨by decide +kernel, tb8 (i := 65) rfl rfl, tb1 (i := 15) rfl rfl, by decide +kernel, fun _ => ⟨tb8 (i := 63) rfl rfl, tb8 (i := 64) rfl rfl⟩, (fun h => by cases h), (fun h => by cases h)⟩
theorem y_X9_passMany : YL 0 yX9_passMany cX9_passMany 3 none 1 := ⟨by decide +kernel, tb8 (i := 69) rfl rfl, tb1 (i := 15) rfl rfl, by decide +kernel, fun _ => ⟨tb8 (i := 68) rfl rfl, tp6 (i := 14) rfl⟩, (fun h => by cases h), (fun h => by cases h)⟩
theorem y_X9_pay : YL 0 yX9_pay cX9_pay 4 (some .int) 2 := ⟨by decide +kernel, tb8 (i := 85) rfl rfl, tb1 (i := 15) rfl rfl, by decide +kernel, fun _ => ⟨tb8 (i := 84) rfl rfl, tp7 (i := 2) rfl⟩, (fun h => by cases h), (fun h => by cases h)⟩
theorem y_X9_payDebt : YL 0 yX9_payDebt cX9_payDebt 3 (some .int) 2 := ⟨by decide +kernel, tb8 (i := 57) rfl rfl, tb1 (i := 15) rfl rfl, by decide +kernel, fun _ => ⟨tb8 (i := 55) rfl rfl, tb8 (i := 56) rfl rfl⟩, (fun h => by cases h), (fun h => by cases h)⟩
theorem y_X9_payLogs : YL 0 yX9_payLogs cX9_payLogs 4 none 0 := ⟨by decide +kernel, tb8 (i := 89) rfl rfl, tb1 (i := 15) rfl rfl, by decide +kernel, fun _ => ⟨tb8 (i := 88) rfl rfl, tp7 (i := 3) rfl⟩, (fun h => by cases h), (fun h => by cases h)⟩
theorem y_X9_paymentAtDawn : YL 0 yX9_paymentAtDawn cX9_paymentAtDawn 2 (some .int) 1 := ⟨by decide +kernel, tb9 (i := 106) rfl rfl, tb1 (i := 15) rfl rfl, by decide +kernel, fun _ => ⟨tb9 (i := 104) rfl rfl, tb9 (i := 105) rfl rfl⟩, (fun h => by cases h), (fun h => by cases h)⟩
theorem y_X9_pileSize : YL 0 yX9_pileSize cX9_pileSize 1 (some .int) 0 := ⟨by decide +kernel, tb8 (i := 182) rfl rfl, tb1 (i := 15) rfl rfl, by decide +kernel, fun _ => ⟨tb8 (i := 180) rfl rfl, tb8 (i := 181) rfl rfl⟩, (fun h => by cases h), (fun h => by cases h)⟩
theorem y_X9_proceed : YL 0 yX9_proceed cX9_proceed 2 none 0 := ⟨by decide +kernel, tb7 (i := 85) rfl rfl, tb1 (i := 15) rfl rfl, by decide +kernel, fun _ => ⟨tb7 (i := 84) rfl rfl, tp4 (i := 6) rfl⟩, (fun h => by cases h), (fun h => by cases h)⟩
theorem y_X9_quietestBunk : YL 0 yX9_quietestBunk cX9_quietestBunk 3 (some .int) 0 := ⟨by decide +kernel, tb8 (i := 141) rfl rfl, tb1 (i := 15) rfl rfl, by decide +kernel, fun _ => ⟨tb8 (i := 139) rfl rfl, tb8 (i := 140) rfl rfl⟩, (fun h => by cases h), (fun h => by cases h)⟩
theorem y_X9_rankOf : YL 0 yX9_rankOf cX9_rankOf 4 (some .int) 1 := ⟨by decide +kernel, tb8 (i := 234) rfl rfl, tb1 (i := 15) rfl rfl, by decide +kernel, fun _ => ⟨tb8 (i := 233) rfl rfl, tp7 (i := 15) rfl⟩, (fun h => by cases h), (fun h => by cases h)⟩
theorem y_X9_rankOnPile : YL 0 yX9_rankOnPile cX9_rankOnPile 5 (some .int) 1 := ⟨by decide +kernel, tb8 (i := 178) rfl rfl, tb1 (i := 15) rfl rfl, by decide +kernel, fun _ => ⟨tb8 (i := 177) rfl rfl, tp7 (i := 12) rfl⟩, (fun h => by cases h), (fun h => by cases h)⟩
theorem y_X9_rareCommandHere : YL 0 yX9_rareCommandHere cX9_rareCommandHere 1 (some .int) 0 := ⟨by decide +kernel, tb7 (i := 173) rfl rfl, tb1 (i := 15) rfl rfl, by decide +kernel, fun _ => ⟨tb7 (i := 172) rfl rfl, tp5 (i := 6) rfl⟩, (fun h => by cases h), (fun h => by cases h)⟩
theorem y_X9_rateNeeded : YL 0 yX9_rateNeeded cX9_rateNeeded 2 (some .int) 0 := ⟨by decide +kernel, tb9 (i := 138) rfl rfl, tb1 (i := 15) rfl rfl, by decide +kernel, fun _ => ⟨tb9 (i := 136) rfl rfl, tb9 (i := 137) rfl rfl⟩, (fun h => by cases h), (fun h => by cases h)⟩
theorem y_X9_record : YL 0 yX9_record cX9_record 2 none 0 := ⟨by decide +kernel, tb7 (i := 221) rfl rfl, tb1 (i := 15) rfl rfl, by decide +kernel, fun _ => ⟨tb7 (i := 220) rfl rfl, tp6 (i := 0) rfl⟩, (fun h => by cases h), (fun h => by cases h)⟩
theorem y_X9_require : YL 0 yX9_require cX9_require 3 none 2 := ⟨by decide +kernel, tb7 (i := 120) rfl rfl, tb1 (i := 15) rfl rfl, by decide +kernel, fun _ => ⟨tb7 (i := 119) rfl rfl, tp4 (i := 12) rfl⟩, (fun h => by cases h), (fun h => by cases h)⟩
theorem y_X9_restoreSnapshot : YL 0 yX9_restoreSnapshot cX9_restoreSnapshot 2 none 1 := ⟨by decide +kernel, tb9 (i := 195) rfl rfl, tb1 (i := 15) rfl rfl, by decide +kernel, fun _ => ⟨tb9 (i := 193) rfl rfl, tb9 (i := 194) rfl rfl⟩, (fun h => by cases h), (fun h => by cases h)⟩
theorem y_X9_returnBlanket : YL 0 yX9_returnBlanket cX9_returnBlanket 2 (some .int) 1 := ⟨by decide +kernel, tb8 (i := 9) rfl rfl, tb1 (i := 15) rfl rfl, by decide +kernel, fun _ => ⟨tb8 (i := 7) rfl rfl, tb8 (i := 8) rfl rfl⟩, (fun h => by cases h), (fun h => by cases h)⟩
theorem y_X9_runScript : YL 0 yX9_runScript cX9_runScript 2 (some .int) 0 := ⟨by decide +kernel, tb7 (i := 156) rfl rfl, tb1 (i := 15) rfl rfl, by decide +kernel, fun _ => ⟨tb7 (i := 154) rfl rfl, tb7 (i := 155) rfl rfl⟩, (fun h => by cases h), (fun h => by cases h)⟩
theorem y_X9_saveSnapshot : YL 0 yX9_saveSnapshot cX9_saveSnapshot 2 none 1 := ⟨by decide +kernel, tb9 (i := 191) rfl rfl, tb1 (i := 15) rfl rfl, by decide +kernel, fun _ => ⟨tb9 (i := 189) rfl rfl, tb9 (i := 190) rfl rfl⟩, (fun h => by cases h), (fun h => by cases h)⟩
theorem y_X9_set : YL 0 yX9_set cX9_set 4 none 3 := ⟨by decide +kernel, tb6 (i := 223) rfl rfl, tb1 (i := 15) rfl rfl, by decide +kernel, fun _ => ⟨tb6 (i := 222) rfl rfl, tp4 (i := 2) rfl⟩, (fun h => by cases h), (fun h => by cases h)⟩
theorem y_X9_setRate : YL 0 yX9_setRate cX9_setRate 3 (some .int) 1 := ⟨by decide +kernel, tb8 (i := 49) rfl rfl, tb1 (i := 15) rfl rfl, by decide +kernel, fun _ => ⟨tb8 (i := 47) rfl rfl, tb8 (i := 48) rfl rfl⟩, (fun h => by cases h), (fun h => by cases h)⟩
theorem y_X9_share : YL 0 yX9_share cX9_share 5 none 1 := ⟨by decide +kernel, tb8 (i := 93) rfl rfl, tb1 (i := 15) rfl rfl, by decide +kernel, fun _ => ⟨tb8 (i := 92) rfl rfl, tp7 (i := 4) rfl⟩, (fun h => by cases h), (fun h => by cases h)⟩
theorem y_X9_shiversUntilDawn : YL 0 yX9_shiversUntilDawn cX9_shiversUntilDawn 2 (some .int) 1 := ⟨by decide +kernel, tb9 (i := 98) rfl rfl, tb1 (i := 15) rfl rfl, by decide +kernel, fun _ => ⟨tb9 (i := 96) rfl rfl, tb9 (i := 97) rfl rfl⟩, (fun h => by cases h), (fun h => by cases h)⟩
theorem y_X9_sleepShare : YL 0 yX9_sleepShare cX9_sleepShare 2 (some .float) 0 := ⟨by decide +kernel, tb9 (i := 83) rfl rfl, tb1 (i := 15) rfl rfl, by decide +kernel, fun _ => ⟨tb9 (i := 81) rfl rfl, tb9 (i := 82) rfl rfl⟩, (fun h => by cases h), (fun h => by cases h)⟩
theorem y_X9_sleepersIf : YL 0 yX9_sleepersIf cX9_sleepersIf 3 (some .int) 2 := ⟨by decide +kernel, tb8 (i := 158) rfl rfl, tb1 (i := 15) rfl rfl, by decide +kernel, fun _ => ⟨tb8 (i := 157) rfl rfl, tp7 (i := 9) rfl⟩, (fun h => by cases h), (fun h => by cases h)⟩
theorem y_X9_sleepersWith : YL 0 yX9_sleepersWith cX9_sleepersWith 3 (some .int) 2 := ⟨by decide +kernel, tb8 (i := 162) rfl rfl, tb1 (i := 15) rfl rfl, by decide +kernel, fun _ => ⟨tb8 (i := 161) rfl rfl, tp7 (i := 10) rfl⟩, (fun h => by cases h), (fun h => by cases h)⟩
theorem y_X9_snoreIn : YL 0 yX9_snoreIn cX9_snoreIn 3 (some .int) 1 := ⟨by decide +kernel, tb8 (i := 37) rfl rfl, tb1 (i := 15) rfl rfl, by decide +kernel, fun _ => ⟨tb8 (i := 36) rfl rfl, tp6 (i := 12) rfl⟩, (fun h => by cases h), (fun h => by cases h)⟩
theorem y_X9_startText : YL 0 yX9_startText cX9_startText 1 none 0 := ⟨by decide +kernel, tb7 (i := 81) rfl rfl, tb1 (i := 15) rfl rfl, by decide +kernel, fun _ => ⟨tb7 (i := 80) rfl rfl, tp4 (i := 5) rfl⟩, (fun h => by cases h), (fun h => by cases h)⟩
theorem y_X9_sumOf : YL 0 yX9_sumOf cX9_sumOf 4 (some .int) 1 := ⟨by decide +kernel, tb9 (i := 66) rfl rfl, tb1 (i := 15) rfl rfl, by decide +kernel, fun _ => ⟨tb9 (i := 65) rfl rfl, tp8 (i := 7) rfl⟩, (fun h => by cases h), (fun h => by cases h)⟩
theorem y_X9_swapBlankets : YL 0 yX9_swapBlankets cX9_swapBlankets 3 (some .int) 2 := ⟨by decide +kernel, tb8 (i := 13) rfl rfl, tb1 (i := 15) rfl rfl, by decide +kernel, fun _ => ⟨tb8 (i := 11) rfl rfl, tb8 (i := 12) rfl rfl⟩, (fun h => by cases h), (fun h => by cases h)⟩
theorem y_X9_takeBlanket : YL 0 yX9_takeBlanket cX9_takeBlanket 4 (some .int) 2 := ⟨by decide +kernel, tb7 (i := 193) rfl rfl, tb1 (i := 15) rfl rfl, by decide +kernel, fun _ => ⟨tb7 (i := 191) rfl rfl, tb7 (i := 192) rfl rfl⟩, (fun h => by cases h), (fun h => by cases h)⟩
theorem y_X9_tell : YL 0 yX9_tell cX9_tell 2 (some .int) 1 := ⟨by decide +kernel, tb8 (i := 101) rfl rfl, tb1 (i := 15) rfl rfl, by decide +kernel, fun _ => ⟨tb8 (i := 100) rfl rfl, tp7 (i := 6) rfl⟩, (fun h => by cases h), (fun h => by cases h)⟩
theorem y_X9_tellOf : YL 0 yX9_tellOf cX9_tellOf 3 (some .int) 2 := ⟨by decide +kernel, tb8 (i := 202) rfl rfl, tb1 (i := 15) rfl rfl, by decide +kernel, fun _ => ⟨tb8 (i := 201) rfl rfl, tp7 (i := 14) rfl⟩, (fun h => by cases h), (fun h => by cases h)⟩
theorem y_X9_temperature : YL 0 yX9_temperature cX9_temperature 1 (some .int) 0 := ⟨by decide +kernel, tb8 (i := 129) rfl rfl, tb1 (i := 15) rfl rfl, by decide +kernel, fun _ => ⟨tb8 (i := 127) rfl rfl, tb8 (i := 128) rfl rfl⟩, (fun h => by cases h), (fun h => by cases h)⟩
theorem y_X9_temperatureAfter : YL 0 yX9_temperatureAfter cX9_temperatureAfter 2 (some .int) 1 := ⟨by decide +kernel, tb9 (i := 87) rfl rfl, tb1 (i := 15) rfl rfl, by decide +kernel, fun _ => ⟨tb9 (i := 85) rfl rfl, tb9 (i := 86) rfl rfl⟩, (fun h => by cases h), (fun h => by cases h)⟩
theorem y_X9_thicknessFor : YL 0 yX9_thicknessFor cX9_thicknessFor 3 (some .int) 1 := ⟨by decide +kernel, tb8 (i := 5) rfl rfl, tb1 (i := 15) rfl rfl, by decide +kernel, fun _ => ⟨tb8 (i := 4) rfl rfl, tp6 (i := 6) rfl⟩, (fun h => by cases h), (fun h => by cases h)⟩
theorem y_X9_thinnest : YL 0 yX9_thinnest cX9_thinnest 5 (some .int) 1 := ⟨by decide +kernel, tb9 (i := 34) rfl rfl, tb1 (i := 15) rfl rfl, by decide +kernel, fun _ => ⟨tb9 (i := 33) rfl rfl, tp8 (i := 4) rfl⟩, (fun h => by cases h), (fun h => by cases h)⟩
theorem y_X9_thrown : YL 0 yX9_thrown cX9_thrown 1 (some .int) 0 := ⟨by decide +kernel, tb7 (i := 51) rfl rfl, tb1 (i := 15) rfl rfl, by decide +kernel, fun _ => ⟨tb7 (i := 49) rfl rfl, tb7 (i := 50) rfl rfl⟩, (fun h => by cases h), (fun h => by cases h)⟩
theorem y_X9_toDawn : YL 0 yX9_toDawn cX9_toDawn 1 (some .int) 0 := ⟨by decide +kernel, tb8 (i := 121) rfl rfl, tb1 (i := 15) rfl rfl, by decide +kernel, fun _ => ⟨tb8 (i := 120) rfl rfl, tp7 (i := 7) rfl⟩, (fun h => by cases h), (fun h => by cases h)⟩
theorem y_X9_totalDebt : YL 0 yX9_totalDebt cX9_totalDebt 1 (some .int) 0 := ⟨by decide +kernel, tb9 (i := 62) rfl rfl, tb1 (i := 15) rfl rfl, by decide +kernel, fun _ => ⟨tb9 (i := 60) rfl rfl, tb9 (i := 61) rfl rfl⟩, (fun h => by cases h), (fun h => by cases h)⟩
theorem y_X9_truncateText : YL 0 yX9_truncateText cX9_truncateText 2 (some .int) 1 := ⟨by decide +kernel, tb7 (i := 63) rfl rfl, tb1 (i := 15) rfl rfl, by decide +kernel, fun _ => ⟨tb7 (i := 61) rfl rfl, tb7 (i := 62) rfl rfl⟩, (fun h => by cases h), (fun h => by cases h)⟩
theorem y_X9_undo : YL 0 yX9_undo cX9_undo 1 (some .int) 0 := ⟨by decide +kernel, tb9 (i := 187) rfl rfl, tb1 (i := 15) rfl rfl, by decide +kernel, fun _ => ⟨tb9 (i := 185) rfl rfl, tb9 (i := 186) rfl rfl⟩, (fun h => by cases h), (fun h => by cases h)⟩
theorem y_X9_userOf : YL 0 yX9_userOf cX9_userOf 2 (some .int) 1 := ⟨by decide +kernel, tb8 (i := 170) rfl rfl, tb1 (i := 15) rfl rfl, by decide +kernel, fun _ => ⟨tb8 (i := 168) rfl rfl, tb8 (i := 169) rfl rfl⟩, (fun h => by cases h), (fun h => by cases h)⟩
theorem y_X9_warmestBunk : YL 0 yX9_warmestBunk cX9_warmestBunk 6 (some .int) 1 := ⟨by decide +kernel, tb9 (i := 46) rfl rfl, tb1 (i := 15) rfl rfl, by decide +kernel, fun _ => ⟨tb9 (i := 44) rfl rfl, tb9 (i := 45) rfl rfl⟩, (fun h => by cases h), (fun h => by cases h)⟩
theorem y_X9_warmth : YL 0 yX9_warmth cX9_warmth 2 (some .int) 1 := ⟨by decide +kernel, tb8 (i := 210) rfl rfl, tb1 (i := 15) rfl rfl, by decide +kernel, fun _ => ⟨tb8 (i := 208) rfl rfl, tb8 (i := 209) rfl rfl⟩, (fun h => by cases h), (fun h => by cases h)⟩
theorem y_X9_warmthBare : YL 0 yX9_warmthBare cX9_warmthBare 4 (some .int) 1 := ⟨by decide +kernel, tb7 (i := 229) rfl rfl, tb1 (i := 15) rfl rfl, by decide +kernel, fun _ => ⟨tb7 (i := 228) rfl rfl, tp6 (i := 2) rfl⟩, (fun h => by cases h), (fun h => by cases h)⟩
theorem y_X9_warmthNow : YL 0 yX9_warmthNow cX9_warmthNow 2 (some .int) 1 := ⟨by decide +kernel, tb7 (i := 225) rfl rfl, tb1 (i := 15) rfl rfl, by decide +kernel, fun _ => ⟨tb7 (i := 224) rfl rfl, tp6 (i := 1) rfl⟩, (fun h => by cases h), (fun h => by cases h)⟩
theorem y_X9_worstSnorer : YL 0 yX9_worstSnorer cX9_worstSnorer 5 (some .int) 0 := ⟨by decide +kernel, tb9 (i := 2) rfl rfl, tb1 (i := 15) rfl rfl, by decide +kernel, fun _ => ⟨tb9 (i := 0) rfl rfl, tb9 (i := 1) rfl rfl⟩, (fun h => by cases h), (fun h => by cases h)⟩
theorem y_X9_writeAccount : YL 0 yX9_writeAccount cX9_writeAccount 2 none 1 := ⟨by decide +kernel, tb9 (i := 175) rfl rfl, tb1 (i := 15) rfl rfl, by decide +kernel, fun _ => ⟨tb9 (i := 174) rfl rfl, tp9 (i := 2) rfl⟩, (fun h => by cases h), (fun h => by cases h)⟩
theorem y_X9_writeBunks : YL 0 yX9_writeBunks cX9_writeBunks 2 (some .int) 0 := ⟨by decide +kernel, tb9 (i := 159) rfl rfl, tb1 (i := 15) rfl rfl, by decide +kernel, fun _ => ⟨tb9 (i := 157) rfl rfl, tb9 (i := 158) rfl rfl⟩, (fun h => by cases h), (fun h => by cases h)⟩
theorem y_X9_writeByte : YL 0 yX9_writeByte cX9_writeByte 2 none 1 := ⟨by decide +kernel, tb9 (i := 163) rfl rfl, tb1 (i := 15) rfl rfl, by decide +kernel, fun _ => ⟨tb9 (i := 162) rfl rfl, tp9 (i := 0) rfl⟩, (fun h => by cases h), (fun h => by cases h)⟩
theorem y_X9_writeHiker : YL 0 yX9_writeHiker cX9_writeHiker 3 none 1 := ⟨by decide +kernel, tb9 (i := 167) rfl rfl, tb1 (i := 15) rfl rfl, by decide +kernel, fun _ => ⟨tb9 (i := 166) rfl rfl, tp9 (i := 1) rfl⟩, (fun h => by cases h), (fun h => by cases h)⟩
theorem y_X9_writeLedger : YL 0 yX9_writeLedger cX9_writeLedger 2 (some .int) 0 := ⟨by decide +kernel, tb9 (i := 171) rfl rfl, tb1 (i := 15) rfl rfl, by decide +kernel, fun _ => ⟨tb9 (i := 169) rfl rfl, tb9 (i := 170) rfl rfl⟩, (fun h => by cases h), (fun h => by cases h)⟩
theorem y_X9_writeNumber : YL 0 yX9_writeNumber cX9_writeNumber 2 none 1 := ⟨by decide +kernel, tb9 (i := 179) rfl rfl, tb1 (i := 15) rfl rfl, by decide +kernel, fun _ => ⟨tb9 (i := 178) rfl rfl, tp9 (i := 3) rfl⟩, (fun h => by cases h), (fun h => by cases h)⟩
theorem m_X8_1 : Cond.methodLink RX8 1 Lib.objectInit ∈ TBL := tb1 (i := 29) rfl rfl
theorem m_X8_9 : Cond.methodLink RX8 9 yX3_init ∈ TBL := tb1 (i := 34) rfl rfl
theorem m_X8_33 : Cond.methodLink RX8 33 yX8_newHuts ∈ TBL := tb1 (i := 211) rfl rfl
theorem m_X8_72 : Cond.methodLink RX8 72 yX7_putAll ∈ TBL := tb2 (i := 62) rfl rfl
theorem m_X8_78 : Cond.methodLink RX8 78 yX0_readSetup ∈ TBL := tb2 (i := 122) rfl rfl
theorem m_X8_86 : Cond.methodLink RX8 86 yX7_hasRoomFor ∈ TBL := tb4 (i := 233) rfl rfl
theorem m_X8_96 : Cond.methodLink RX8 96 yX7_put ∈ TBL := tb5 (i := 62) rfl rfl
theorem m_X8_100 : Cond.methodLink RX8 100 yX8_isWithin ∈ TBL := tb4 (i := 224) rfl rfl
theorem m_X8_109 : Cond.methodLink RX8 109 yX3_copyFrom ∈ TBL := tb3 (i := 30) rfl rfl
theorem m_X8_113 : Cond.methodLink RX8 113 yX2_forget ∈ TBL := tb3 (i := 42) rfl rfl
theorem m_X8_119 : Cond.methodLink RX8 119 yX0_readScript ∈ TBL := tb3 (i := 50) rfl rfl
theorem m_X8_136 : Cond.methodLink RX8 136 yX3_faultOf ∈ TBL := tb3 (i := 79) rfl rfl
theorem m_X8_140 : Cond.methodLink RX8 140 yX2_keep ∈ TBL := tb3 (i := 128) rfl rfl
theorem m_X8_143 : Cond.methodLink RX8 143 yX3_perform ∈ TBL := tb3 (i := 134) rfl rfl
theorem m_X8_155 : Cond.methodLink RX8 155 yX3_hoursToDawn ∈ TBL := tb3 (i := 238) rfl rfl
theorem m_X8_162 : Cond.methodLink RX8 162 yX3_temperatureInside ∈ TBL := tb4 (i := 10) rfl rfl
theorem m_X8_165 : Cond.methodLink RX8 165 yX8_demandBunk ∈ TBL := tb5 (i := 95) rfl rfl
theorem m_X8_168 : Cond.methodLink RX8 168 yX3_sleeperIn ∈ TBL := tb4 (i := 203) rfl rfl
theorem m_X8_172 : Cond.methodLink RX8 172 yX3_noiseAt ∈ TBL := tb5 (i := 123) rfl rfl
theorem m_X8_175 : Cond.methodLink RX8 175 yX3_quietestEmptyBunk ∈ TBL := tb4 (i := 15) rfl rfl
theorem m_X8_178 : Cond.methodLink RX8 178 yX3_longestRowOfSleepers ∈ TBL := tb4 (i := 27) rfl rfl
theorem m_X8_181 : Cond.methodLink RX8 181 yX8_demandHiker ∈ TBL := tb5 (i := 131) rfl rfl
theorem m_X8_184 : Cond.methodLink RX8 184 yX5_placeForMostSleep ∈ TBL := tb5 (i := 136) rfl rfl
theorem m_X8_188 : Cond.methodLink RX8 188 yX3_hasBunk ∈ TBL := tb5 (i := 99) rfl rfl
theorem m_X8_196 : Cond.methodLink RX8 196 yX3_hasHiker ∈ TBL := tb4 (i := 204) rfl rfl
theorem m_X8_201 : Cond.methodLink RX8 201 yX3_hasBlanket ∈ TBL := tb5 (i := 152) rfl rfl
theorem m_X8_206 : Cond.methodLink RX8 206 yX3_userOfBlanket ∈ TBL := tb5 (i := 154) rfl rfl
theorem m_X8_209 : Cond.methodLink RX8 209 yX3_blanketAtRank ∈ TBL := tb5 (i := 163) rfl rfl
theorem m_X8_217 : Cond.methodLink RX8 217 yX3_blanketsOnPile ∈ TBL := tb4 (i := 38) rfl rfl
theorem m_X8_220 : Cond.methodLink RX8 220 yX3_thinnestFitting ∈ TBL := tb5 (i := 194) rfl rfl
theorem m_X8_238 : Cond.methodLink RX8 238 yX3_activityNow ∈ TBL := tb4 (i := 211) rfl rfl
theorem m_X8_252 : Cond.methodLink RX8 252 yX3_hikerOfRank ∈ TBL := tb6 (i := 15) rfl rfl
theorem m_X8_255 : Cond.methodLink RX8 255 yX5_loudestDisturber ∈ TBL := tb4 (i := 50) rfl rfl
theorem m_X8_259 : Cond.methodLink RX8 259 yX3_hikersWithoutBlanket ∈ TBL := tb4 (i := 61) rfl rfl
theorem m_X8_262 : Cond.methodLink RX8 262 yX3_coldCount ∈ TBL := tb4 (i := 66) rfl rfl
theorem m_X8_265 : Cond.methodLink RX8 265 yX3_hikerMissingMost ∈ TBL := tb4 (i := 71) rfl rfl
theorem m_X8_268 : Cond.methodLink RX8 268 yX3_coldIfSharedBest ∈ TBL := tb4 (i := 79) rfl rfl
theorem m_X8_271 : Cond.methodLink RX8 271 yX3_exchangeForFewestCold ∈ TBL := tb4 (i := 101) rfl rfl
theorem m_X8_274 : Cond.methodLink RX8 274 yX5_bunkForMostWarmth ∈ TBL := tb6 (i := 34) rfl rfl
theorem m_X8_283 : Cond.methodLink RX8 283 yX3_sumOfDebts ∈ TBL := tb4 (i := 120) rfl rfl
theorem m_X8_289 : Cond.methodLink RX8 289 yX3_sumOfCoins ∈ TBL := tb4 (i := 128) rfl rfl
theorem m_X8_292 : Cond.methodLink RX8 292 yJ9_abs_0f7a4 ∈ TBL := tb4 (i := 129) rfl rfl
theorem m_X8_300 : Cond.methodLink RX8 300 yX3_thingsUsedTwice ∈ TBL := tb4 (i := 132) rfl rfl
theorem m_X8_303 : Cond.methodLink RX8 303 yX3_sumOfWarmths ∈ TBL := tb4 (i := 140) rfl rfl
theorem m_X8_306 : Cond.methodLink RX8 306 yX3_sumOfHours ∈ TBL := tb4 (i := 148) rfl rfl
theorem m_X8_309 : Cond.methodLink RX8 309 yX8_demandForeseeable ∈ TBL := tb6 (i := 46) rfl rfl
theorem m_X8_312 : Cond.methodLink RX8 312 yX5_temperatureIn ∈ TBL := tb6 (i := 50) rfl rfl
theorem m_X8_315 : Cond.methodLink RX8 315 yX5_shiversToDawn ∈ TBL := tb6 (i := 62) rfl rfl
theorem m_X8_318 : Cond.methodLink RX8 318 yX5_paymentNextDawn ∈ TBL := tb6 (i := 73) rfl rfl
theorem m_X8_321 : Cond.methodLink RX8 321 yX5_debtIn ∈ TBL := tb6 (i := 87) rfl rfl
theorem m_X8_325 : Cond.methodLink RX8 325 yX5_dawnsToDebt ∈ TBL := tb6 (i := 98) rfl rfl
theorem m_X8_328 : Cond.methodLink RX8 328 yX5_hoursToNoLogs ∈ TBL := tb4 (i := 156) rfl rfl
theorem m_X8_331 : Cond.methodLink RX8 331 yX5_rateWithoutShivers ∈ TBL := tb4 (i := 168) rfl rfl
theorem m_X8_334 : Cond.methodLink RX8 334 yX5_rateForMostSleep ∈ TBL := tb4 (i := 183) rfl rfl
theorem m_X8_339 : Cond.methodLink RX8 339 yX8_act ∈ TBL := tb6 (i := 109) rfl rfl
theorem m_X8_342 : Cond.methodLink RX8 342 yX8_refuse ∈ TBL := tb6 (i := 113) rfl rfl
theorem m_X8_351 : Cond.methodLink RX8 351 yX4_clear ∈ TBL := tb4 (i := 191) rfl rfl
theorem m_X8_357 : Cond.methodLink RX8 357 yX4_put ∈ TBL := tb4 (i := 195) rfl rfl
theorem m_X8_358 : Cond.methodLink RX8 358 yX8_writeBunk ∈ TBL := tb4 (i := 199) rfl rfl
theorem m_X8_365 : Cond.methodLink RX8 365 yX4_putNumber ∈ TBL := tb4 (i := 205) rfl rfl
theorem m_X8_368 : Cond.methodLink RX8 368 yX8_writeHiker ∈ TBL := tb4 (i := 216) rfl rfl
theorem m_X8_380 : Cond.methodLink RX8 380 yX2_takeBack ∈ TBL := tb6 (i := 183) rfl rfl
theorem m_X8_383 : Cond.methodLink RX8 383 yX8_demandSnapshotNumber ∈ TBL := tb6 (i := 194) rfl rfl
theorem m_X0_3 : Cond.methodLink RX0 3 Lib.objectInit ∈ TBL := tb1 (i := 217) rfl rfl
theorem m_X0_25 : Cond.methodLink RX0 25 yX0_begin ∈ TBL := tb2 (i := 126) rfl rfl
theorem m_X0_28 : Cond.methodLink RX0 28 yX0_readLogs ∈ TBL := tb2 (i := 141) rfl rfl
theorem m_X0_32 : Cond.methodLink RX0 32 yX0_readBunks ∈ TBL := tb2 (i := 177) rfl rfl
theorem m_X0_35 : Cond.methodLink RX0 35 yX0_readBlankets ∈ TBL := tb2 (i := 186) rfl rfl
theorem m_X0_38 : Cond.methodLink RX0 38 yX0_readForecast ∈ TBL := tb2 (i := 191) rfl rfl
theorem m_X0_41 : Cond.methodLink RX0 41 yX0_readHikers ∈ TBL := tb2 (i := 196) rfl rfl
theorem m_X0_44 : Cond.methodLink RX0 44 yX3_open ∈ TBL := tb2 (i := 205) rfl rfl
theorem m_X0_49 : Cond.methodLink RX0 49 yX7_readFirst ∈ TBL := tb2 (i := 130) rfl rfl
theorem m_X0_57 : Cond.methodLink RX0 57 yX0_readWord ∈ TBL := tb2 (i := 146) rfl rfl
theorem m_X0_61 : Cond.methodLink RX0 61 yX0_isNumber ∈ TBL := tb2 (i := 159) rfl rfl
theorem m_X0_65 : Cond.methodLink RX0 65 yX7_value ∈ TBL := tb2 (i := 163) rfl rfl
theorem m_X0_72 : Cond.methodLink RX0 72 yX7_readNext ∈ TBL := tb2 (i := 158) rfl rfl
theorem m_X0_75 : Cond.methodLink RX0 75 yX0_readSemicolon ∈ TBL := tb2 (i := 173) rfl rfl
theorem m_X0_85 : Cond.methodLink RX0 85 yX0_readRow ∈ TBL := tb2 (i := 182) rfl rfl
theorem m_X0_113 : Cond.methodLink RX0 113 yX0_fail ∈ TBL := tb2 (i := 154) rfl rfl
theorem m_X0_122 : Cond.methodLink RX0 122 yX7_isWord ∈ TBL := tb2 (i := 150) rfl rfl
theorem m_X0_129 : Cond.methodLink RX0 129 yX0_readHiker ∈ TBL := tb2 (i := 201) rfl rfl
theorem m_X0_151 : Cond.methodLink RX0 151 yX0_commandOfWord ∈ TBL := tb3 (i := 54) rfl rfl
theorem m_X0_157 : Cond.methodLink RX0 157 yX0_readArguments ∈ TBL := tb3 (i := 67) rfl rfl
theorem m_X0_179 : Cond.methodLink RX0 179 yX0_readHikerAnd ∈ TBL := tb3 (i := 71) rfl rfl
theorem m_X0_186 : Cond.methodLink RX0 186 yX0_readInto ∈ TBL := tb3 (i := 75) rfl rfl
theorem m_X1_3 : Cond.methodLink RX1 3 Lib.objectInit ∈ TBL := tb1 (i := 44) rfl rfl
theorem m_X2_3 : Cond.methodLink RX2 3 Lib.objectInit ∈ TBL := tb1 (i := 195) rfl rfl
theorem m_X2_23 : Cond.methodLink RX2 23 yX3_copyFrom ∈ TBL := tb3 (i := 132) rfl rfl
theorem m_X2_32 : Cond.methodLink RX2 32 yJ9_min_7cf53 ∈ TBL := tb3 (i := 133) rfl rfl
theorem m_X3_3 : Cond.methodLink RX3 3 Lib.objectInit ∈ TBL := tb1 (i := 37) rfl rfl
theorem m_X3_41 : Cond.methodLink RX3 41 yX3_sumOfCoins ∈ TBL := tb2 (i := 209) rfl rfl
theorem m_X3_48 : Cond.methodLink RX3 48 yX3_measure ∈ TBL := tb2 (i := 213) rfl rfl
theorem m_X3_87 : Cond.methodLink RX3 87 yX1_copyFrom ∈ TBL := tb3 (i := 37) rfl rfl
theorem m_X3_91 : Cond.methodLink RX3 91 yX3_temperatureInside ∈ TBL := tb2 (i := 217) rfl rfl
theorem m_X3_97 : Cond.methodLink RX3 97 yX3_hasBlanket ∈ TBL := tb2 (i := 221) rfl rfl
theorem m_X3_107 : Cond.methodLink RX3 107 yX3_warmthOfBunk ∈ TBL := tb2 (i := 225) rfl rfl
theorem m_X3_114 : Cond.methodLink RX3 114 yX3_hasBunk ∈ TBL := tb2 (i := 229) rfl rfl
theorem m_X3_117 : Cond.methodLink RX3 117 yX1_isCold ∈ TBL := tb2 (i := 233) rfl rfl
theorem m_X3_124 : Cond.methodLink RX3 124 yX3_noiseAt ∈ TBL := tb3 (i := 158) rfl rfl
theorem m_X3_127 : Cond.methodLink RX3 127 yX3_sleeperIn ∈ TBL := tb3 (i := 107) rfl rfl
theorem m_X3_130 : Cond.methodLink RX3 130 yX3_isQuieter ∈ TBL := tb4 (i := 19) rfl rfl
theorem m_X3_134 : Cond.methodLink RX3 134 yJ9_max_7cf53 ∈ TBL := tb4 (i := 31) rfl rfl
theorem m_X3_140 : Cond.methodLink RX3 140 yX3_hikersWithoutBlanket ∈ TBL := tb3 (i := 218) rfl rfl
theorem m_X3_143 : Cond.methodLink RX3 143 yX3_userOfBlanket ∈ TBL := tb3 (i := 91) rfl rfl
theorem m_X3_146 : Cond.methodLink RX3 146 yX3_pileRankOf ∈ TBL := tb5 (i := 167) rfl rfl
theorem m_X3_149 : Cond.methodLink RX3 149 yX1_lack ∈ TBL := tb4 (i := 87) rfl rfl
theorem m_X3_152 : Cond.methodLink RX3 152 yX3_hikersLacking ∈ TBL := tb4 (i := 83) rfl rfl
theorem m_X3_155 : Cond.methodLink RX3 155 yX3_blanketsOfThickness ∈ TBL := tb4 (i := 91) rfl rfl
theorem m_X3_158 : Cond.methodLink RX3 158 yJ9_min_7cf53 ∈ TBL := tb4 (i := 95) rfl rfl
theorem m_X3_168 : Cond.methodLink RX3 168 yX3_savedByExchange ∈ TBL := tb4 (i := 105) rfl rfl
theorem m_X3_172 : Cond.methodLink RX3 172 yX3_countOf ∈ TBL := tb3 (i := 150) rfl rfl
theorem m_X3_175 : Cond.methodLink RX3 175 yX3_activityNow ∈ TBL := tb3 (i := 154) rfl rfl
theorem m_X3_181 : Cond.methodLink RX3 181 yX3_rankOfHiker ∈ TBL := tb6 (i := 19) rfl rfl
theorem m_X3_184 : Cond.methodLink RX3 184 yX1_ranksBefore ∈ TBL := tb6 (i := 23) rfl rfl
theorem m_X3_197 : Cond.methodLink RX3 197 yX3_burnLogs ∈ TBL := tb3 (i := 182) rfl rfl
theorem m_X3_200 : Cond.methodLink RX3 200 yX3_noteWhatHappens ∈ TBL := tb3 (i := 186) rfl rfl
theorem m_X3_203 : Cond.methodLink RX3 203 yX3_endHour ∈ TBL := tb3 (i := 190) rfl rfl
theorem m_X3_206 : Cond.methodLink RX3 206 yX3_payForNight ∈ TBL := tb3 (i := 194) rfl rfl
theorem m_X3_209 : Cond.methodLink RX3 209 yX3_payForLogs ∈ TBL := tb3 (i := 202) rfl rfl
theorem m_X3_212 : Cond.methodLink RX3 212 yX3_payForBlankets ∈ TBL := tb3 (i := 210) rfl rfl
theorem m_X3_215 : Cond.methodLink RX3 215 yX1_payOut ∈ TBL := tb3 (i := 198) rfl rfl
theorem m_X3_218 : Cond.methodLink RX3 218 yX3_partOfLogs ∈ TBL := tb3 (i := 206) rfl rfl
theorem m_X3_221 : Cond.methodLink RX3 221 yX1_feeForBlanket ∈ TBL := tb3 (i := 214) rfl rfl
theorem m_X3_224 : Cond.methodLink RX3 224 yX3_faultOfTake ∈ TBL := tb3 (i := 83) rfl rfl
theorem m_X3_227 : Cond.methodLink RX3 227 yX3_faultOfReturn ∈ TBL := tb3 (i := 95) rfl rfl
theorem m_X3_230 : Cond.methodLink RX3 230 yX3_faultOfSwap ∈ TBL := tb3 (i := 99) rfl rfl
theorem m_X3_233 : Cond.methodLink RX3 233 yX3_faultOfLie ∈ TBL := tb3 (i := 103) rfl rfl
theorem m_X3_236 : Cond.methodLink RX3 236 yX3_faultOfRise ∈ TBL := tb3 (i := 111) rfl rfl
theorem m_X3_239 : Cond.methodLink RX3 239 yX3_faultOfFetch ∈ TBL := tb3 (i := 116) rfl rfl
theorem m_X3_242 : Cond.methodLink RX3 242 yX3_faultOfPay ∈ TBL := tb3 (i := 120) rfl rfl
theorem m_X3_245 : Cond.methodLink RX3 245 yX3_faultOfPass ∈ TBL := tb3 (i := 124) rfl rfl
theorem m_X3_248 : Cond.methodLink RX3 248 yX3_hasHiker ∈ TBL := tb3 (i := 87) rfl rfl
theorem m_X3_251 : Cond.methodLink RX3 251 yX3_giveBlanket ∈ TBL := tb3 (i := 138) rfl rfl
theorem m_X3_254 : Cond.methodLink RX3 254 yX3_exchangeBlankets ∈ TBL := tb3 (i := 142) rfl rfl
theorem m_X3_258 : Cond.methodLink RX3 258 yX3_coldCount ∈ TBL := tb3 (i := 146) rfl rfl
theorem m_X3_261 : Cond.methodLink RX3 261 yX3_moveTo ∈ TBL := tb3 (i := 162) rfl rfl
theorem m_X3_264 : Cond.methodLink RX3 264 yX3_changeRate ∈ TBL := tb3 (i := 166) rfl rfl
theorem m_X3_267 : Cond.methodLink RX3 267 yX3_addLogs ∈ TBL := tb3 (i := 170) rfl rfl
theorem m_X3_270 : Cond.methodLink RX3 270 yX3_payBack ∈ TBL := tb3 (i := 174) rfl rfl
theorem m_X3_273 : Cond.methodLink RX3 273 yX3_passTime ∈ TBL := tb3 (i := 178) rfl rfl
theorem m_X4_3 : Cond.methodLink RX4 3 Lib.objectInit ∈ TBL := tb2 (i := 51) rfl rfl
theorem m_X4_20 : Cond.methodLink RX4 20 yX4_put ∈ TBL := tb4 (i := 210) rfl rfl
theorem m_X5_3 : Cond.methodLink RX5 3 Lib.objectInit ∈ TBL := tb1 (i := 183) rfl rfl
theorem m_X5_11 : Cond.methodLink RX5 11 yX3_init ∈ TBL := tb1 (i := 185) rfl rfl
theorem m_X5_18 : Cond.methodLink RX5 18 yX3_copyFrom ∈ TBL := tb4 (i := 54) rfl rfl
theorem m_X5_22 : Cond.methodLink RX5 22 yX3_moveTo ∈ TBL := tb5 (i := 140) rfl rfl
theorem m_X5_26 : Cond.methodLink RX5 26 yX3_countOf ∈ TBL := tb4 (i := 55) rfl rfl
theorem m_X5_34 : Cond.methodLink RX5 34 yX5_isFreeFor ∈ TBL := tb5 (i := 141) rfl rfl
theorem m_X5_47 : Cond.methodLink RX5 47 yX3_noiseAt ∈ TBL := tb6 (i := 38) rfl rfl
theorem m_X5_50 : Cond.methodLink RX5 50 yX3_sleeperIn ∈ TBL := tb5 (i := 144) rfl rfl
theorem m_X5_59 : Cond.methodLink RX5 59 yX3_measure ∈ TBL := tb4 (i := 56) rfl rfl
theorem m_X5_62 : Cond.methodLink RX5 62 yX3_passTimeUnwatched ∈ TBL := tb4 (i := 160) rfl rfl
theorem m_X5_66 : Cond.methodLink RX5 66 yX3_temperatureInside ∈ TBL := tb6 (i := 54) rfl rfl
theorem m_X5_70 : Cond.methodLink RX5 70 yX3_hoursToDawn ∈ TBL := tb4 (i := 176) rfl rfl
theorem m_X5_73 : Cond.methodLink RX5 73 yX3_passTime ∈ TBL := tb4 (i := 177) rfl rfl
theorem m_X5_83 : Cond.methodLink RX5 83 yX3_partOfLogs ∈ TBL := tb6 (i := 78) rfl rfl
theorem m_X5_86 : Cond.methodLink RX5 86 yX1_feeForBlanket ∈ TBL := tb6 (i := 79) rfl rfl
theorem m_X5_95 : Cond.methodLink RX5 95 yX5_hoursToDawnOf ∈ TBL := tb4 (i := 172) rfl rfl
theorem m_X5_102 : Cond.methodLink RX5 102 yX3_sumOfHours ∈ TBL := tb4 (i := 178) rfl rfl
theorem m_X6_3 : Cond.methodLink RX6 3 Lib.objectInit ∈ TBL := tb2 (i := 25) rfl rfl
theorem m_X7_3 : Cond.methodLink RX7 3 Lib.objectInit ∈ TBL := tb1 (i := 223) rfl rfl
theorem m_X7_19 : Cond.methodLink RX7 19 yX7_hasRoomFor ∈ TBL := tb2 (i := 118) rfl rfl
theorem m_X7_23 : Cond.methodLink RX7 23 yJ0_length_8abf5 ∈ TBL := tb2 (i := 66) rfl rfl
theorem m_X7_28 : Cond.methodLink RX7 28 yJ0_charAt_5068e ∈ TBL := tb2 (i := 76) rfl rfl
theorem m_X7_32 : Cond.methodLink RX7 32 yX7_put ∈ TBL := tb2 (i := 114) rfl rfl
theorem m_X7_39 : Cond.methodLink RX7 39 yX7_readNext ∈ TBL := tb2 (i := 134) rfl rfl
theorem m_X7_45 : Cond.methodLink RX7 45 yX7_kindOf ∈ TBL := tb2 (i := 138) rfl rfl
theorem m_X7_52 : Cond.methodLink RX7 52 yJ9_min_7cf53 ∈ TBL := tb2 (i := 167) rfl rfl
theorem m_L_7 : Cond.methodLink RL 7 yX8_appendText ∈ TBL := tb4 (i := 229) rfl rfl
theorem m_L_15 : Cond.methodLink RL 15 yX8_truncateText ∈ TBL := tb5 (i := 67) rfl rfl
theorem m_L_20 : Cond.methodLink RL 20 yX8_hikerIn ∈ TBL := tb5 (i := 91) rfl rfl
theorem m_L_25 : Cond.methodLink RL 25 yX8_noiseIn ∈ TBL := tb5 (i := 119) rfl rfl
theorem m_L_28 : Cond.methodLink RL 28 yX8_bestPlaceFor ∈ TBL := tb5 (i := 127) rfl rfl
theorem m_L_31 : Cond.methodLink RL 31 yX8_userOf ∈ TBL := tb5 (i := 148) rfl rfl
theorem m_L_34 : Cond.methodLink RL 34 yX8_blanketOnPile ∈ TBL := tb5 (i := 159) rfl rfl
theorem m_L_39 : Cond.methodLink RL 39 yX8_fittingBlanket ∈ TBL := tb5 (i := 190) rfl rfl
theorem m_L_42 : Cond.methodLink RL 42 yX8_bunkOf ∈ TBL := tb5 (i := 201) rfl rfl
theorem m_L_45 : Cond.methodLink RL 45 yX8_blanketOf ∈ TBL := tb5 (i := 208) rfl rfl
theorem m_L_48 : Cond.methodLink RL 48 yX8_warmth ∈ TBL := tb5 (i := 215) rfl rfl
theorem m_L_51 : Cond.methodLink RL 51 yX8_activity ∈ TBL := tb5 (i := 222) rfl rfl
theorem m_L_54 : Cond.methodLink RL 54 yX8_hoursOf ∈ TBL := tb5 (i := 229) rfl rfl
theorem m_L_58 : Cond.methodLink RL 58 yX8_coinsOf ∈ TBL := tb5 (i := 237) rfl rfl
theorem m_L_61 : Cond.methodLink RL 61 yX8_debtOf ∈ TBL := tb6 (i := 4) rfl rfl
theorem m_L_64 : Cond.methodLink RL 64 yX8_hikerAtRank ∈ TBL := tb6 (i := 11) rfl rfl
theorem m_L_67 : Cond.methodLink RL 67 yX8_warmestBunk ∈ TBL := tb6 (i := 30) rfl rfl
theorem m_L_70 : Cond.methodLink RL 70 yX8_temperatureAfter ∈ TBL := tb6 (i := 42) rfl rfl
theorem m_L_73 : Cond.methodLink RL 73 yX8_shiversUntilDawn ∈ TBL := tb6 (i := 58) rfl rfl
theorem m_L_76 : Cond.methodLink RL 76 yX8_paymentAtDawn ∈ TBL := tb6 (i := 69) rfl rfl
theorem m_L_79 : Cond.methodLink RL 79 yX8_debtAfter ∈ TBL := tb6 (i := 83) rfl rfl
theorem m_L_82 : Cond.methodLink RL 82 yX8_dawnsUntilDebt ∈ TBL := tb6 (i := 94) rfl rfl
theorem m_L_85 : Cond.methodLink RL 85 yX8_takeBlanket ∈ TBL := tb6 (i := 105) rfl rfl
theorem m_L_88 : Cond.methodLink RL 88 yX8_returnBlanket ∈ TBL := tb6 (i := 122) rfl rfl
theorem m_L_91 : Cond.methodLink RL 91 yX8_swapBlankets ∈ TBL := tb6 (i := 129) rfl rfl
theorem m_L_94 : Cond.methodLink RL 94 yX8_lieDown ∈ TBL := tb6 (i := 136) rfl rfl
theorem m_L_97 : Cond.methodLink RL 97 yX8_getUp ∈ TBL := tb6 (i := 143) rfl rfl
theorem m_L_100 : Cond.methodLink RL 100 yX8_setRate ∈ TBL := tb6 (i := 150) rfl rfl
theorem m_L_103 : Cond.methodLink RL 103 yX8_fetchLogs ∈ TBL := tb6 (i := 157) rfl rfl
theorem m_L_106 : Cond.methodLink RL 106 yX8_payDebt ∈ TBL := tb6 (i := 164) rfl rfl
theorem m_L_109 : Cond.methodLink RL 109 yX8_passHours ∈ TBL := tb6 (i := 171) rfl rfl
theorem m_L_112 : Cond.methodLink RL 112 yX8_undo ∈ TBL := tb6 (i := 178) rfl rfl
theorem m_L_116 : Cond.methodLink RL 116 yX8_saveSnapshot ∈ TBL := tb6 (i := 190) rfl rfl
theorem m_L_120 : Cond.methodLink RL 120 yX8_restoreSnapshot ∈ TBL := tb6 (i := 201) rfl rfl
theorem m_L_123 : Cond.methodLink RL 123 yX8_init ∈ TBL := tb1 (i := 26) rfl rfl
theorem m_L_126 : Cond.methodLink RL 126 yX9_init ∈ TBL := tb6 (i := 208) rfl rfl
theorem m_L_127 : Cond.methodLink RL 127 yL_appendText ∈ TBL := tb4 (i := 225) rfl rfl
theorem m_L_132 : Cond.methodLink RL 132 yX9_appendText ∈ TBL := tb7 (i := 52) rfl rfl
theorem m_L_133 : Cond.methodLink RL 133 yX9_thrown ∈ TBL := tb7 (i := 48) rfl rfl
theorem m_L_136 : Cond.methodLink RL 136 yL_truncateText ∈ TBL := tb5 (i := 63) rfl rfl
theorem m_L_138 : Cond.methodLink RL 138 yX9_truncateText ∈ TBL := tb7 (i := 60) rfl rfl
theorem m_L_139 : Cond.methodLink RL 139 yX8_loadSetup ∈ TBL := tb3 (i := 26) rfl rfl
theorem m_L_142 : Cond.methodLink RL 142 yX9_loadSetup ∈ TBL := tb7 (i := 67) rfl rfl
theorem m_L_143 : Cond.methodLink RL 143 yX8_runScript ∈ TBL := tb3 (i := 46) rfl rfl
theorem m_L_146 : Cond.methodLink RL 146 yX9_runScript ∈ TBL := tb7 (i := 153) rfl rfl
theorem m_L_147 : Cond.methodLink RL 147 yX8_errorCode ∈ TBL := tb3 (i := 222) rfl rfl
theorem m_L_150 : Cond.methodLink RL 150 yX9_errorCode ∈ TBL := tb8 (i := 102) rfl rfl
theorem m_L_151 : Cond.methodLink RL 151 yX8_errorPosition ∈ TBL := tb3 (i := 226) rfl rfl
theorem m_L_154 : Cond.methodLink RL 154 yX9_errorPosition ∈ TBL := tb8 (i := 106) rfl rfl
theorem m_L_155 : Cond.methodLink RL 155 yX8_hour ∈ TBL := tb3 (i := 230) rfl rfl
theorem m_L_158 : Cond.methodLink RL 158 yX9_hour ∈ TBL := tb8 (i := 110) rfl rfl
theorem m_L_159 : Cond.methodLink RL 159 yX8_hoursUntilDawn ∈ TBL := tb3 (i := 234) rfl rfl
theorem m_L_162 : Cond.methodLink RL 162 yX9_hoursUntilDawn ∈ TBL := tb8 (i := 114) rfl rfl
theorem m_L_163 : Cond.methodLink RL 163 yX8_logs ∈ TBL := tb4 (i := 2) rfl rfl
theorem m_L_166 : Cond.methodLink RL 166 yX9_logs ∈ TBL := tb8 (i := 122) rfl rfl
theorem m_L_167 : Cond.methodLink RL 167 yX8_temperature ∈ TBL := tb4 (i := 6) rfl rfl
theorem m_L_170 : Cond.methodLink RL 170 yX9_temperature ∈ TBL := tb8 (i := 126) rfl rfl
theorem m_L_171 : Cond.methodLink RL 171 yL_hikerIn ∈ TBL := tb5 (i := 87) rfl rfl
theorem m_L_173 : Cond.methodLink RL 173 yX9_hikerIn ∈ TBL := tb8 (i := 130) rfl rfl
theorem m_L_174 : Cond.methodLink RL 174 yL_noiseIn ∈ TBL := tb5 (i := 116) rfl rfl
theorem m_L_176 : Cond.methodLink RL 176 yX9_noiseIn ∈ TBL := tb8 (i := 134) rfl rfl
theorem m_L_177 : Cond.methodLink RL 177 yX8_quietestBunk ∈ TBL := tb4 (i := 11) rfl rfl
theorem m_L_180 : Cond.methodLink RL 180 yX9_quietestBunk ∈ TBL := tb8 (i := 138) rfl rfl
theorem m_L_181 : Cond.methodLink RL 181 yX8_longestRow ∈ TBL := tb4 (i := 23) rfl rfl
theorem m_L_184 : Cond.methodLink RL 184 yX9_longestRow ∈ TBL := tb8 (i := 146) rfl rfl
theorem m_L_185 : Cond.methodLink RL 185 yL_bestPlaceFor ∈ TBL := tb5 (i := 124) rfl rfl
theorem m_L_187 : Cond.methodLink RL 187 yX9_bestPlaceFor ∈ TBL := tb8 (i := 151) rfl rfl
theorem m_L_188 : Cond.methodLink RL 188 yL_userOf ∈ TBL := tb5 (i := 145) rfl rfl
theorem m_L_190 : Cond.methodLink RL 190 yX9_userOf ∈ TBL := tb8 (i := 167) rfl rfl
theorem m_L_191 : Cond.methodLink RL 191 yL_blanketOnPile ∈ TBL := tb5 (i := 155) rfl rfl
theorem m_L_193 : Cond.methodLink RL 193 yX9_blanketOnPile ∈ TBL := tb8 (i := 171) rfl rfl
theorem m_L_194 : Cond.methodLink RL 194 yX8_pileSize ∈ TBL := tb4 (i := 34) rfl rfl
theorem m_L_197 : Cond.methodLink RL 197 yX9_pileSize ∈ TBL := tb8 (i := 179) rfl rfl
theorem m_L_198 : Cond.methodLink RL 198 yL_fittingBlanket ∈ TBL := tb5 (i := 187) rfl rfl
theorem m_L_200 : Cond.methodLink RL 200 yX9_fittingBlanket ∈ TBL := tb8 (i := 187) rfl rfl
theorem m_L_201 : Cond.methodLink RL 201 yX8_hikerCount ∈ TBL := tb4 (i := 42) rfl rfl
theorem m_L_204 : Cond.methodLink RL 204 yX9_hikerCount ∈ TBL := tb8 (i := 191) rfl rfl
theorem m_L_205 : Cond.methodLink RL 205 yL_bunkOf ∈ TBL := tb5 (i := 198) rfl rfl
theorem m_L_207 : Cond.methodLink RL 207 yX9_bunkOf ∈ TBL := tb8 (i := 195) rfl rfl
theorem m_L_208 : Cond.methodLink RL 208 yL_blanketOf ∈ TBL := tb5 (i := 205) rfl rfl
theorem m_L_210 : Cond.methodLink RL 210 yX9_blanketOf ∈ TBL := tb8 (i := 203) rfl rfl
theorem m_L_211 : Cond.methodLink RL 211 yL_warmth ∈ TBL := tb5 (i := 212) rfl rfl
theorem m_L_213 : Cond.methodLink RL 213 yX9_warmth ∈ TBL := tb8 (i := 207) rfl rfl
theorem m_L_214 : Cond.methodLink RL 214 yL_activity ∈ TBL := tb5 (i := 219) rfl rfl
theorem m_L_216 : Cond.methodLink RL 216 yX9_activity ∈ TBL := tb8 (i := 211) rfl rfl
theorem m_L_217 : Cond.methodLink RL 217 yL_hoursOf ∈ TBL := tb5 (i := 226) rfl rfl
theorem m_L_220 : Cond.methodLink RL 220 yX9_hoursOf ∈ TBL := tb8 (i := 215) rfl rfl
theorem m_L_221 : Cond.methodLink RL 221 yL_coinsOf ∈ TBL := tb5 (i := 234) rfl rfl
theorem m_L_223 : Cond.methodLink RL 223 yX9_coinsOf ∈ TBL := tb8 (i := 219) rfl rfl
theorem m_L_224 : Cond.methodLink RL 224 yL_debtOf ∈ TBL := tb6 (i := 1) rfl rfl
theorem m_L_226 : Cond.methodLink RL 226 yX9_debtOf ∈ TBL := tb8 (i := 223) rfl rfl
theorem m_L_227 : Cond.methodLink RL 227 yL_hikerAtRank ∈ TBL := tb6 (i := 8) rfl rfl
theorem m_L_229 : Cond.methodLink RL 229 yX9_hikerAtRank ∈ TBL := tb8 (i := 227) rfl rfl
theorem m_L_230 : Cond.methodLink RL 230 yX8_worstSnorer ∈ TBL := tb4 (i := 46) rfl rfl
theorem m_L_233 : Cond.methodLink RL 233 yX9_worstSnorer ∈ TBL := tb8 (i := 239) rfl rfl
theorem m_L_234 : Cond.methodLink RL 234 yX8_hikersWithout ∈ TBL := tb4 (i := 57) rfl rfl
theorem m_L_237 : Cond.methodLink RL 237 yX9_hikersWithout ∈ TBL := tb9 (i := 7) rfl rfl
theorem m_L_238 : Cond.methodLink RL 238 yX8_coldHikers ∈ TBL := tb4 (i := 62) rfl rfl
theorem m_L_241 : Cond.methodLink RL 241 yX9_coldHikers ∈ TBL := tb9 (i := 11) rfl rfl
theorem m_L_242 : Cond.methodLink RL 242 yX8_coldestHiker ∈ TBL := tb4 (i := 67) rfl rfl
theorem m_L_245 : Cond.methodLink RL 245 yX9_coldestHiker ∈ TBL := tb9 (i := 15) rfl rfl
theorem m_L_246 : Cond.methodLink RL 246 yX8_fewestCold ∈ TBL := tb4 (i := 75) rfl rfl
theorem m_L_249 : Cond.methodLink RL 249 yX9_fewestCold ∈ TBL := tb9 (i := 23) rfl rfl
theorem m_L_250 : Cond.methodLink RL 250 yX8_bestExchange ∈ TBL := tb4 (i := 97) rfl rfl
theorem m_L_253 : Cond.methodLink RL 253 yX9_bestExchange ∈ TBL := tb9 (i := 35) rfl rfl
theorem m_L_254 : Cond.methodLink RL 254 yL_warmestBunk ∈ TBL := tb6 (i := 27) rfl rfl
theorem m_L_256 : Cond.methodLink RL 256 yX9_warmestBunk ∈ TBL := tb9 (i := 43) rfl rfl
theorem m_L_257 : Cond.methodLink RL 257 yX8_hutCoins ∈ TBL := tb4 (i := 108) rfl rfl
theorem m_L_260 : Cond.methodLink RL 260 yX9_hutCoins ∈ TBL := tb9 (i := 51) rfl rfl
theorem m_L_261 : Cond.methodLink RL 261 yX8_burnedLogs ∈ TBL := tb4 (i := 112) rfl rfl
theorem m_L_264 : Cond.methodLink RL 264 yX9_burnedLogs ∈ TBL := tb9 (i := 55) rfl rfl
theorem m_L_265 : Cond.methodLink RL 265 yX8_totalDebt ∈ TBL := tb4 (i := 116) rfl rfl
theorem m_L_268 : Cond.methodLink RL 268 yX9_totalDebt ∈ TBL := tb9 (i := 59) rfl rfl
theorem m_L_269 : Cond.methodLink RL 269 yX8_auditDifference ∈ TBL := tb4 (i := 124) rfl rfl
theorem m_L_272 : Cond.methodLink RL 272 yX9_auditDifference ∈ TBL := tb9 (i := 67) rfl rfl
theorem m_L_273 : Cond.methodLink RL 273 yX8_meanWarmth ∈ TBL := tb4 (i := 136) rfl rfl
theorem m_L_277 : Cond.methodLink RL 277 yX9_meanWarmth ∈ TBL := tb9 (i := 76) rfl rfl
theorem m_L_278 : Cond.methodLink RL 278 yX8_sleepShare ∈ TBL := tb4 (i := 144) rfl rfl
theorem m_L_282 : Cond.methodLink RL 282 yX9_sleepShare ∈ TBL := tb9 (i := 80) rfl rfl
theorem m_L_283 : Cond.methodLink RL 283 yL_temperatureAfter ∈ TBL := tb6 (i := 39) rfl rfl
theorem m_L_285 : Cond.methodLink RL 285 yX9_temperatureAfter ∈ TBL := tb9 (i := 84) rfl rfl
theorem m_L_286 : Cond.methodLink RL 286 yL_shiversUntilDawn ∈ TBL := tb6 (i := 55) rfl rfl
theorem m_L_288 : Cond.methodLink RL 288 yX9_shiversUntilDawn ∈ TBL := tb9 (i := 95) rfl rfl
theorem m_L_289 : Cond.methodLink RL 289 yL_paymentAtDawn ∈ TBL := tb6 (i := 66) rfl rfl
theorem m_L_291 : Cond.methodLink RL 291 yX9_paymentAtDawn ∈ TBL := tb9 (i := 103) rfl rfl
theorem m_L_292 : Cond.methodLink RL 292 yL_debtAfter ∈ TBL := tb6 (i := 80) rfl rfl
theorem m_L_294 : Cond.methodLink RL 294 yX9_debtAfter ∈ TBL := tb9 (i := 111) rfl rfl
theorem m_L_295 : Cond.methodLink RL 295 yL_dawnsUntilDebt ∈ TBL := tb6 (i := 91) rfl rfl
theorem m_L_297 : Cond.methodLink RL 297 yX9_dawnsUntilDebt ∈ TBL := tb9 (i := 119) rfl rfl
theorem m_L_298 : Cond.methodLink RL 298 yX8_hoursUntilNoLogs ∈ TBL := tb4 (i := 152) rfl rfl
theorem m_L_301 : Cond.methodLink RL 301 yX9_hoursUntilNoLogs ∈ TBL := tb9 (i := 127) rfl rfl
theorem m_L_302 : Cond.methodLink RL 302 yX8_rateNeeded ∈ TBL := tb4 (i := 164) rfl rfl
theorem m_L_305 : Cond.methodLink RL 305 yX9_rateNeeded ∈ TBL := tb9 (i := 135) rfl rfl
theorem m_L_306 : Cond.methodLink RL 306 yX8_bestRate ∈ TBL := tb4 (i := 179) rfl rfl
theorem m_L_309 : Cond.methodLink RL 309 yX9_bestRate ∈ TBL := tb9 (i := 143) rfl rfl
theorem m_L_310 : Cond.methodLink RL 310 yL_takeBlanket ∈ TBL := tb6 (i := 102) rfl rfl
theorem m_L_312 : Cond.methodLink RL 312 yX9_takeBlanket ∈ TBL := tb9 (i := 147) rfl rfl
theorem m_L_313 : Cond.methodLink RL 313 yL_returnBlanket ∈ TBL := tb6 (i := 119) rfl rfl
theorem m_L_315 : Cond.methodLink RL 315 yX9_returnBlanket ∈ TBL := tb9 (i := 148) rfl rfl
theorem m_L_316 : Cond.methodLink RL 316 yL_swapBlankets ∈ TBL := tb6 (i := 126) rfl rfl
theorem m_L_318 : Cond.methodLink RL 318 yX9_swapBlankets ∈ TBL := tb9 (i := 149) rfl rfl
theorem m_L_319 : Cond.methodLink RL 319 yL_lieDown ∈ TBL := tb6 (i := 133) rfl rfl
theorem m_L_321 : Cond.methodLink RL 321 yX9_lieDown ∈ TBL := tb9 (i := 150) rfl rfl
theorem m_L_322 : Cond.methodLink RL 322 yL_getUp ∈ TBL := tb6 (i := 140) rfl rfl
theorem m_L_324 : Cond.methodLink RL 324 yX9_getUp ∈ TBL := tb9 (i := 151) rfl rfl
theorem m_L_325 : Cond.methodLink RL 325 yL_setRate ∈ TBL := tb6 (i := 147) rfl rfl
theorem m_L_327 : Cond.methodLink RL 327 yX9_setRate ∈ TBL := tb9 (i := 152) rfl rfl
theorem m_L_328 : Cond.methodLink RL 328 yL_fetchLogs ∈ TBL := tb6 (i := 154) rfl rfl
theorem m_L_330 : Cond.methodLink RL 330 yX9_fetchLogs ∈ TBL := tb9 (i := 153) rfl rfl
theorem m_L_331 : Cond.methodLink RL 331 yL_payDebt ∈ TBL := tb6 (i := 161) rfl rfl
theorem m_L_333 : Cond.methodLink RL 333 yX9_payDebt ∈ TBL := tb9 (i := 154) rfl rfl
theorem m_L_334 : Cond.methodLink RL 334 yL_passHours ∈ TBL := tb6 (i := 168) rfl rfl
theorem m_L_336 : Cond.methodLink RL 336 yX9_passHours ∈ TBL := tb9 (i := 155) rfl rfl
theorem m_L_337 : Cond.methodLink RL 337 yX8_writeBunks ∈ TBL := tb4 (i := 187) rfl rfl
theorem m_L_340 : Cond.methodLink RL 340 yX9_writeBunks ∈ TBL := tb9 (i := 156) rfl rfl
theorem m_L_341 : Cond.methodLink RL 341 yX8_writeLedger ∈ TBL := tb4 (i := 212) rfl rfl
theorem m_L_344 : Cond.methodLink RL 344 yX9_writeLedger ∈ TBL := tb9 (i := 168) rfl rfl
theorem m_L_345 : Cond.methodLink RL 345 yX8_outputByte ∈ TBL := tb4 (i := 220) rfl rfl
theorem m_L_348 : Cond.methodLink RL 348 yX9_outputByte ∈ TBL := tb9 (i := 180) rfl rfl
theorem m_L_349 : Cond.methodLink RL 349 yL_undo ∈ TBL := tb6 (i := 175) rfl rfl
theorem m_L_352 : Cond.methodLink RL 352 yX9_undo ∈ TBL := tb9 (i := 184) rfl rfl
theorem m_L_353 : Cond.methodLink RL 353 yL_saveSnapshot ∈ TBL := tb6 (i := 187) rfl rfl
theorem m_L_356 : Cond.methodLink RL 356 yX9_saveSnapshot ∈ TBL := tb9 (i := 188) rfl rfl
theorem m_L_357 : Cond.methodLink RL 357 yL_restoreSnapshot ∈ TBL := tb6 (i := 198) rfl rfl
theorem m_L_359 : Cond.methodLink RL 359 yX9_restoreSnapshot ∈ TBL := tb9 (i := 192) rfl rfl
theorem m_X9_1 : Cond.methodLink RX9 1 Lib.objectInit ∈ TBL := tb6 (i := 211) rfl rfl
theorem m_X9_46 : Cond.methodLink RX9 46 yX9_addMany ∈ TBL := tb6 (i := 212) rfl rfl
theorem m_X9_50 : Cond.methodLink RX9 50 yX9_addHiker ∈ TBL := tb6 (i := 216) rfl rfl
theorem m_X9_54 : Cond.methodLink RX9 54 yX9_set ∈ TBL := tb6 (i := 220) rfl rfl
theorem m_X9_60 : Cond.methodLink RX9 60 yX9_copy ∈ TBL := tb7 (i := 75) rfl rfl
theorem m_X9_64 : Cond.methodLink RX9 64 yX9_get ∈ TBL := tb7 (i := 210) rfl rfl
theorem m_X9_68 : Cond.methodLink RX9 68 yX9_isBetween ∈ TBL := tb7 (i := 64) rfl rfl
theorem m_X9_72 : Cond.methodLink RX9 72 yX9_isBunk ∈ TBL := tb7 (i := 238) rfl rfl
theorem m_X9_76 : Cond.methodLink RX9 76 yX9_hikerWith ∈ TBL := tb7 (i := 206) rfl rfl
theorem m_X9_79 : Cond.methodLink RX9 79 yX9_inside ∈ TBL := tb7 (i := 230) rfl rfl
theorem m_X9_83 : Cond.methodLink RX9 83 yX9_inBunk ∈ TBL := tb7 (i := 234) rfl rfl
theorem m_X9_87 : Cond.methodLink RX9 87 yX9_warmthBare ∈ TBL := tb7 (i := 226) rfl rfl
theorem m_X9_90 : Cond.methodLink RX9 90 yX9_thicknessFor ∈ TBL := tb8 (i := 2) rfl rfl
theorem m_X9_93 : Cond.methodLink RX9 93 yX9_warmthNow ∈ TBL := tb7 (i := 222) rfl rfl
theorem m_X9_96 : Cond.methodLink RX9 96 yX9_isCold ∈ TBL := tb8 (i := 26) rfl rfl
theorem m_X9_99 : Cond.methodLink RX9 99 yX9_snoreIn ∈ TBL := tb8 (i := 34) rfl rfl
theorem m_X9_102 : Cond.methodLink RX9 102 yX9_noise ∈ TBL := tb8 (i := 30) rfl rfl
theorem m_X9_105 : Cond.methodLink RX9 105 yX9_deed ∈ TBL := tb8 (i := 22) rfl rfl
theorem m_X9_108 : Cond.methodLink RX9 108 yJ9_min_7cf53 ∈ TBL := tb7 (i := 101) rfl rfl
theorem m_X9_113 : Cond.methodLink RX9 113 yX9_increase ∈ TBL := tb8 (i := 58) rfl rfl
theorem m_X9_116 : Cond.methodLink RX9 116 yX9_pay ∈ TBL := tb8 (i := 82) rfl rfl
theorem m_X9_119 : Cond.methodLink RX9 119 yX9_countWithout ∈ TBL := tb8 (i := 94) rfl rfl
theorem m_X9_122 : Cond.methodLink RX9 122 yX9_payLogs ∈ TBL := tb8 (i := 86) rfl rfl
theorem m_X9_125 : Cond.methodLink RX9 125 yX9_share ∈ TBL := tb8 (i := 90) rfl rfl
theorem m_X9_129 : Cond.methodLink RX9 129 yX9_burn ∈ TBL := tb8 (i := 74) rfl rfl
theorem m_X9_132 : Cond.methodLink RX9 132 yX9_dawn ∈ TBL := tb8 (i := 78) rfl rfl
theorem m_X9_135 : Cond.methodLink RX9 135 yX9_passHour ∈ TBL := tb8 (i := 70) rfl rfl
theorem m_X9_141 : Cond.methodLink RX9 141 yX9_fail ∈ TBL := tb7 (i := 56) rfl rfl
theorem m_X9_147 : Cond.methodLink RX9 147 yX9_isFine ∈ TBL := tb7 (i := 86) rfl rfl
theorem m_X9_157 : Cond.methodLink RX9 157 yX9_byteAt ∈ TBL := tb7 (i := 90) rfl rfl
theorem m_X9_163 : Cond.methodLink RX9 163 yX9_isLetter ∈ TBL := tb7 (i := 94) rfl rfl
theorem m_X9_166 : Cond.methodLink RX9 166 yX9_isDigit ∈ TBL := tb7 (i := 97) rfl rfl
theorem m_X9_176 : Cond.methodLink RX9 176 yX9_proceed ∈ TBL := tb7 (i := 82) rfl rfl
theorem m_X9_179 : Cond.methodLink RX9 179 yJ0_length_8abf5 ∈ TBL := tb7 (i := 115) rfl rfl
theorem m_X9_184 : Cond.methodLink RX9 184 yJ0_charAt_5068e ∈ TBL := tb7 (i := 116) rfl rfl
theorem m_X9_188 : Cond.methodLink RX9 188 yX9_require ∈ TBL := tb7 (i := 117) rfl rfl
theorem m_X9_192 : Cond.methodLink RX9 192 yX9_parseNumber ∈ TBL := tb7 (i := 125) rfl rfl
theorem m_X9_195 : Cond.methodLink RX9 195 yX9_isWord ∈ TBL := tb7 (i := 111) rfl rfl
theorem m_X9_199 : Cond.methodLink RX9 199 yX9_parseOneOf ∈ TBL := tb7 (i := 138) rfl rfl
theorem m_X9_202 : Cond.methodLink RX9 202 yX9_parseEnd ∈ TBL := tb7 (i := 129) rfl rfl
theorem m_X9_207 : Cond.methodLink RX9 207 yX9_parseRange ∈ TBL := tb7 (i := 121) rfl rfl
theorem m_X9_212 : Cond.methodLink RX9 212 yX9_parseWord ∈ TBL := tb7 (i := 107) rfl rfl
theorem m_X9_218 : Cond.methodLink RX9 218 yX9_parseRow ∈ TBL := tb7 (i := 134) rfl rfl
theorem m_X9_226 : Cond.methodLink RX9 226 yX9_parseHiker ∈ TBL := tb7 (i := 144) rfl rfl
theorem m_X9_229 : Cond.methodLink RX9 229 yX9_goAside ∈ TBL := tb7 (i := 71) rfl rfl
theorem m_X9_232 : Cond.methodLink RX9 232 yX9_startText ∈ TBL := tb7 (i := 78) rfl rfl
theorem m_X9_235 : Cond.methodLink RX9 235 yX9_parseHut ∈ TBL := tb7 (i := 102) rfl rfl
theorem m_X9_238 : Cond.methodLink RX9 238 yX9_comeBack ∈ TBL := tb7 (i := 149) rfl rfl
theorem m_X9_254 : Cond.methodLink RX9 254 yX9_rareCommandHere ∈ TBL := tb7 (i := 170) rfl rfl
theorem m_X9_263 : Cond.methodLink RX9 263 yX9_commandHere ∈ TBL := tb7 (i := 161) rfl rfl
theorem m_X9_266 : Cond.methodLink RX9 266 yX9_parseFirst ∈ TBL := tb7 (i := 178) rfl rfl
theorem m_X9_269 : Cond.methodLink RX9 269 yX9_parseSecond ∈ TBL := tb7 (i := 182) rfl rfl
theorem m_X9_272 : Cond.methodLink RX9 272 yX9_takeBlanket ∈ TBL := tb7 (i := 190) rfl rfl
theorem m_X9_275 : Cond.methodLink RX9 275 yX9_returnBlanket ∈ TBL := tb8 (i := 6) rfl rfl
theorem m_X9_278 : Cond.methodLink RX9 278 yX9_swapBlankets ∈ TBL := tb8 (i := 10) rfl rfl
theorem m_X9_281 : Cond.methodLink RX9 281 yX9_lieDown ∈ TBL := tb8 (i := 38) rfl rfl
theorem m_X9_284 : Cond.methodLink RX9 284 yX9_getUp ∈ TBL := tb8 (i := 42) rfl rfl
theorem m_X9_287 : Cond.methodLink RX9 287 yX9_setRate ∈ TBL := tb8 (i := 46) rfl rfl
theorem m_X9_290 : Cond.methodLink RX9 290 yX9_fetchLogs ∈ TBL := tb8 (i := 50) rfl rfl
theorem m_X9_293 : Cond.methodLink RX9 293 yX9_payDebt ∈ TBL := tb8 (i := 54) rfl rfl
theorem m_X9_296 : Cond.methodLink RX9 296 yX9_passHours ∈ TBL := tb8 (i := 62) rfl rfl
theorem m_X9_299 : Cond.methodLink RX9 299 yX9_parseCommand ∈ TBL := tb7 (i := 157) rfl rfl
theorem m_X9_302 : Cond.methodLink RX9 302 yX9_execute ∈ TBL := tb7 (i := 186) rfl rfl
theorem m_X9_305 : Cond.methodLink RX9 305 yX9_tell ∈ TBL := tb8 (i := 98) rfl rfl
theorem m_X9_308 : Cond.methodLink RX9 308 yX9_toDawn ∈ TBL := tb8 (i := 118) rfl rfl
theorem m_X9_311 : Cond.methodLink RX9 311 yX9_isQuieter ∈ TBL := tb8 (i := 142) rfl rfl
theorem m_X9_315 : Cond.methodLink RX9 315 yJ9_max_7cf53 ∈ TBL := tb8 (i := 150) rfl rfl
theorem m_X9_318 : Cond.methodLink RX9 318 yX9_countDeed ∈ TBL := tb8 (i := 18) rfl rfl
theorem m_X9_321 : Cond.methodLink RX9 321 yX9_sleepersWith ∈ TBL := tb8 (i := 159) rfl rfl
theorem m_X9_324 : Cond.methodLink RX9 324 yX9_isHiker ∈ TBL := tb7 (i := 194) rfl rfl
theorem m_X9_327 : Cond.methodLink RX9 327 yX9_sleepersIf ∈ TBL := tb8 (i := 155) rfl rfl
theorem m_X9_330 : Cond.methodLink RX9 330 yX9_isFreeFor ∈ TBL := tb8 (i := 163) rfl rfl
theorem m_X9_333 : Cond.methodLink RX9 333 yX9_isBlanket ∈ TBL := tb7 (i := 198) rfl rfl
theorem m_X9_336 : Cond.methodLink RX9 336 yX9_isOnPile ∈ TBL := tb7 (i := 202) rfl rfl
theorem m_X9_339 : Cond.methodLink RX9 339 yX9_rankOnPile ∈ TBL := tb8 (i := 175) rfl rfl
theorem m_X9_342 : Cond.methodLink RX9 342 yX9_countPile ∈ TBL := tb8 (i := 183) rfl rfl
theorem m_X9_345 : Cond.methodLink RX9 345 yX9_tellOf ∈ TBL := tb8 (i := 199) rfl rfl
theorem m_X9_348 : Cond.methodLink RX9 348 yX9_isAhead ∈ TBL := tb8 (i := 235) rfl rfl
theorem m_X9_351 : Cond.methodLink RX9 351 yX9_rankOf ∈ TBL := tb8 (i := 231) rfl rfl
theorem m_X9_354 : Cond.methodLink RX9 354 yX9_awakeWithout ∈ TBL := tb9 (i := 3) rfl rfl
theorem m_X9_357 : Cond.methodLink RX9 357 yX9_missing ∈ TBL := tb9 (i := 19) rfl rfl
theorem m_X9_360 : Cond.methodLink RX9 360 yX9_thinnest ∈ TBL := tb9 (i := 31) rfl rfl
theorem m_X9_363 : Cond.methodLink RX9 363 yX9_give ∈ TBL := tb9 (i := 27) rfl rfl
theorem m_X9_366 : Cond.methodLink RX9 366 yX9_exchange ∈ TBL := tb8 (i := 14) rfl rfl
theorem m_X9_370 : Cond.methodLink RX9 370 yX9_coldBehind ∈ TBL := tb9 (i := 39) rfl rfl
theorem m_X9_373 : Cond.methodLink RX9 373 yX9_goodness ∈ TBL := tb9 (i := 47) rfl rfl
theorem m_X9_376 : Cond.methodLink RX9 376 yX9_sumOf ∈ TBL := tb9 (i := 63) rfl rfl
theorem m_X9_379 : Cond.methodLink RX9 379 yJ9_abs_0f7a4 ∈ TBL := tb9 (i := 71) rfl rfl
theorem m_X9_382 : Cond.methodLink RX9 382 yX9_countTwice ∈ TBL := tb9 (i := 72) rfl rfl
theorem m_X9_385 : Cond.methodLink RX9 385 yX9_passMany ∈ TBL := tb8 (i := 66) rfl rfl
theorem m_X9_388 : Cond.methodLink RX9 388 yX9_isAheadOfNow ∈ TBL := tb9 (i := 88) rfl rfl
theorem m_X9_391 : Cond.methodLink RX9 391 yX9_insideBehind ∈ TBL := tb9 (i := 91) rfl rfl
theorem m_X9_394 : Cond.methodLink RX9 394 yX9_growth ∈ TBL := tb9 (i := 99) rfl rfl
theorem m_X9_398 : Cond.methodLink RX9 398 yX9_dueAtDawn ∈ TBL := tb9 (i := 107) rfl rfl
theorem m_X9_401 : Cond.methodLink RX9 401 yX9_debtBehind ∈ TBL := tb9 (i := 115) rfl rfl
theorem m_X9_404 : Cond.methodLink RX9 404 yX9_dawnsToDebt ∈ TBL := tb9 (i := 123) rfl rfl
theorem m_X9_407 : Cond.methodLink RX9 407 yX9_hoursToNoLogs ∈ TBL := tb9 (i := 131) rfl rfl
theorem m_X9_410 : Cond.methodLink RX9 410 yX9_hoursWith ∈ TBL := tb9 (i := 139) rfl rfl
theorem m_X9_413 : Cond.methodLink RX9 413 yX9_record ∈ TBL := tb7 (i := 218) rfl rfl
theorem m_X9_416 : Cond.methodLink RX9 416 yX9_change ∈ TBL := tb7 (i := 214) rfl rfl
theorem m_X9_422 : Cond.methodLink RX9 422 yX9_writeNumber ∈ TBL := tb9 (i := 176) rfl rfl
theorem m_X9_425 : Cond.methodLink RX9 425 yX9_writeByte ∈ TBL := tb9 (i := 160) rfl rfl
theorem m_X9_428 : Cond.methodLink RX9 428 yX9_writeHiker ∈ TBL := tb9 (i := 164) rfl rfl
theorem m_X9_431 : Cond.methodLink RX9 431 yX9_writeAccount ∈ TBL := tb9 (i := 172) rfl rfl
theorem m_J0_335 : Cond.methodLink RJ0 335 yJ0_coder_7d493 ∈ TBL := tb2 (i := 70) rfl rfl
theorem m_J0_492 : Cond.methodLink RJ0 492 yJ0_isLatin1_aae02 ∈ TBL := tb2 (i := 80) rfl rfl
theorem m_J0_495 : Cond.methodLink RJ0 495 yJ1_charAt_3b067 ∈ TBL := tb2 (i := 84) rfl rfl
theorem m_J0_498 : Cond.methodLink RJ0 498 yJ2_charAt_3b067 ∈ TBL := tb2 (i := 95) rfl rfl
theorem m_J0_1059 : Cond.methodLink RJ0 1059 yJ3_checkIndex_8e157 ∈ TBL := tb2 (i := 92) rfl rfl
theorem m_J1_9 : Cond.methodLink RJ1 9 yJ0_checkIndex_df160 ∈ TBL := tb2 (i := 87) rfl rfl
theorem m_J2_48 : Cond.methodLink RJ2 48 yJ2_length_9d52b ∈ TBL := tb2 (i := 101) rfl rfl
theorem m_J2_67 : Cond.methodLink RJ2 67 yJ2_checkIndex_2214a ∈ TBL := tb2 (i := 98) rfl rfl
theorem m_J2_71 : Cond.methodLink RJ2 71 yJ2_getChar_3b067 ∈ TBL := tb2 (i := 105) rfl rfl
theorem m_J2_414 : Cond.methodLink RJ2 414 yJ0_checkIndex_df160 ∈ TBL := tb2 (i := 104) rfl rfl
theorem k_X8_7 : Cond.classLink RX8 7 RX3 ∈ TBL := tb1 (i := 32) rfl rfl
theorem k_X8_19 : Cond.classLink RX8 19 RX5 ∈ TBL := tb1 (i := 178) rfl rfl
theorem k_X8_26 : Cond.classLink RX8 26 RX2 ∈ TBL := tb1 (i := 190) rfl rfl
theorem k_X8_45 : Cond.classLink RX8 45 RX0 ∈ TBL := tb1 (i := 212) rfl rfl
theorem k_X8_52 : Cond.classLink RX8 52 RX6 ∈ TBL := tb2 (i := 20) rfl rfl
theorem k_X8_59 : Cond.classLink RX8 59 RX4 ∈ TBL := tb2 (i := 46) rfl rfl
theorem k_X0_9 : Cond.classLink RX0 9 RX7 ∈ TBL := tb1 (i := 218) rfl rfl
theorem k_X3_27 : Cond.classLink RX3 27 RX1 ∈ TBL := tb1 (i := 38) rfl rfl
theorem k_X5_9 : Cond.classLink RX5 9 RX3 ∈ TBL := tb1 (i := 184) rfl rfl
theorem k_L_8 : Cond.classLink RL 8 RX8 ∈ TBL := tb1 (i := 24) rfl rfl
theorem k_L_124 : Cond.classLink RL 124 RX9 ∈ TBL := tb6 (i := 206) rfl rfl
theorem n_X8 : Cond.instantiable RX8 9 ∈ TBL ∧ Cond.initialized RX8 ∈ TBL := ⟨tb1 (i := 25) rfl rfl, tb1 (i := 1) rfl rfl⟩
theorem n_X0 : Cond.instantiable RX0 4 ∈ TBL ∧ Cond.initialized RX0 ∈ TBL := ⟨tb1 (i := 213) rfl rfl, tb1 (i := 6) rfl rfl⟩
theorem n_X1 : Cond.instantiable RX1 9 ∈ TBL ∧ Cond.initialized RX1 ∈ TBL := ⟨tb1 (i := 40) rfl rfl, tb1 (i := 3) rfl rfl⟩
theorem n_X2 : Cond.instantiable RX2 3 ∈ TBL ∧ Cond.initialized RX2 ∈ TBL := ⟨tb1 (i := 191) rfl rfl, tb1 (i := 5) rfl rfl⟩
theorem n_X3 : Cond.instantiable RX3 19 ∈ TBL ∧ Cond.initialized RX3 ∈ TBL := ⟨tb1 (i := 33) rfl rfl, tb1 (i := 2) rfl rfl⟩
theorem n_X4 : Cond.instantiable RX4 2 ∈ TBL ∧ Cond.initialized RX4 ∈ TBL := ⟨tb2 (i := 47) rfl rfl, tb1 (i := 9) rfl rfl⟩
theorem n_X5 : Cond.instantiable RX5 1 ∈ TBL ∧ Cond.initialized RX5 ∈ TBL := ⟨tb1 (i := 179) rfl rfl, tb1 (i := 4) rfl rfl⟩
theorem n_X6 : Cond.instantiable RX6 4 ∈ TBL ∧ Cond.initialized RX6 ∈ TBL := ⟨tb2 (i := 21) rfl rfl, tb1 (i := 8) rfl rfl⟩
theorem n_X7 : Cond.instantiable RX7 5 ∈ TBL ∧ Cond.initialized RX7 ∈ TBL := ⟨tb1 (i := 219) rfl rfl, tb1 (i := 7) rfl rfl⟩
theorem n_X9 : Cond.instantiable RX9 21 ∈ TBL ∧ Cond.initialized RX9 ∈ TBL := ⟨tb6 (i := 207) rfl rfl, tb1 (i := 15) rfl rfl⟩
theorem q_X3_163 : Cond.constant RX3 163 2147483647 ∈ TBL := tb4 (i := 96) rfl rfl
theorem q_X4_19 : Cond.constant RX4 19 1000000000 ∈ TBL := tb4 (i := 209) rfl rfl
theorem q_X9_172 : Cond.constant RX9 172 100000 ∈ TBL := tb7 (i := 100) rfl rfl
theorem a_int : Cond.arrayClass .int ∈ TBL := tb1 (i := 96) rfl rfl
theorem a_byte : Cond.arrayClass .byte ∈ TBL := tb3 (i := 25) rfl rfl
theorem a_boolean : Cond.arrayClass .boolean ∈ TBL := tb2 (i := 3) rfl rfl
theorem a_long : Cond.arrayClass .long ∈ TBL := tb9 (i := 196) rfl rfl
theorem o_init : Cond.instanceMethod Lib.objectInit ∈ TBL ∧ Cond.code Lib.objectInit ⟨#[0xb1]⟩ 1 none ∈ TBL := ⟨tb1 (i := 30) rfl rfl, tb1 (i := 31) rfl rfl⟩
theorem z_min : Cond.static Lib.Math.min.name ∈ TBL ∧ Cond.initialized "java/lang/Math" ∈ TBL ∧ Cond.code Lib.Math.min.name Lib.Math.min.code 2 (some .int) ∈ TBL := ⟨tb2 (i := 168) rfl rfl, tb1 (i := 14) rfl rfl, tb2 (i := 169) rfl rfl⟩
theorem z_max : Cond.static Lib.Math.max.name ∈ TBL ∧ Cond.initialized "java/lang/Math" ∈ TBL ∧ Cond.code Lib.Math.max.name Lib.Math.max.code 2 (some .int) ∈ TBL := ⟨tb4 (i := 32) rfl rfl, tb1 (i := 14) rfl rfl, tb4 (i := 33) rfl rfl⟩
theorem z_abs : Cond.static Lib.Math.abs.name ∈ TBL ∧ Cond.initialized "java/lang/Math" ∈ TBL ∧ Cond.code Lib.Math.abs.name Lib.Math.abs.code 1 (some .int) ∈ TBL := ⟨tb4 (i := 130) rfl rfl, tb1 (i := 14) rfl rfl, tb4 (i := 131) rfl rfl⟩
theorem z_copy : Cond.native arraycopyName ∈ TBL ∧ Cond.static arraycopyName ∈ TBL ∧ Cond.initialized "java/lang/System" ∈ TBL := ⟨tb3 (i := 36) rfl rfl, tb3 (i := 35) rfl rfl, tb1 (i := 21) rfl rfl⟩
theorem m_X3_81c : Cond.methodLink RX3 81 arraycopyName ∈ TBL := tb3 (i := 34) rfl rfl
theorem m_X1_40c : Cond.methodLink RX1 40 arraycopyName ∈ TBL := tb3 (i := 41) rfl rfl
theorem m_X8_292m : Cond.methodLink RX8 292 Lib.Math.abs.name ∈ TBL := tb4 (i := 129) rfl rfl
theorem m_X2_32m : Cond.methodLink RX2 32 Lib.Math.min.name ∈ TBL := tb3 (i := 133) rfl rfl
theorem m_X3_134m : Cond.methodLink RX3 134 Lib.Math.max.name ∈ TBL := tb4 (i := 31) rfl rfl
theorem m_X3_158m : Cond.methodLink RX3 158 Lib.Math.min.name ∈ TBL := tb4 (i := 95) rfl rfl
theorem m_X7_52m : Cond.methodLink RX7 52 Lib.Math.min.name ∈ TBL := tb2 (i := 167) rfl rfl
theorem m_X9_108m : Cond.methodLink RX9 108 Lib.Math.min.name ∈ TBL := tb7 (i := 101) rfl rfl
theorem m_X9_315m : Cond.methodLink RX9 315 Lib.Math.max.name ∈ TBL := tb8 (i := 150) rfl rfl
theorem m_X9_379m : Cond.methodLink RX9 379 Lib.Math.abs.name ∈ TBL := tb9 (i := 71) rfl rfl
def nST : Nat := 15
def bytST : Nat → List Int32 := fun k => match k with
  | 0 => [104, 117, 116, 32, 50, 48, 59, 32, 98, 117, 110, 107, 115, 32, 48, 32, 49, 32, 51, 32, 49, 32, 48, 59, 32, 98, 108, 97, 110, 107, 101, 116, 115, 32, 51, 32, 53, 32, 50, 59, 32, 102, 111, 114, 101, 99, 97, 115, 116, 32, 54, 32, 51, 32, 49, 32, 52, 59, 32, 104, 105, 107, 101, 114, 32, 49, 48, 32, 56, 32, 49, 50, 59, 32, 104, 105, 107, 101, 114, 32, 55, 32, 50, 32, 53, 59, 32, 104, 105, 107, 101, 114, 32, 49, 50, 32, 48, 32, 51, 48, 59, 32, 104, 105, 107, 101, 114, 32, 57, 32, 53, 32, 49, 59]
  | 1 => [104, 117, 116]
  | 2 => [98, 117, 110, 107, 115]
  | 3 => [98, 108, 97, 110, 107, 101, 116, 115]
  | 4 => [102, 111, 114, 101, 99, 97, 115, 116]
  | 5 => [104, 105, 107, 101, 114]
  | 6 => [116, 97, 107, 101]
  | 7 => [114, 101, 116, 117, 114, 110]
  | 8 => [115, 119, 97, 112]
  | 9 => [108, 105, 101]
  | 10 => [114, 105, 115, 101]
  | 11 => [98, 117, 114, 110]
  | 12 => [102, 101, 116, 99, 104]
  | 13 => [112, 97, 121]
  | 14 => [112, 97, 115, 115]
  | _ => []
def strTab : List (String × Nat × String × Nat) := [("HutLedger", 70, "hut 20; bunks 0 1 3 1 0; blankets 3 5 2; forecast 6 3 1 4; hiker 10 8 12; hiker 7 2 5; hiker 12 0 30; hiker 9 5 1;", 0), ("HutLedger", 92, "the text buffer would exceed 500 bytes", 28), ("HutLedger", 106, "no such length", 22), ("HutLedger", 193, "no such bunk", 19), ("HutLedger", 199, "no such hiker", 20), ("HutLedger", 204, "no such blanket", 18), ("HutLedger", 214, "no such rank", 23), ("HutLedger", 241, "no such activity", 17), ("HutLedger", 337, "hours out of range", 16), ("HutLedger", 345, "no such hiker, blanket or bunk", 21), ("HutLedger", 347, "argument out of range", 15), ("HutLedger", 349, "the hut does not allow this now", 27), ("HutLedger", 378, "nothing to undo", 26), ("HutLedger", 386, "no such snapshot", 24), ("HutLedger", 388, "no such snapshot number", 25), ("HutLedger$Grammar", 55, "hut", 1), ("HutLedger$Grammar", 79, "bunks", 2), ("HutLedger$Grammar", 95, "blankets", 3), ("HutLedger$Grammar", 103, "forecast", 4), ("HutLedger$Grammar", 120, "hiker", 5), ("HutLedger$Grammar", 161, "take", 6), ("HutLedger$Grammar", 163, "return", 7), ("HutLedger$Grammar", 165, "swap", 8), ("HutLedger$Grammar", 167, "lie", 9), ("HutLedger$Grammar", 169, "rise", 10), ("HutLedger$Grammar", 171, "burn", 11), ("HutLedger$Grammar", 173, "fetch", 12), ("HutLedger$Grammar", 175, "pay", 13), ("HutLedger$Grammar", 177, "pass", 14), ("HutLedgerModel", 205, "hiker", 5), ("HutLedgerModel", 210, "hut", 1), ("HutLedgerModel", 216, "bunks", 2), ("HutLedgerModel", 222, "blankets", 3), ("HutLedgerModel", 224, "forecast", 4), ("HutLedgerModel", 244, "take", 6), ("HutLedgerModel", 246, "return", 7), ("HutLedgerModel", 248, "swap", 8), ("HutLedgerModel", 250, "lie", 9), ("HutLedgerModel", 252, "rise", 10), ("HutLedgerModel", 257, "burn", 11), ("HutLedgerModel", 258, "fetch", 12), ("HutLedgerModel", 260, "pay", 13), ("HutLedgerModel", 261, "pass", 14)]
def nestTab : List (String × Nat × MethodName) := [(RX8, 21, yX5_init), (RX8, 28, yX2_init), (RX8, 47, yX0_init), (RX8, 54, yX6_init), (RX8, 61, yX4_init), (RX0, 11, yX7_init), (RX0, 144, yX8_isWithin), (RX2, 9, yX8_newHuts), (RX3, 33, yX1_init), (RX3, 164, yX8_isWithin), (RX5, 80, yX3_burnLogs)]
