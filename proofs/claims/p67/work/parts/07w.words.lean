/-! THE WORDS: those of the tables that stay under warming; each one that is used, by its place. -/
def selU : List Cond := [.selects RJ4 yJ5_ensureCapacityInternal_d00df yJ5_ensureCapacityInternal_d00df, .selects RJ4 yJ5_newCapacity_0f7a4 yJ5_newCapacity_0f7a4, .selects RJ4 yJ5_putStringAt_47b60 yJ5_putStringAt_47b60, .selects RJ4 yJ5_inflateIfNeededFor_a7421 yJ5_inflateIfNeededFor_a7421]
def lw_tbx : List Cond := selU ++ lw_tbl
def TBL : List Cond := lw_tbx.filter goodWord
theorem su_J5_ensureCapacityInternal_d00df : Cond.selects RJ4 yJ5_ensureCapacityInternal_d00df yJ5_ensureCapacityInternal_d00df ∈ TBL := List.mem_filter.mpr ⟨List.mem_append_left _ (List.mem_of_getElem? (i := 0) rfl), rfl⟩
theorem su_J5_newCapacity_0f7a4 : Cond.selects RJ4 yJ5_newCapacity_0f7a4 yJ5_newCapacity_0f7a4 ∈ TBL := List.mem_filter.mpr ⟨List.mem_append_left _ (List.mem_of_getElem? (i := 1) rfl), rfl⟩
theorem su_J5_putStringAt_47b60 : Cond.selects RJ4 yJ5_putStringAt_47b60 yJ5_putStringAt_47b60 ∈ TBL := List.mem_filter.mpr ⟨List.mem_append_left _ (List.mem_of_getElem? (i := 2) rfl), rfl⟩
theorem su_J5_inflateIfNeededFor_a7421 : Cond.selects RJ4 yJ5_inflateIfNeededFor_a7421 yJ5_inflateIfNeededFor_a7421 ∈ TBL := List.mem_filter.mpr ⟨List.mem_append_left _ (List.mem_of_getElem? (i := 3) rfl), rfl⟩
theorem tb1 {w : Cond} {i : Nat} (h : tables_1_1[i]? = some w) (hg : goodWord w = true) : w ∈ TBL := List.mem_filter.mpr ⟨List.mem_append_right _ (List.mem_append_right _ (List.mem_append_left _ (List.mem_of_getElem? h))), hg⟩
theorem tb2 {w : Cond} {i : Nat} (h : tables_1_2[i]? = some w) (hg : goodWord w = true) : w ∈ TBL := List.mem_filter.mpr ⟨List.mem_append_right _ (List.mem_append_right _ (List.mem_append_right _ (List.mem_append_left _ (List.mem_of_getElem? h)))), hg⟩
theorem tb3 {w : Cond} {i : Nat} (h : tables_1_3[i]? = some w) (hg : goodWord w = true) : w ∈ TBL := List.mem_filter.mpr ⟨List.mem_append_right _ (List.mem_append_right _ (List.mem_append_right _ (List.mem_append_right _ (List.mem_append_left _ (List.mem_of_getElem? h))))), hg⟩
theorem tb4 {w : Cond} {i : Nat} (h : tables_1_4[i]? = some w) (hg : goodWord w = true) : w ∈ TBL := List.mem_filter.mpr ⟨List.mem_append_right _ (List.mem_append_right _ (List.mem_append_right _ (List.mem_append_right _ (List.mem_append_right _ (List.mem_append_left _ (List.mem_of_getElem? h)))))), hg⟩
theorem tb5 {w : Cond} {i : Nat} (h : tables_1_5[i]? = some w) (hg : goodWord w = true) : w ∈ TBL := List.mem_filter.mpr ⟨List.mem_append_right _ (List.mem_append_right _ (List.mem_append_right _ (List.mem_append_right _ (List.mem_append_right _ (List.mem_append_right _ (List.mem_append_left _ (List.mem_of_getElem? h))))))), hg⟩
theorem tb6 {w : Cond} {i : Nat} (h : tables_1_6[i]? = some w) (hg : goodWord w = true) : w ∈ TBL := List.mem_filter.mpr ⟨List.mem_append_right _ (List.mem_append_right _ (List.mem_append_right _ (List.mem_append_right _ (List.mem_append_right _ (List.mem_append_right _ (List.mem_append_right _ (List.mem_append_left _ (List.mem_of_getElem? h)))))))), hg⟩
theorem tb7 {w : Cond} {i : Nat} (h : tables_1_7[i]? = some w) (hg : goodWord w = true) : w ∈ TBL := List.mem_filter.mpr ⟨List.mem_append_right _ (List.mem_append_right _ (List.mem_append_right _ (List.mem_append_right _ (List.mem_append_right _ (List.mem_append_right _ (List.mem_append_right _ (List.mem_append_right _ (List.mem_of_getElem? h)))))))), hg⟩
theorem tp1 {y : MethodName} {n i : Nat} (h : lw_privs_1[i]? = some (y, n)) : Cond.selects y.cls y y ∈ TBL := List.mem_filter.mpr ⟨List.mem_append_right _ (List.mem_append_left _ (List.mem_map.mpr ⟨(y, n), List.mem_append_left _ (List.mem_of_getElem? h), rfl⟩)), rfl⟩
theorem tp2 {y : MethodName} {n i : Nat} (h : lw_privs_2[i]? = some (y, n)) : Cond.selects y.cls y y ∈ TBL := List.mem_filter.mpr ⟨List.mem_append_right _ (List.mem_append_left _ (List.mem_map.mpr ⟨(y, n), List.mem_append_right _ (List.mem_append_left _ (List.mem_of_getElem? h)), rfl⟩)), rfl⟩
theorem tp3 {y : MethodName} {n i : Nat} (h : lw_privs_3[i]? = some (y, n)) : Cond.selects y.cls y y ∈ TBL := List.mem_filter.mpr ⟨List.mem_append_right _ (List.mem_append_left _ (List.mem_map.mpr ⟨(y, n), List.mem_append_right _ (List.mem_append_right _ (List.mem_append_left _ (List.mem_of_getElem? h))), rfl⟩)), rfl⟩
theorem tp4 {y : MethodName} {n i : Nat} (h : lw_privs_4[i]? = some (y, n)) : Cond.selects y.cls y y ∈ TBL := List.mem_filter.mpr ⟨List.mem_append_right _ (List.mem_append_left _ (List.mem_map.mpr ⟨(y, n), List.mem_append_right _ (List.mem_append_right _ (List.mem_append_right _ (List.mem_of_getElem? h))), rfl⟩)), rfl⟩
theorem in_X0 : ∀ w ∈ u_ws RX0 TX0 4, w ∈ TBL := by
  intro w hw
  obtain ⟨k, hk, rfl⟩ := List.mem_map.mp hw
  have hk := List.mem_range.mp hk
  match k, hk with
  | 0, _ => exact tb2 (i := 13) rfl rfl
  | 1, _ => exact tb2 (i := 15) rfl rfl
  | 2, _ => exact tb2 (i := 17) rfl rfl
  | 3, _ => exact tb2 (i := 19) rfl rfl
  | k + 4, h => exact absurd h (by omega)
theorem in_X1 : ∀ w ∈ u_ws RX1 TX1 9, w ∈ TBL := by
  intro w hw
  obtain ⟨k, hk, rfl⟩ := List.mem_map.mp hw
  have hk := List.mem_range.mp hk
  match k, hk with
  | 0, _ => exact tb1 (i := 87) rfl rfl
  | 1, _ => exact tb1 (i := 89) rfl rfl
  | 2, _ => exact tb1 (i := 91) rfl rfl
  | 3, _ => exact tb1 (i := 93) rfl rfl
  | 4, _ => exact tb1 (i := 95) rfl rfl
  | 5, _ => exact tb1 (i := 97) rfl rfl
  | 6, _ => exact tb1 (i := 99) rfl rfl
  | 7, _ => exact tb1 (i := 101) rfl rfl
  | 8, _ => exact tb1 (i := 103) rfl rfl
  | k + 9, h => exact absurd h (by omega)
theorem in_X2 : ∀ w ∈ u_ws RX2 TX2 3, w ∈ TBL := by
  intro w hw
  obtain ⟨k, hk, rfl⟩ := List.mem_map.mp hw
  have hk := List.mem_range.mp hk
  match k, hk with
  | 0, _ => exact tb1 (i := 208) rfl rfl
  | 1, _ => exact tb1 (i := 210) rfl rfl
  | 2, _ => exact tb1 (i := 212) rfl rfl
  | k + 3, h => exact absurd h (by omega)
theorem in_X3 : ∀ w ∈ u_ws RX3 TX3 19, w ∈ TBL := by
  intro w hw
  obtain ⟨k, hk, rfl⟩ := List.mem_map.mp hw
  have hk := List.mem_range.mp hk
  match k, hk with
  | 0, _ => exact tb1 (i := 143) rfl rfl
  | 1, _ => exact tb1 (i := 145) rfl rfl
  | 2, _ => exact tb1 (i := 147) rfl rfl
  | 3, _ => exact tb1 (i := 149) rfl rfl
  | 4, _ => exact tb1 (i := 151) rfl rfl
  | 5, _ => exact tb1 (i := 153) rfl rfl
  | 6, _ => exact tb1 (i := 155) rfl rfl
  | 7, _ => exact tb1 (i := 157) rfl rfl
  | 8, _ => exact tb1 (i := 159) rfl rfl
  | 9, _ => exact tb1 (i := 161) rfl rfl
  | 10, _ => exact tb1 (i := 163) rfl rfl
  | 11, _ => exact tb1 (i := 165) rfl rfl
  | 12, _ => exact tb1 (i := 167) rfl rfl
  | 13, _ => exact tb1 (i := 169) rfl rfl
  | 14, _ => exact tb1 (i := 171) rfl rfl
  | 15, _ => exact tb1 (i := 173) rfl rfl
  | 16, _ => exact tb1 (i := 175) rfl rfl
  | 17, _ => exact tb1 (i := 177) rfl rfl
  | 18, _ => exact tb1 (i := 179) rfl rfl
  | k + 19, h => exact absurd h (by omega)
theorem in_X4 : ∀ w ∈ u_ws RX4 TX4 2, w ∈ TBL := by
  intro w hw
  obtain ⟨k, hk, rfl⟩ := List.mem_map.mp hw
  have hk := List.mem_range.mp hk
  match k, hk with
  | 0, _ => exact tb2 (i := 47) rfl rfl
  | 1, _ => exact tb2 (i := 49) rfl rfl
  | k + 2, h => exact absurd h (by omega)
theorem in_X5 : ∀ w ∈ u_ws RX5 TX5 1, w ∈ TBL := by
  intro w hw
  obtain ⟨k, hk, rfl⟩ := List.mem_map.mp hw
  have hk := List.mem_range.mp hk
  match k, hk with
  | 0, _ => exact tb1 (i := 191) rfl rfl
  | k + 1, h => exact absurd h (by omega)
theorem in_X6 : ∀ w ∈ u_ws RX6 TX6 4, w ∈ TBL := by
  intro w hw
  obtain ⟨k, hk, rfl⟩ := List.mem_map.mp hw
  have hk := List.mem_range.mp hk
  match k, hk with
  | 0, _ => exact tb2 (i := 31) rfl rfl
  | 1, _ => exact tb2 (i := 33) rfl rfl
  | 2, _ => exact tb2 (i := 35) rfl rfl
  | 3, _ => exact tb2 (i := 37) rfl rfl
  | k + 4, h => exact absurd h (by omega)
theorem in_X7 : ∀ w ∈ u_ws RX7 TX7 5, w ∈ TBL := by
  intro w hw
  obtain ⟨k, hk, rfl⟩ := List.mem_map.mp hw
  have hk := List.mem_range.mp hk
  match k, hk with
  | 0, _ => exact tb1 (i := 236) rfl rfl
  | 1, _ => exact tb1 (i := 238) rfl rfl
  | 2, _ => exact tb2 (i := 0) rfl rfl
  | 3, _ => exact tb2 (i := 2) rfl rfl
  | 4, _ => exact tb2 (i := 4) rfl rfl
  | k + 5, h => exact absurd h (by omega)
theorem in_X8 : ∀ w ∈ u_ws RX8 TX8 9, w ∈ TBL := by
  intro w hw
  obtain ⟨k, hk, rfl⟩ := List.mem_map.mp hw
  have hk := List.mem_range.mp hk
  match k, hk with
  | 0, _ => exact tb2 (i := 237) rfl rfl
  | 1, _ => exact tb2 (i := 239) rfl rfl
  | 2, _ => exact tb3 (i := 1) rfl rfl
  | 3, _ => exact tb3 (i := 3) rfl rfl
  | 4, _ => exact tb3 (i := 5) rfl rfl
  | 5, _ => exact tb3 (i := 7) rfl rfl
  | 6, _ => exact tb3 (i := 9) rfl rfl
  | 7, _ => exact tb3 (i := 11) rfl rfl
  | 8, _ => exact tb3 (i := 13) rfl rfl
  | k + 9, h => exact absurd h (by omega)
theorem in_X9 : ∀ w ∈ u_ws RX9 TX9 8, w ∈ TBL := by
  intro w hw
  obtain ⟨k, hk, rfl⟩ := List.mem_map.mp hw
  have hk := List.mem_range.mp hk
  match k, hk with
  | 0, _ => exact tb4 (i := 75) rfl rfl
  | 1, _ => exact tb4 (i := 77) rfl rfl
  | 2, _ => exact tb4 (i := 79) rfl rfl
  | 3, _ => exact tb4 (i := 81) rfl rfl
  | 4, _ => exact tb4 (i := 83) rfl rfl
  | 5, _ => exact tb4 (i := 85) rfl rfl
  | 6, _ => exact tb4 (i := 87) rfl rfl
  | 7, _ => exact tb4 (i := 89) rfl rfl
  | k + 8, h => exact absurd h (by omega)
theorem in_L : ∀ w ∈ u_ws RL TL 17, w ∈ TBL := by
  intro w hw
  obtain ⟨k, hk, rfl⟩ := List.mem_map.mp hw
  have hk := List.mem_range.mp hk
  match k, hk with
  | 0, _ => exact tb3 (i := 60) rfl rfl
  | 1, _ => exact tb3 (i := 62) rfl rfl
  | 2, _ => exact tb3 (i := 64) rfl rfl
  | 3, _ => exact tb3 (i := 66) rfl rfl
  | 4, _ => exact tb3 (i := 68) rfl rfl
  | 5, _ => exact tb3 (i := 70) rfl rfl
  | 6, _ => exact tb3 (i := 72) rfl rfl
  | 7, _ => exact tb3 (i := 74) rfl rfl
  | 8, _ => exact tb3 (i := 76) rfl rfl
  | 9, _ => exact tb3 (i := 78) rfl rfl
  | 10, _ => exact tb3 (i := 80) rfl rfl
  | 11, _ => exact tb3 (i := 82) rfl rfl
  | 12, _ => exact tb3 (i := 84) rfl rfl
  | 13, _ => exact tb3 (i := 86) rfl rfl
  | 14, _ => exact tb3 (i := 88) rfl rfl
  | 15, _ => exact tb3 (i := 90) rfl rfl
  | 16, _ => exact tb3 (i := 92) rfl rfl
  | k + 17, h => exact absurd h (by omega)
theorem in_J4 : ∀ w ∈ u_ws RJ4 TJ4 4, w ∈ TBL := by
  intro w hw
  obtain ⟨k, hk, rfl⟩ := List.mem_map.mp hw
  have hk := List.mem_range.mp hk
  match k, hk with
  | 0, _ => exact tb4 (i := 8) rfl rfl
  | 1, _ => exact tb4 (i := 10) rfl rfl
  | 2, _ => exact tb4 (i := 12) rfl rfl
  | 3, _ => exact tb4 (i := 14) rfl rfl
  | k + 4, h => exact absurd h (by omega)
theorem in_Jx4a65c : ∀ w ∈ u_ws RJx4a65c TJx4a65c 3, w ∈ TBL := by
  intro w hw
  obtain ⟨k, hk, rfl⟩ := List.mem_map.mp hw
  have hk := List.mem_range.mp hk
  match k, hk with
  | 0, _ => exact tb3 (i := 40) rfl rfl
  | 1, _ => exact tb3 (i := 36) rfl rfl
  | 2, _ => exact tb3 (i := 38) rfl rfl
  | k + 3, h => exact absurd h (by omega)
theorem in_J0 : ∀ w ∈ u_ws RJ0 TJ0 4, w ∈ TBL := by
  intro w hw
  obtain ⟨k, hk, rfl⟩ := List.mem_map.mp hw
  have hk := List.mem_range.mp hk
  match k, hk with
  | 0, _ => exact tb5 (i := 33) rfl rfl
  | 1, _ => exact tb5 (i := 35) rfl rfl
  | 2, _ => exact tb5 (i := 37) rfl rfl
  | 3, _ => exact tb5 (i := 39) rfl rfl
  | k + 4, h => exact absurd h (by omega)
/-- what the tables say of a class' fields -/
def FLc (ci : Nat) : Prop := ∀ (C : String) (T : u_T) (N : Nat), vwCl[ci]? = some (C, T, N) → (∀ w ∈ u_ws C T N, w ∈ TBL) ∧ (∃ ty : Nat → FieldType, ∀ k, k < N → parseFieldDescriptor (T k).2.2.1 = some (ty k)) ∧ (∀ a, a < N → ∀ b, b < N → a ≠ b → (T a).2.1 ≠ (T b).2.1)
theorem flc0 : FLc 0 := by
  intro C T N h
  cases h
  exact ⟨in_X0, ⟨tyX0, tyX0_ok⟩, nmX0⟩
theorem flc1 : FLc 1 := by
  intro C T N h
  cases h
  exact ⟨in_X1, ⟨tyX1, tyX1_ok⟩, nmX1⟩
theorem flc2 : FLc 2 := by
  intro C T N h
  cases h
  exact ⟨in_X2, ⟨tyX2, tyX2_ok⟩, nmX2⟩
theorem flc3 : FLc 3 := by
  intro C T N h
  cases h
  exact ⟨in_X3, ⟨tyX3, tyX3_ok⟩, nmX3⟩
theorem flc4 : FLc 4 := by
  intro C T N h
  cases h
  exact ⟨in_X4, ⟨tyX4, tyX4_ok⟩, nmX4⟩
theorem flc5 : FLc 5 := by
  intro C T N h
  cases h
  exact ⟨in_X5, ⟨tyX5, tyX5_ok⟩, nmX5⟩
theorem flc6 : FLc 6 := by
  intro C T N h
  cases h
  exact ⟨in_X6, ⟨tyX6, tyX6_ok⟩, nmX6⟩
theorem flc7 : FLc 7 := by
  intro C T N h
  cases h
  exact ⟨in_X7, ⟨tyX7, tyX7_ok⟩, nmX7⟩
theorem flc8 : FLc 8 := by
  intro C T N h
  cases h
  exact ⟨in_X8, ⟨tyX8, tyX8_ok⟩, nmX8⟩
theorem flc9 : FLc 9 := by
  intro C T N h
  cases h
  exact ⟨in_X9, ⟨tyX9, tyX9_ok⟩, nmX9⟩
theorem flc10 : FLc 10 := by
  intro C T N h
  cases h
  exact ⟨in_L, ⟨tyL, tyL_ok⟩, nmL⟩
theorem flc11 : FLc 11 := by
  intro C T N h
  cases h
  exact ⟨in_J4, ⟨tyJ4, tyJ4_ok⟩, nmJ4⟩
theorem flc12 : FLc 12 := by
  intro C T N h
  cases h
  exact ⟨in_Jx4a65c, ⟨tyJx4a65c, tyJx4a65c_ok⟩, nmJx4a65c⟩
theorem flc13 : FLc 13 := by
  intro C T N h
  cases h
  exact ⟨in_J0, ⟨tyJ0, tyJ0_ok⟩, nmJ0⟩
def FL (own : String) (idx ci k : Nat) (fin : Bool) (ty : FieldType) : Prop := FLc ci ∧ ∃ (C : String) (T : u_T) (N : Nat), vwCl[ci]? = some (C, T, N) ∧ k < N ∧ (∃ ref : String, Cond.fieldLink own idx ref (T k).2.1 (T k).2.2.1 ∈ TBL ∧ (ref = (T k).1 ∨ Cond.sameField ref (T k).1 (T k).2.1 (T k).2.2.1 ∈ TBL)) ∧ (T k).2.2.2 = fin ∧ parseFieldDescriptor (T k).2.2.1 = some ty
theorem f_X8_10 : FL RX8 10 8 0 true (.object "HutLedger$Hut") := ⟨flc8, RX8, TX8, 9, rfl, by decide, ⟨"HutLedger", tb2 (i := 228) rfl rfl, Or.inl rfl⟩, rfl, (tyX8_ok 0 (by decide)).trans rfl⟩
theorem f_X8_16 : FL RX8 16 8 1 true (.object "HutLedger$Hut") := ⟨flc8, RX8, TX8, 9, rfl, by decide, ⟨"HutLedger", tb2 (i := 229) rfl rfl, Or.inl rfl⟩, rfl, (tyX8_ok 1 (by decide)).trans rfl⟩
theorem f_X8_22 : FL RX8 22 8 2 true (.object "HutLedger$Planner") := ⟨flc8, RX8, TX8, 9, rfl, by decide, ⟨"HutLedger", tb2 (i := 230) rfl rfl, Or.inl rfl⟩, rfl, (tyX8_ok 2 (by decide)).trans rfl⟩
theorem f_X8_29 : FL RX8 29 8 3 true (.object "HutLedger$History") := ⟨flc8, RX8, TX8, 9, rfl, by decide, ⟨"HutLedger", tb2 (i := 231) rfl rfl, Or.inl rfl⟩, rfl, (tyX8_ok 3 (by decide)).trans rfl⟩
theorem f_X8_37 : FL RX8 37 8 4 true (.array (.object "HutLedger$Hut")) := ⟨flc8, RX8, TX8, 9, rfl, by decide, ⟨"HutLedger", tb2 (i := 232) rfl rfl, Or.inl rfl⟩, rfl, (tyX8_ok 4 (by decide)).trans rfl⟩
theorem f_X8_41 : FL RX8 41 8 5 true (.array .boolean) := ⟨flc8, RX8, TX8, 9, rfl, by decide, ⟨"HutLedger", tb2 (i := 233) rfl rfl, Or.inl rfl⟩, rfl, (tyX8_ok 5 (by decide)).trans rfl⟩
theorem f_X8_48 : FL RX8 48 8 6 true (.object "HutLedger$Grammar") := ⟨flc8, RX8, TX8, 9, rfl, by decide, ⟨"HutLedger", tb2 (i := 234) rfl rfl, Or.inl rfl⟩, rfl, (tyX8_ok 6 (by decide)).trans rfl⟩
theorem f_X8_55 : FL RX8 55 8 7 true (.object "HutLedger$Script") := ⟨flc8, RX8, TX8, 9, rfl, by decide, ⟨"HutLedger", tb2 (i := 235) rfl rfl, Or.inl rfl⟩, rfl, (tyX8_ok 7 (by decide)).trans rfl⟩
theorem f_X8_62 : FL RX8 62 8 8 true (.object "HutLedger$Output") := ⟨flc8, RX8, TX8, 9, rfl, by decide, ⟨"HutLedger", tb2 (i := 236) rfl rfl, Or.inl rfl⟩, rfl, (tyX8_ok 8 (by decide)).trans rfl⟩
theorem f_X8_66 : FL RX8 66 0 0 true (.object "HutLedger$Text") := ⟨flc0, RX0, TX0, 4, rfl, by decide, ⟨"HutLedger$Grammar", tb2 (i := 9) rfl rfl, Or.inl rfl⟩, rfl, (tyX0_ok 0 (by decide)).trans rfl⟩
theorem f_X8_82 : FL RX8 82 7 1 false .int := ⟨flc7, RX7, TX7, 5, rfl, by decide, ⟨"HutLedger$Text", tb1 (i := 229) rfl rfl, Or.inl rfl⟩, rfl, (tyX7_ok 1 (by decide)).trans rfl⟩
theorem f_X8_116 : FL RX8 116 3 12 false .int := ⟨flc3, RX3, TX3, 19, rfl, by decide, ⟨"HutLedger$Hut", tb1 (i := 130) rfl rfl, Or.inl rfl⟩, rfl, (tyX3_ok 12 (by decide)).trans rfl⟩
theorem f_X8_152 : FL RX8 152 3 0 false .int := ⟨flc3, RX3, TX3, 19, rfl, by decide, ⟨"HutLedger$Hut", tb1 (i := 108) rfl rfl, Or.inl rfl⟩, rfl, (tyX3_ok 0 (by decide)).trans rfl⟩
theorem f_X8_159 : FL RX8 159 3 1 false .int := ⟨flc3, RX3, TX3, 19, rfl, by decide, ⟨"HutLedger$Hut", tb1 (i := 111) rfl rfl, Or.inl rfl⟩, rfl, (tyX3_ok 1 (by decide)).trans rfl⟩
theorem f_X8_223 : FL RX8 223 3 18 true (.array (.object "HutLedger$Hiker")) := ⟨flc3, RX3, TX3, 19, rfl, by decide, ⟨"HutLedger$Hut", tb1 (i := 142) rfl rfl, Or.inl rfl⟩, rfl, (tyX3_ok 18 (by decide)).trans rfl⟩
theorem f_X8_227 : FL RX8 227 1 4 false .int := ⟨flc1, RX1, TX1, 9, rfl, by decide, ⟨"HutLedger$Hiker", tb1 (i := 75) rfl rfl, Or.inl rfl⟩, rfl, (tyX1_ok 4 (by decide)).trans rfl⟩
theorem f_X8_232 : FL RX8 232 1 5 false .int := ⟨flc1, RX1, TX1, 9, rfl, by decide, ⟨"HutLedger$Hiker", tb1 (i := 78) rfl rfl, Or.inl rfl⟩, rfl, (tyX1_ok 5 (by decide)).trans rfl⟩
theorem f_X8_235 : FL RX8 235 1 7 false .int := ⟨flc1, RX1, TX1, 9, rfl, by decide, ⟨"HutLedger$Hiker", tb1 (i := 83) rfl rfl, Or.inl rfl⟩, rfl, (tyX1_ok 7 (by decide)).trans rfl⟩
theorem f_X8_243 : FL RX8 243 1 8 true (.array .int) := ⟨flc1, RX1, TX1, 9, rfl, by decide, ⟨"HutLedger$Hiker", tb1 (i := 85) rfl rfl, Or.inl rfl⟩, rfl, (tyX1_ok 8 (by decide)).trans rfl⟩
theorem f_X8_246 : FL RX8 246 1 2 false .int := ⟨flc1, RX1, TX1, 9, rfl, by decide, ⟨"HutLedger$Hiker", tb1 (i := 68) rfl rfl, Or.inl rfl⟩, rfl, (tyX1_ok 2 (by decide)).trans rfl⟩
theorem f_X8_249 : FL RX8 249 1 3 false .int := ⟨flc1, RX1, TX1, 9, rfl, by decide, ⟨"HutLedger$Hiker", tb1 (i := 71) rfl rfl, Or.inl rfl⟩, rfl, (tyX1_ok 3 (by decide)).trans rfl⟩
theorem f_X8_277 : FL RX8 277 3 4 false .int := ⟨flc3, RX3, TX3, 19, rfl, by decide, ⟨"HutLedger$Hut", tb1 (i := 115) rfl rfl, Or.inl rfl⟩, rfl, (tyX3_ok 4 (by decide)).trans rfl⟩
theorem f_X8_280 : FL RX8 280 3 5 false .int := ⟨flc3, RX3, TX3, 19, rfl, by decide, ⟨"HutLedger$Hut", tb1 (i := 117) rfl rfl, Or.inl rfl⟩, rfl, (tyX3_ok 5 (by decide)).trans rfl⟩
theorem f_X8_286 : FL RX8 286 3 7 false .int := ⟨flc3, RX3, TX3, 19, rfl, by decide, ⟨"HutLedger$Hut", tb1 (i := 120) rfl rfl, Or.inl rfl⟩, rfl, (tyX3_ok 7 (by decide)).trans rfl⟩
theorem f_X8_297 : FL RX8 297 3 8 false .int := ⟨flc3, RX3, TX3, 19, rfl, by decide, ⟨"HutLedger$Hut", tb1 (i := 122) rfl rfl, Or.inl rfl⟩, rfl, (tyX3_ok 8 (by decide)).trans rfl⟩
theorem f_X8_375 : FL RX8 375 2 2 false .int := ⟨flc2, RX2, TX2, 3, rfl, by decide, ⟨"HutLedger$History", tb1 (i := 207) rfl rfl, Or.inl rfl⟩, rfl, (tyX2_ok 2 (by decide)).trans rfl⟩
theorem f_X0_12 : FL RX0 12 0 0 true (.object "HutLedger$Text") := ⟨flc0, RX0, TX0, 4, rfl, by decide, ⟨"HutLedger$Grammar", tb2 (i := 8) rfl rfl, Or.inl rfl⟩, rfl, (tyX0_ok 0 (by decide)).trans rfl⟩
theorem f_X0_18 : FL RX0 18 0 1 false .int := ⟨flc0, RX0, TX0, 4, rfl, by decide, ⟨"HutLedger$Grammar", tb2 (i := 10) rfl rfl, Or.inl rfl⟩, rfl, (tyX0_ok 1 (by decide)).trans rfl⟩
theorem f_X0_22 : FL RX0 22 0 2 false .int := ⟨flc0, RX0, TX0, 4, rfl, by decide, ⟨"HutLedger$Grammar", tb2 (i := 11) rfl rfl, Or.inl rfl⟩, rfl, (tyX0_ok 2 (by decide)).trans rfl⟩
theorem f_X0_52 : FL RX0 52 7 3 false .int := ⟨flc7, RX7, TX7, 5, rfl, by decide, ⟨"HutLedger$Text", tb1 (i := 233) rfl rfl, Or.inl rfl⟩, rfl, (tyX7_ok 3 (by decide)).trans rfl⟩
theorem f_X0_69 : FL RX0 69 3 1 false .int := ⟨flc3, RX3, TX3, 19, rfl, by decide, ⟨"HutLedger$Hut", tb1 (i := 110) rfl rfl, Or.inl rfl⟩, rfl, (tyX3_ok 1 (by decide)).trans rfl⟩
theorem f_X0_81 : FL RX0 81 3 13 true (.array .int) := ⟨flc3, RX3, TX3, 19, rfl, by decide, ⟨"HutLedger$Hut", tb1 (i := 133) rfl rfl, Or.inl rfl⟩, rfl, (tyX3_ok 13 (by decide)).trans rfl⟩
theorem f_X0_89 : FL RX0 89 0 3 false .int := ⟨flc0, RX0, TX0, 4, rfl, by decide, ⟨"HutLedger$Grammar", tb2 (i := 12) rfl rfl, Or.inl rfl⟩, rfl, (tyX0_ok 3 (by decide)).trans rfl⟩
theorem f_X0_92 : FL RX0 92 3 9 false .int := ⟨flc3, RX3, TX3, 19, rfl, by decide, ⟨"HutLedger$Hut", tb1 (i := 124) rfl rfl, Or.inl rfl⟩, rfl, (tyX3_ok 9 (by decide)).trans rfl⟩
theorem f_X0_97 : FL RX0 97 3 14 true (.array .int) := ⟨flc3, RX3, TX3, 19, rfl, by decide, ⟨"HutLedger$Hut", tb1 (i := 135) rfl rfl, Or.inl rfl⟩, rfl, (tyX3_ok 14 (by decide)).trans rfl⟩
theorem f_X0_100 : FL RX0 100 3 10 false .int := ⟨flc3, RX3, TX3, 19, rfl, by decide, ⟨"HutLedger$Hut", tb1 (i := 126) rfl rfl, Or.inl rfl⟩, rfl, (tyX3_ok 10 (by decide)).trans rfl⟩
theorem f_X0_105 : FL RX0 105 3 15 true (.array .int) := ⟨flc3, RX3, TX3, 19, rfl, by decide, ⟨"HutLedger$Hut", tb1 (i := 137) rfl rfl, Or.inl rfl⟩, rfl, (tyX3_ok 15 (by decide)).trans rfl⟩
theorem f_X0_107 : FL RX0 107 3 11 false .int := ⟨flc3, RX3, TX3, 19, rfl, by decide, ⟨"HutLedger$Hut", tb1 (i := 128) rfl rfl, Or.inl rfl⟩, rfl, (tyX3_ok 11 (by decide)).trans rfl⟩
theorem f_X0_110 : FL RX0 110 7 2 false .int := ⟨flc7, RX7, TX7, 5, rfl, by decide, ⟨"HutLedger$Text", tb1 (i := 232) rfl rfl, Or.inl rfl⟩, rfl, (tyX7_ok 2 (by decide)).trans rfl⟩
theorem f_X0_117 : FL RX0 117 3 12 false .int := ⟨flc3, RX3, TX3, 19, rfl, by decide, ⟨"HutLedger$Hut", tb1 (i := 131) rfl rfl, Or.inl rfl⟩, rfl, (tyX3_ok 12 (by decide)).trans rfl⟩
theorem f_X0_125 : FL RX0 125 3 18 true (.array (.object "HutLedger$Hiker")) := ⟨flc3, RX3, TX3, 19, rfl, by decide, ⟨"HutLedger$Hut", tb1 (i := 141) rfl rfl, Or.inl rfl⟩, rfl, (tyX3_ok 18 (by decide)).trans rfl⟩
theorem f_X0_133 : FL RX0 133 1 0 false .int := ⟨flc1, RX1, TX1, 9, rfl, by decide, ⟨"HutLedger$Hiker", tb1 (i := 62) rfl rfl, Or.inl rfl⟩, rfl, (tyX1_ok 0 (by decide)).trans rfl⟩
theorem f_X0_138 : FL RX0 138 1 1 false .int := ⟨flc1, RX1, TX1, 9, rfl, by decide, ⟨"HutLedger$Hiker", tb1 (i := 65) rfl rfl, Or.inl rfl⟩, rfl, (tyX1_ok 1 (by decide)).trans rfl⟩
theorem f_X0_141 : FL RX0 141 1 2 false .int := ⟨flc1, RX1, TX1, 9, rfl, by decide, ⟨"HutLedger$Hiker", tb1 (i := 67) rfl rfl, Or.inl rfl⟩, rfl, (tyX1_ok 2 (by decide)).trans rfl⟩
theorem f_X1_9 : FL RX1 9 1 4 false .int := ⟨flc1, RX1, TX1, 9, rfl, by decide, ⟨"HutLedger$Hiker", tb1 (i := 73) rfl rfl, Or.inl rfl⟩, rfl, (tyX1_ok 4 (by decide)).trans rfl⟩
theorem f_X1_15 : FL RX1 15 1 5 false .int := ⟨flc1, RX1, TX1, 9, rfl, by decide, ⟨"HutLedger$Hiker", tb1 (i := 76) rfl rfl, Or.inl rfl⟩, rfl, (tyX1_ok 5 (by decide)).trans rfl⟩
theorem f_X1_18 : FL RX1 18 1 8 true (.array .int) := ⟨flc1, RX1, TX1, 9, rfl, by decide, ⟨"HutLedger$Hiker", tb1 (i := 84) rfl rfl, Or.inl rfl⟩, rfl, (tyX1_ok 8 (by decide)).trans rfl⟩
theorem f_X1_22 : FL RX1 22 1 0 false .int := ⟨flc1, RX1, TX1, 9, rfl, by decide, ⟨"HutLedger$Hiker", tb1 (i := 61) rfl rfl, Or.inl rfl⟩, rfl, (tyX1_ok 0 (by decide)).trans rfl⟩
theorem f_X1_25 : FL RX1 25 1 1 false .int := ⟨flc1, RX1, TX1, 9, rfl, by decide, ⟨"HutLedger$Hiker", tb1 (i := 63) rfl rfl, Or.inl rfl⟩, rfl, (tyX1_ok 1 (by decide)).trans rfl⟩
theorem f_X1_28 : FL RX1 28 1 2 false .int := ⟨flc1, RX1, TX1, 9, rfl, by decide, ⟨"HutLedger$Hiker", tb1 (i := 66) rfl rfl, Or.inl rfl⟩, rfl, (tyX1_ok 2 (by decide)).trans rfl⟩
theorem f_X1_31 : FL RX1 31 1 3 false .int := ⟨flc1, RX1, TX1, 9, rfl, by decide, ⟨"HutLedger$Hiker", tb1 (i := 70) rfl rfl, Or.inl rfl⟩, rfl, (tyX1_ok 3 (by decide)).trans rfl⟩
theorem f_X1_34 : FL RX1 34 1 6 false .int := ⟨flc1, RX1, TX1, 9, rfl, by decide, ⟨"HutLedger$Hiker", tb1 (i := 79) rfl rfl, Or.inl rfl⟩, rfl, (tyX1_ok 6 (by decide)).trans rfl⟩
theorem f_X1_37 : FL RX1 37 1 7 false .int := ⟨flc1, RX1, TX1, 9, rfl, by decide, ⟨"HutLedger$Hiker", tb1 (i := 81) rfl rfl, Or.inl rfl⟩, rfl, (tyX1_ok 7 (by decide)).trans rfl⟩
theorem f_X2_13 : FL RX2 13 2 0 true (.array (.object "HutLedger$Hut")) := ⟨flc2, RX2, TX2, 3, rfl, by decide, ⟨"HutLedger$History", tb1 (i := 204) rfl rfl, Or.inl rfl⟩, rfl, (tyX2_ok 0 (by decide)).trans rfl⟩
theorem f_X2_19 : FL RX2 19 2 1 false .int := ⟨flc2, RX2, TX2, 3, rfl, by decide, ⟨"HutLedger$History", tb1 (i := 205) rfl rfl, Or.inl rfl⟩, rfl, (tyX2_ok 1 (by decide)).trans rfl⟩
theorem f_X2_29 : FL RX2 29 2 2 false .int := ⟨flc2, RX2, TX2, 3, rfl, by decide, ⟨"HutLedger$History", tb1 (i := 206) rfl rfl, Or.inl rfl⟩, rfl, (tyX2_ok 2 (by decide)).trans rfl⟩
theorem f_X3_9 : FL RX3 9 3 13 true (.array .int) := ⟨flc3, RX3, TX3, 19, rfl, by decide, ⟨"HutLedger$Hut", tb1 (i := 132) rfl rfl, Or.inl rfl⟩, rfl, (tyX3_ok 13 (by decide)).trans rfl⟩
theorem f_X3_15 : FL RX3 15 3 14 true (.array .int) := ⟨flc3, RX3, TX3, 19, rfl, by decide, ⟨"HutLedger$Hut", tb1 (i := 134) rfl rfl, Or.inl rfl⟩, rfl, (tyX3_ok 14 (by decide)).trans rfl⟩
theorem f_X3_18 : FL RX3 18 3 15 true (.array .int) := ⟨flc3, RX3, TX3, 19, rfl, by decide, ⟨"HutLedger$Hut", tb1 (i := 136) rfl rfl, Or.inl rfl⟩, rfl, (tyX3_ok 15 (by decide)).trans rfl⟩
theorem f_X3_21 : FL RX3 21 3 16 true (.array .int) := ⟨flc3, RX3, TX3, 19, rfl, by decide, ⟨"HutLedger$Hut", tb1 (i := 138) rfl rfl, Or.inl rfl⟩, rfl, (tyX3_ok 16 (by decide)).trans rfl⟩
theorem f_X3_24 : FL RX3 24 3 17 true (.array .int) := ⟨flc3, RX3, TX3, 19, rfl, by decide, ⟨"HutLedger$Hut", tb1 (i := 139) rfl rfl, Or.inl rfl⟩, rfl, (tyX3_ok 17 (by decide)).trans rfl⟩
theorem f_X3_29 : FL RX3 29 3 18 true (.array (.object "HutLedger$Hiker")) := ⟨flc3, RX3, TX3, 19, rfl, by decide, ⟨"HutLedger$Hut", tb1 (i := 140) rfl rfl, Or.inl rfl⟩, rfl, (tyX3_ok 18 (by decide)).trans rfl⟩
theorem f_X3_34 : FL RX3 34 3 1 false .int := ⟨flc3, RX3, TX3, 19, rfl, by decide, ⟨"HutLedger$Hut", tb1 (i := 109) rfl rfl, Or.inl rfl⟩, rfl, (tyX3_ok 1 (by decide)).trans rfl⟩
theorem f_X3_38 : FL RX3 38 3 8 false .int := ⟨flc3, RX3, TX3, 19, rfl, by decide, ⟨"HutLedger$Hut", tb1 (i := 121) rfl rfl, Or.inl rfl⟩, rfl, (tyX3_ok 8 (by decide)).trans rfl⟩
theorem f_X3_45 : FL RX3 45 3 7 false .int := ⟨flc3, RX3, TX3, 19, rfl, by decide, ⟨"HutLedger$Hut", tb1 (i := 119) rfl rfl, Or.inl rfl⟩, rfl, (tyX3_ok 7 (by decide)).trans rfl⟩
theorem f_X3_51 : FL RX3 51 3 0 false .int := ⟨flc3, RX3, TX3, 19, rfl, by decide, ⟨"HutLedger$Hut", tb1 (i := 107) rfl rfl, Or.inl rfl⟩, rfl, (tyX3_ok 0 (by decide)).trans rfl⟩
theorem f_X3_54 : FL RX3 54 3 2 false .int := ⟨flc3, RX3, TX3, 19, rfl, by decide, ⟨"HutLedger$Hut", tb1 (i := 112) rfl rfl, Or.inl rfl⟩, rfl, (tyX3_ok 2 (by decide)).trans rfl⟩
theorem f_X3_57 : FL RX3 57 3 3 false .int := ⟨flc3, RX3, TX3, 19, rfl, by decide, ⟨"HutLedger$Hut", tb1 (i := 113) rfl rfl, Or.inl rfl⟩, rfl, (tyX3_ok 3 (by decide)).trans rfl⟩
theorem f_X3_60 : FL RX3 60 3 4 false .int := ⟨flc3, RX3, TX3, 19, rfl, by decide, ⟨"HutLedger$Hut", tb1 (i := 114) rfl rfl, Or.inl rfl⟩, rfl, (tyX3_ok 4 (by decide)).trans rfl⟩
theorem f_X3_63 : FL RX3 63 3 5 false .int := ⟨flc3, RX3, TX3, 19, rfl, by decide, ⟨"HutLedger$Hut", tb1 (i := 116) rfl rfl, Or.inl rfl⟩, rfl, (tyX3_ok 5 (by decide)).trans rfl⟩
theorem f_X3_66 : FL RX3 66 3 6 false .int := ⟨flc3, RX3, TX3, 19, rfl, by decide, ⟨"HutLedger$Hut", tb1 (i := 118) rfl rfl, Or.inl rfl⟩, rfl, (tyX3_ok 6 (by decide)).trans rfl⟩
theorem f_X3_69 : FL RX3 69 3 9 false .int := ⟨flc3, RX3, TX3, 19, rfl, by decide, ⟨"HutLedger$Hut", tb1 (i := 123) rfl rfl, Or.inl rfl⟩, rfl, (tyX3_ok 9 (by decide)).trans rfl⟩
theorem f_X3_72 : FL RX3 72 3 10 false .int := ⟨flc3, RX3, TX3, 19, rfl, by decide, ⟨"HutLedger$Hut", tb1 (i := 125) rfl rfl, Or.inl rfl⟩, rfl, (tyX3_ok 10 (by decide)).trans rfl⟩
theorem f_X3_75 : FL RX3 75 3 11 false .int := ⟨flc3, RX3, TX3, 19, rfl, by decide, ⟨"HutLedger$Hut", tb1 (i := 127) rfl rfl, Or.inl rfl⟩, rfl, (tyX3_ok 11 (by decide)).trans rfl⟩
theorem f_X3_78 : FL RX3 78 3 12 false .int := ⟨flc3, RX3, TX3, 19, rfl, by decide, ⟨"HutLedger$Hut", tb1 (i := 129) rfl rfl, Or.inl rfl⟩, rfl, (tyX3_ok 12 (by decide)).trans rfl⟩
theorem f_X3_94 : FL RX3 94 1 5 false .int := ⟨flc1, RX1, TX1, 9, rfl, by decide, ⟨"HutLedger$Hiker", tb1 (i := 77) rfl rfl, Or.inl rfl⟩, rfl, (tyX1_ok 5 (by decide)).trans rfl⟩
theorem f_X3_101 : FL RX3 101 1 6 false .int := ⟨flc1, RX1, TX1, 9, rfl, by decide, ⟨"HutLedger$Hiker", tb1 (i := 80) rfl rfl, Or.inl rfl⟩, rfl, (tyX1_ok 6 (by decide)).trans rfl⟩
theorem f_X3_104 : FL RX3 104 1 4 false .int := ⟨flc1, RX1, TX1, 9, rfl, by decide, ⟨"HutLedger$Hiker", tb1 (i := 74) rfl rfl, Or.inl rfl⟩, rfl, (tyX1_ok 4 (by decide)).trans rfl⟩
theorem f_X3_111 : FL RX3 111 1 7 false .int := ⟨flc1, RX1, TX1, 9, rfl, by decide, ⟨"HutLedger$Hiker", tb1 (i := 82) rfl rfl, Or.inl rfl⟩, rfl, (tyX1_ok 7 (by decide)).trans rfl⟩
theorem f_X3_121 : FL RX3 121 1 1 false .int := ⟨flc1, RX1, TX1, 9, rfl, by decide, ⟨"HutLedger$Hiker", tb1 (i := 64) rfl rfl, Or.inl rfl⟩, rfl, (tyX1_ok 1 (by decide)).trans rfl⟩
theorem f_X3_188 : FL RX3 188 1 2 false .int := ⟨flc1, RX1, TX1, 9, rfl, by decide, ⟨"HutLedger$Hiker", tb1 (i := 69) rfl rfl, Or.inl rfl⟩, rfl, (tyX1_ok 2 (by decide)).trans rfl⟩
theorem f_X3_191 : FL RX3 191 1 3 false .int := ⟨flc1, RX1, TX1, 9, rfl, by decide, ⟨"HutLedger$Hiker", tb1 (i := 72) rfl rfl, Or.inl rfl⟩, rfl, (tyX1_ok 3 (by decide)).trans rfl⟩
theorem f_X3_194 : FL RX3 194 1 8 true (.array .int) := ⟨flc1, RX1, TX1, 9, rfl, by decide, ⟨"HutLedger$Hiker", tb1 (i := 86) rfl rfl, Or.inl rfl⟩, rfl, (tyX1_ok 8 (by decide)).trans rfl⟩
theorem f_X4_9 : FL RX4 9 4 0 true (.array .int) := ⟨flc4, RX4, TX4, 2, rfl, by decide, ⟨"HutLedger$Output", tb2 (i := 46) rfl rfl, Or.inl rfl⟩, rfl, (tyX4_ok 0 (by decide)).trans rfl⟩
theorem f_X5_12 : FL RX5 12 5 0 true (.object "HutLedger$Hut") := ⟨flc5, RX5, TX5, 1, rfl, by decide, ⟨"HutLedger$Planner", tb1 (i := 190) rfl rfl, Or.inl rfl⟩, rfl, (tyX5_ok 0 (by decide)).trans rfl⟩
theorem f_X6_9 : FL RX6 9 6 0 true (.array .int) := ⟨flc6, RX6, TX6, 4, rfl, by decide, ⟨"HutLedger$Script", tb2 (i := 28) rfl rfl, Or.inl rfl⟩, rfl, (tyX6_ok 0 (by decide)).trans rfl⟩
theorem f_X6_15 : FL RX6 15 6 1 true (.array .int) := ⟨flc6, RX6, TX6, 4, rfl, by decide, ⟨"HutLedger$Script", tb2 (i := 29) rfl rfl, Or.inl rfl⟩, rfl, (tyX6_ok 1 (by decide)).trans rfl⟩
theorem f_X6_18 : FL RX6 18 6 2 true (.array .int) := ⟨flc6, RX6, TX6, 4, rfl, by decide, ⟨"HutLedger$Script", tb2 (i := 30) rfl rfl, Or.inl rfl⟩, rfl, (tyX6_ok 2 (by decide)).trans rfl⟩
theorem f_X7_9 : FL RX7 9 7 0 true (.array .int) := ⟨flc7, RX7, TX7, 5, rfl, by decide, ⟨"HutLedger$Text", tb1 (i := 228) rfl rfl, Or.inl rfl⟩, rfl, (tyX7_ok 0 (by decide)).trans rfl⟩
theorem f_X7_15 : FL RX7 15 7 1 false .int := ⟨flc7, RX7, TX7, 5, rfl, by decide, ⟨"HutLedger$Text", tb1 (i := 230) rfl rfl, Or.inl rfl⟩, rfl, (tyX7_ok 1 (by decide)).trans rfl⟩
theorem f_X7_36 : FL RX7 36 7 4 false .int := ⟨flc7, RX7, TX7, 5, rfl, by decide, ⟨"HutLedger$Text", tb1 (i := 235) rfl rfl, Or.inl rfl⟩, rfl, (tyX7_ok 4 (by decide)).trans rfl⟩
theorem f_X7_42 : FL RX7 42 7 3 false .int := ⟨flc7, RX7, TX7, 5, rfl, by decide, ⟨"HutLedger$Text", tb1 (i := 234) rfl rfl, Or.inl rfl⟩, rfl, (tyX7_ok 3 (by decide)).trans rfl⟩
theorem f_X7_49 : FL RX7 49 7 2 false .int := ⟨flc7, RX7, TX7, 5, rfl, by decide, ⟨"HutLedger$Text", tb1 (i := 231) rfl rfl, Or.inl rfl⟩, rfl, (tyX7_ok 2 (by decide)).trans rfl⟩
theorem f_L_10 : FL RL 10 10 0 true (.object "HutLedger") := ⟨flc10, RL, TL, 17, rfl, by decide, ⟨"HutLedgerLaw", tb3 (i := 43) rfl rfl, Or.inl rfl⟩, rfl, (tyL_ok 0 (by decide)).trans rfl⟩
theorem f_L_19 : FL RL 19 10 3 true (.object "java/util/ArrayList") := ⟨flc10, RL, TL, 17, rfl, by decide, ⟨"HutLedgerLaw", tb3 (i := 46) rfl rfl, Or.inl rfl⟩, rfl, (tyL_ok 3 (by decide)).trans rfl⟩
theorem f_L_23 : FL RL 23 10 4 true (.array .int) := ⟨flc10, RL, TL, 17, rfl, by decide, ⟨"HutLedgerLaw", tb3 (i := 47) rfl rfl, Or.inl rfl⟩, rfl, (tyL_ok 4 (by decide)).trans rfl⟩
theorem f_L_27 : FL RL 27 10 5 true (.array .int) := ⟨flc10, RL, TL, 17, rfl, by decide, ⟨"HutLedgerLaw", tb3 (i := 48) rfl rfl, Or.inl rfl⟩, rfl, (tyL_ok 5 (by decide)).trans rfl⟩
theorem f_L_30 : FL RL 30 10 6 true (.array .int) := ⟨flc10, RL, TL, 17, rfl, by decide, ⟨"HutLedgerLaw", tb3 (i := 49) rfl rfl, Or.inl rfl⟩, rfl, (tyL_ok 6 (by decide)).trans rfl⟩
theorem f_L_35 : FL RL 35 10 1 false (.array .int) := ⟨flc10, RL, TL, 17, rfl, by decide, ⟨"HutLedgerLaw", tb3 (i := 44) rfl rfl, Or.inl rfl⟩, rfl, (tyL_ok 1 (by decide)).trans rfl⟩
theorem f_L_38 : FL RL 38 10 2 false .int := ⟨flc10, RL, TL, 17, rfl, by decide, ⟨"HutLedgerLaw", tb3 (i := 45) rfl rfl, Or.inl rfl⟩, rfl, (tyL_ok 2 (by decide)).trans rfl⟩
theorem f_L_151 : FL RL 151 10 16 false .int := ⟨flc10, RL, TL, 17, rfl, by decide, ⟨"HutLedgerLaw", tb3 (i := 59) rfl rfl, Or.inl rfl⟩, rfl, (tyL_ok 16 (by decide)).trans rfl⟩
theorem f_L_154 : FL RL 154 10 15 false .int := ⟨flc10, RL, TL, 17, rfl, by decide, ⟨"HutLedgerLaw", tb3 (i := 58) rfl rfl, Or.inl rfl⟩, rfl, (tyL_ok 15 (by decide)).trans rfl⟩
theorem f_L_157 : FL RL 157 10 14 false .int := ⟨flc10, RL, TL, 17, rfl, by decide, ⟨"HutLedgerLaw", tb3 (i := 57) rfl rfl, Or.inl rfl⟩, rfl, (tyL_ok 14 (by decide)).trans rfl⟩
theorem f_L_160 : FL RL 160 10 13 false .int := ⟨flc10, RL, TL, 17, rfl, by decide, ⟨"HutLedgerLaw", tb3 (i := 56) rfl rfl, Or.inl rfl⟩, rfl, (tyL_ok 13 (by decide)).trans rfl⟩
theorem f_L_163 : FL RL 163 10 12 false .int := ⟨flc10, RL, TL, 17, rfl, by decide, ⟨"HutLedgerLaw", tb3 (i := 55) rfl rfl, Or.inl rfl⟩, rfl, (tyL_ok 12 (by decide)).trans rfl⟩
theorem f_L_166 : FL RL 166 10 11 false .int := ⟨flc10, RL, TL, 17, rfl, by decide, ⟨"HutLedgerLaw", tb3 (i := 54) rfl rfl, Or.inl rfl⟩, rfl, (tyL_ok 11 (by decide)).trans rfl⟩
theorem f_L_172 : FL RL 172 10 10 false .int := ⟨flc10, RL, TL, 17, rfl, by decide, ⟨"HutLedgerLaw", tb3 (i := 53) rfl rfl, Or.inl rfl⟩, rfl, (tyL_ok 10 (by decide)).trans rfl⟩
theorem f_L_175 : FL RL 175 10 7 false .int := ⟨flc10, RL, TL, 17, rfl, by decide, ⟨"HutLedgerLaw", tb3 (i := 50) rfl rfl, Or.inl rfl⟩, rfl, (tyL_ok 7 (by decide)).trans rfl⟩
theorem f_L_178 : FL RL 178 10 8 false .int := ⟨flc10, RL, TL, 17, rfl, by decide, ⟨"HutLedgerLaw", tb3 (i := 51) rfl rfl, Or.inl rfl⟩, rfl, (tyL_ok 8 (by decide)).trans rfl⟩
theorem f_L_181 : FL RL 181 10 9 false .int := ⟨flc10, RL, TL, 17, rfl, by decide, ⟨"HutLedgerLaw", tb3 (i := 52) rfl rfl, Or.inl rfl⟩, rfl, (tyL_ok 9 (by decide)).trans rfl⟩
theorem f_X9_7 : FL RX9 7 9 5 false .int := ⟨flc9, RX9, TX9, 8, rfl, by decide, ⟨"HutLedgerLaw$Hiker", tb4 (i := 69) rfl rfl, Or.inl rfl⟩, rfl, (tyX9_ok 5 (by decide)).trans rfl⟩
theorem f_X9_13 : FL RX9 13 9 6 false .int := ⟨flc9, RX9, TX9, 8, rfl, by decide, ⟨"HutLedgerLaw$Hiker", tb4 (i := 71) rfl rfl, Or.inl rfl⟩, rfl, (tyX9_ok 6 (by decide)).trans rfl⟩
theorem f_X9_16 : FL RX9 16 9 7 true (.array .int) := ⟨flc9, RX9, TX9, 8, rfl, by decide, ⟨"HutLedgerLaw$Hiker", tb4 (i := 73) rfl rfl, Or.inl rfl⟩, rfl, (tyX9_ok 7 (by decide)).trans rfl⟩
theorem f_J5_15 : FL RJ5 15 11 0 false (.array .byte) := ⟨flc11, RJ4, TJ4, 4, rfl, by decide, ⟨"java/lang/AbstractStringBuilder", tb4 (i := 4) rfl rfl, Or.inl rfl⟩, rfl, (tyJ4_ok 0 (by decide)).trans rfl⟩
theorem f_J5_22 : FL RJ5 22 11 1 false .byte := ⟨flc11, RJ4, TJ4, 4, rfl, by decide, ⟨"java/lang/AbstractStringBuilder", tb4 (i := 5) rfl rfl, Or.inl rfl⟩, rfl, (tyJ4_ok 1 (by decide)).trans rfl⟩
theorem f_J5_79 : FL RJ5 79 11 3 false .int := ⟨flc11, RJ4, TJ4, 4, rfl, by decide, ⟨"java/lang/AbstractStringBuilder", tb4 (i := 7) rfl rfl, Or.inl rfl⟩, rfl, (tyJ4_ok 3 (by decide)).trans rfl⟩
theorem f_J0_9 : FL RJ0 9 13 0 true (.array .byte) := ⟨flc13, RJ0, TJ0, 4, rfl, by decide, ⟨"java/lang/String", tb5 (i := 31) rfl rfl, Or.inl rfl⟩, rfl, (tyJ0_ok 0 (by decide)).trans rfl⟩
theorem f_J0_15 : FL RJ0 15 13 1 true .byte := ⟨flc13, RJ0, TJ0, 4, rfl, by decide, ⟨"java/lang/String", tb5 (i := 32) rfl rfl, Or.inl rfl⟩, rfl, (tyJ0_ok 1 (by decide)).trans rfl⟩
theorem f_J0_1048 : FL RJ0 1048 11 2 false .boolean := ⟨flc11, RJ4, TJ4, 4, rfl, by decide, ⟨"java/lang/AbstractStringBuilder", tb4 (i := 6) rfl rfl, Or.inl rfl⟩, rfl, (tyJ4_ok 2 (by decide)).trans rfl⟩
theorem f_Jxc12de_7 : FL RJxc12de 7 12 0 false .int := ⟨flc12, RJx4a65c, TJx4a65c, 3, rfl, by decide, ⟨"java/util/AbstractList", tb3 (i := 33) rfl rfl, Or.inl rfl⟩, rfl, (tyJx4a65c_ok 0 (by decide)).trans rfl⟩
theorem f_Jx4a65c_9 : FL RJx4a65c 9 12 1 false (.array (.object "java/lang/Object")) := ⟨flc12, RJx4a65c, TJx4a65c, 3, rfl, by decide, ⟨"java/util/ArrayList", tb3 (i := 31) rfl rfl, Or.inl rfl⟩, rfl, (tyJx4a65c_ok 1 (by decide)).trans rfl⟩
theorem f_Jx4a65c_48 : FL RJx4a65c 48 12 2 false .int := ⟨flc12, RJx4a65c, TJx4a65c, 3, rfl, by decide, ⟨"java/util/ArrayList", tb3 (i := 32) rfl rfl, Or.inl rfl⟩, rfl, (tyJx4a65c_ok 2 (by decide)).trans rfl⟩
theorem f_Jx4a65c_63 : FL RJx4a65c 63 12 0 false .int := ⟨flc12, RJx4a65c, TJx4a65c, 3, rfl, by decide, ⟨"java/util/ArrayList", tb3 (i := 34) rfl rfl, Or.inr (tb3 (i := 35) rfl rfl)⟩, rfl, (tyJx4a65c_ok 0 (by decide)).trans rfl⟩
def YL (kind : Nat) (y : MethodName) (bytes : ByteArray) (maxL : Nat) (ret : Option FieldType) (n : Nat) : Prop := Jvm.plainName y.cls = true ∧ Cond.code y bytes maxL ret ∈ TBL ∧ Cond.initialized y.cls ∈ TBL ∧ (y.cls ≠ "java/lang/invoke/MethodHandle" ∧ y.cls ≠ "java/lang/invoke/VarHandle" ∧ (parseMethodDescriptor y.desc).map (fun d => d.parameters.length) = some n) ∧ (kind = 0 → Cond.instanceMethod y ∈ TBL ∧ Cond.selects y.cls y y ∈ TBL) ∧ (kind = 1 → Cond.static y ∈ TBL) ∧ (kind = 2 → Cond.instanceMethod y ∈ TBL ∧ y.name = "<init>")
theorem y_J0_charAt_5068e : YL 0 yJ0_charAt_5068e cJ0_charAt_5068e 2 (some .char) 1 := ⟨by decide +kernel, tb2 (i := 70) rfl rfl, tb1 (i := 10) rfl rfl, by decide +kernel, fun _ => ⟨tb2 (i := 68) rfl rfl, tb2 (i := 69) rfl rfl⟩, (fun h => by cases h), (fun h => by cases h)⟩
theorem y_J0_checkBoundsBeginEnd_23922 : YL 1 yJ0_checkBoundsBeginEnd_23922 cJ0_checkBoundsBeginEnd_23922 3 none 3 := ⟨by decide +kernel, tb3 (i := 204) rfl rfl, tb1 (i := 10) rfl rfl, by decide +kernel, (fun h => by cases h), fun _ => tb3 (i := 203) rfl rfl, (fun h => by cases h)⟩
theorem y_J0_checkBoundsOffCount_cabcc : YL 1 yJ0_checkBoundsOffCount_cabcc cJ0_checkBoundsOffCount_cabcc 3 (some .int) 3 := ⟨by decide +kernel, tb3 (i := 234) rfl rfl, tb1 (i := 10) rfl rfl, by decide +kernel, (fun h => by cases h), fun _ => tb3 (i := 233) rfl rfl, (fun h => by cases h)⟩
theorem y_J0_checkIndex_df160 : YL 1 yJ0_checkIndex_df160 cJ0_checkIndex_df160 2 none 2 := ⟨by decide +kernel, tb2 (i := 80) rfl rfl, tb1 (i := 10) rfl rfl, by decide +kernel, (fun h => by cases h), fun _ => tb2 (i := 79) rfl rfl, (fun h => by cases h)⟩
theorem y_J0_coder_7d493 : YL 0 yJ0_coder_7d493 cJ0_coder_7d493 1 (some .byte) 0 := ⟨by decide +kernel, tb2 (i := 64) rfl rfl, tb1 (i := 10) rfl rfl, by decide +kernel, fun _ => ⟨tb2 (i := 62) rfl rfl, tb2 (i := 63) rfl rfl⟩, (fun h => by cases h), (fun h => by cases h)⟩
theorem y_J0_getBytes_840e7 : YL 0 yJ0_getBytes_840e7 cJ0_getBytes_840e7 4 none 3 := ⟨by decide +kernel, tb4 (i := 1) rfl rfl, tb1 (i := 10) rfl rfl, by decide +kernel, fun _ => ⟨tb3 (i := 239) rfl rfl, tb4 (i := 0) rfl rfl⟩, (fun h => by cases h), (fun h => by cases h)⟩
theorem y_J0_init_81219 : YL 2 yJ0_init_81219 cJ0_init_81219 2 none 1 := ⟨by decide +kernel, tb4 (i := 155) rfl rfl, tb1 (i := 10) rfl rfl, by decide +kernel, (fun h => by cases h), (fun h => by cases h), fun _ => ⟨tb4 (i := 154) rfl rfl, rfl⟩⟩
theorem y_J0_init_db425 : YL 2 yJ0_init_db425 cJ0_init_db425 5 none 2 := ⟨by decide +kernel, tb4 (i := 158) rfl rfl, tb1 (i := 10) rfl rfl, by decide +kernel, (fun h => by cases h), (fun h => by cases h), fun _ => ⟨tb4 (i := 157) rfl rfl, rfl⟩⟩
theorem y_J0_isLatin1_aae02 : YL 0 yJ0_isLatin1_aae02 cJ0_isLatin1_aae02 1 (some .boolean) 0 := ⟨by decide +kernel, tb2 (i := 74) rfl rfl, tb1 (i := 10) rfl rfl, by decide +kernel, fun _ => ⟨tb2 (i := 72) rfl rfl, tb2 (i := 73) rfl rfl⟩, (fun h => by cases h), (fun h => by cases h)⟩
theorem y_J0_length_8abf5 : YL 0 yJ0_length_8abf5 cJ0_length_8abf5 1 (some .int) 0 := ⟨by decide +kernel, tb2 (i := 60) rfl rfl, tb1 (i := 10) rfl rfl, by decide +kernel, fun _ => ⟨tb2 (i := 58) rfl rfl, tb2 (i := 59) rfl rfl⟩, (fun h => by cases h), (fun h => by cases h)⟩
theorem y_J15_checkIndex_7cf53 : YL 1 yJ15_checkIndex_7cf53 cJ15_checkIndex_7cf53 2 (some .int) 2 := ⟨by decide +kernel, tb5 (i := 127) rfl rfl, tb1 (i := 31) rfl rfl, by decide +kernel, (fun h => by cases h), fun _ => tb5 (i := 126) rfl rfl, (fun h => by cases h)⟩
theorem y_J1_canEncode_fc78d : YL 1 yJ1_canEncode_fc78d cJ1_canEncode_fc78d 1 (some .boolean) 1 := ⟨by decide +kernel, tb4 (i := 52) rfl rfl, tb1 (i := 11) rfl rfl, by decide +kernel, (fun h => by cases h), fun _ => tb4 (i := 51) rfl rfl, (fun h => by cases h)⟩
theorem y_J1_charAt_3b067 : YL 1 yJ1_charAt_3b067 cJ1_charAt_3b067 2 (some .char) 2 := ⟨by decide +kernel, tb2 (i := 77) rfl rfl, tb1 (i := 11) rfl rfl, by decide +kernel, (fun h => by cases h), fun _ => tb2 (i := 76) rfl rfl, (fun h => by cases h)⟩
theorem y_J1_inflate_0e8fd : YL 1 yJ1_inflate_0e8fd cJ1_inflate_0e8fd 5 none 5 := ⟨by decide +kernel, tb3 (i := 225) rfl rfl, tb1 (i := 11) rfl rfl, by decide +kernel, (fun h => by cases h), fun _ => tb3 (i := 224) rfl rfl, (fun h => by cases h)⟩
theorem y_J2_charAt_3b067 : YL 1 yJ2_charAt_3b067 cJ2_charAt_3b067 2 (some .char) 2 := ⟨by decide +kernel, tb2 (i := 88) rfl rfl, tb1 (i := 13) rfl rfl, by decide +kernel, (fun h => by cases h), fun _ => tb2 (i := 87) rfl rfl, (fun h => by cases h)⟩
theorem y_J2_checkBoundsBeginEnd_d044e : YL 1 yJ2_checkBoundsBeginEnd_d044e cJ2_checkBoundsBeginEnd_d044e 3 none 3 := ⟨by decide +kernel, tb3 (i := 201) rfl rfl, tb1 (i := 13) rfl rfl, by decide +kernel, (fun h => by cases h), fun _ => tb3 (i := 200) rfl rfl, (fun h => by cases h)⟩
theorem y_J2_checkBoundsOffCount_d044e : YL 1 yJ2_checkBoundsOffCount_d044e cJ2_checkBoundsOffCount_d044e 3 none 3 := ⟨by decide +kernel, tb3 (i := 231) rfl rfl, tb1 (i := 13) rfl rfl, by decide +kernel, (fun h => by cases h), fun _ => tb3 (i := 230) rfl rfl, (fun h => by cases h)⟩
theorem y_J2_checkIndex_2214a : YL 1 yJ2_checkIndex_2214a cJ2_checkIndex_2214a 2 none 2 := ⟨by decide +kernel, tb2 (i := 91) rfl rfl, tb1 (i := 13) rfl rfl, by decide +kernel, (fun h => by cases h), fun _ => tb2 (i := 90) rfl rfl, (fun h => by cases h)⟩
theorem y_J2_coderFromArrayLen_85cad : YL 1 yJ2_coderFromArrayLen_85cad cJ2_coderFromArrayLen_85cad 2 (some .byte) 2 := ⟨by decide +kernel, tb5 (i := 30) rfl rfl, tb1 (i := 13) rfl rfl, by decide +kernel, (fun h => by cases h), fun _ => tb5 (i := 29) rfl rfl, (fun h => by cases h)⟩
theorem y_J2_compress_39247 : YL 1 yJ2_compress_39247 cJ2_compress_39247 6 (some (.array .byte)) 3 := ⟨by decide +kernel, tb5 (i := 23) rfl rfl, tb1 (i := 13) rfl rfl, by decide +kernel, (fun h => by cases h), fun _ => tb5 (i := 22) rfl rfl, (fun h => by cases h)⟩
theorem y_J2_compress_5af95 : YL 1 yJ2_compress_5af95 cJ2_compress_5af95 7 (some .int) 5 := ⟨by decide +kernel, tb5 (i := 26) rfl rfl, tb1 (i := 13) rfl rfl, by decide +kernel, (fun h => by cases h), fun _ => tb5 (i := 25) rfl rfl, (fun h => by cases h)⟩
theorem y_J2_getChar_3b067 : YL 1 yJ2_getChar_3b067 cJ2_getChar_3b067 2 (some .char) 2 := ⟨by decide +kernel, tb2 (i := 98) rfl rfl, tb1 (i := 13) rfl rfl, by decide +kernel, (fun h => by cases h), fun _ => tb2 (i := 97) rfl rfl, (fun h => by cases h)⟩
theorem y_J2_getChars_46870 : YL 1 yJ2_getChars_46870 cJ2_getChars_46870 5 (some .int) 4 := ⟨by decide +kernel, tb4 (i := 35) rfl rfl, tb1 (i := 13) rfl rfl, by decide +kernel, (fun h => by cases h), fun _ => tb4 (i := 34) rfl rfl, (fun h => by cases h)⟩
theorem y_J2_getChars_ba4f3 : YL 1 yJ2_getChars_ba4f3 cJ2_getChars_ba4f3 7 (some .int) 3 := ⟨by decide +kernel, tb4 (i := 38) rfl rfl, tb1 (i := 13) rfl rfl, by decide +kernel, (fun h => by cases h), fun _ => tb4 (i := 37) rfl rfl, (fun h => by cases h)⟩
theorem y_J2_inflate_0e8fd : YL 1 yJ2_inflate_0e8fd cJ2_inflate_0e8fd 6 none 5 := ⟨by decide +kernel, tb3 (i := 228) rfl rfl, tb1 (i := 13) rfl rfl, by decide +kernel, (fun h => by cases h), fun _ => tb3 (i := 227) rfl rfl, (fun h => by cases h)⟩
theorem y_J2_length_9d52b : YL 1 yJ2_length_9d52b cJ2_length_9d52b 1 (some .int) 1 := ⟨by decide +kernel, tb2 (i := 94) rfl rfl, tb1 (i := 13) rfl rfl, by decide +kernel, (fun h => by cases h), fun _ => tb2 (i := 93) rfl rfl, (fun h => by cases h)⟩
theorem y_J2_newBytesFor_77867 : YL 1 yJ2_newBytesFor_77867 cJ2_newBytesFor_77867 1 (some (.array .byte)) 1 := ⟨by decide +kernel, tb3 (i := 138) rfl rfl, tb1 (i := 13) rfl rfl, by decide +kernel, (fun h => by cases h), fun _ => tb3 (i := 137) rfl rfl, (fun h => by cases h)⟩
theorem y_J2_newBytesLength_0f7a4 : YL 1 yJ2_newBytesLength_0f7a4 cJ2_newBytesLength_0f7a4 1 (some .int) 1 := ⟨by decide +kernel, tb3 (i := 141) rfl rfl, tb1 (i := 13) rfl rfl, by decide +kernel, (fun h => by cases h), fun _ => tb3 (i := 140) rfl rfl, (fun h => by cases h)⟩
theorem y_J2_putCharSB_b72d1 : YL 1 yJ2_putCharSB_b72d1 cJ2_putCharSB_b72d1 3 none 3 := ⟨by decide +kernel, tb4 (i := 55) rfl rfl, tb1 (i := 13) rfl rfl, by decide +kernel, (fun h => by cases h), fun _ => tb4 (i := 54) rfl rfl, (fun h => by cases h)⟩
theorem y_J2_putChar_b72d1 : YL 1 yJ2_putChar_b72d1 cJ2_putChar_b72d1 3 none 3 := ⟨by decide +kernel, tb3 (i := 210) rfl rfl, tb1 (i := 13) rfl rfl, by decide +kernel, (fun h => by cases h), fun _ => tb3 (i := 209) rfl rfl, (fun h => by cases h)⟩
theorem y_J2_putCharsAt_cd4e5 : YL 1 yJ2_putCharsAt_cd4e5 cJ2_putCharsAt_cd4e5 7 (some .int) 6 := ⟨by decide +kernel, tb3 (i := 198) rfl rfl, tb1 (i := 13) rfl rfl, by decide +kernel, (fun h => by cases h), fun _ => tb3 (i := 197) rfl rfl, (fun h => by cases h)⟩
theorem y_J3_checkFromIndexSize_8c36e : YL 1 yJ3_checkFromIndexSize_8c36e cJ3_checkFromIndexSize_8c36e 4 (some .int) 4 := ⟨by decide +kernel, tb3 (i := 237) rfl rfl, tb1 (i := 12) rfl rfl, by decide +kernel, (fun h => by cases h), fun _ => tb3 (i := 236) rfl rfl, (fun h => by cases h)⟩
theorem y_J3_checkFromToIndex_8c36e : YL 1 yJ3_checkFromToIndex_8c36e cJ3_checkFromToIndex_8c36e 4 (some .int) 4 := ⟨by decide +kernel, tb3 (i := 207) rfl rfl, tb1 (i := 12) rfl rfl, by decide +kernel, (fun h => by cases h), fun _ => tb3 (i := 206) rfl rfl, (fun h => by cases h)⟩
theorem y_J3_checkIndex_8e157 : YL 1 yJ3_checkIndex_8e157 cJ3_checkIndex_8e157 3 (some .int) 3 := ⟨by decide +kernel, tb2 (i := 85) rfl rfl, tb1 (i := 12) rfl rfl, by decide +kernel, (fun h => by cases h), fun _ => tb2 (i := 84) rfl rfl, (fun h => by cases h)⟩
theorem y_J4_append_15ec4 : YL 0 yJ4_append_15ec4 cJ4_append_15ec4 2 (some (.object "java/lang/StringBuilder")) 1 := ⟨by decide +kernel, tb3 (i := 152) rfl rfl, tb1 (i := 19) rfl rfl, by decide +kernel, fun _ => ⟨tb3 (i := 150) rfl rfl, tb3 (i := 151) rfl rfl⟩, (fun h => by cases h), (fun h => by cases h)⟩
theorem y_J4_append_bf812 : YL 0 yJ4_append_bf812 cJ4_append_bf812 2 (some (.object "java/lang/StringBuilder")) 1 := ⟨by decide +kernel, tb4 (i := 19) rfl rfl, tb1 (i := 19) rfl rfl, by decide +kernel, fun _ => ⟨tb4 (i := 17) rfl rfl, tb4 (i := 18) rfl rfl⟩, (fun h => by cases h), (fun h => by cases h)⟩
theorem y_J4_append_cf468 : YL 0 yJ4_append_cf468 cJ4_append_cf468 2 (some (.object "java/lang/StringBuilder")) 1 := ⟨by decide +kernel, tb4 (i := 46) rfl rfl, tb1 (i := 19) rfl rfl, by decide +kernel, fun _ => ⟨tb4 (i := 44) rfl rfl, tb4 (i := 45) rfl rfl⟩, (fun h => by cases h), (fun h => by cases h)⟩
theorem y_J4_init_a7421 : YL 2 yJ4_init_a7421 cJ4_init_a7421 2 none 1 := ⟨by decide +kernel, tb3 (i := 127) rfl rfl, tb1 (i := 19) rfl rfl, by decide +kernel, (fun h => by cases h), (fun h => by cases h), fun _ => ⟨tb3 (i := 126) rfl rfl, rfl⟩⟩
theorem y_J4_init_da8c8 : YL 2 yJ4_init_da8c8 cJ4_init_da8c8 1 none 0 := ⟨by decide +kernel, tb4 (i := 228) rfl rfl, tb1 (i := 19) rfl rfl, by decide +kernel, (fun h => by cases h), (fun h => by cases h), fun _ => ⟨tb4 (i := 227) rfl rfl, rfl⟩⟩
theorem y_J4_toString_0e30d : YL 0 yJ4_toString_0e30d cJ4_toString_0e30d 1 (some (.object "java/lang/String")) 0 := ⟨by decide +kernel, tb4 (i := 150) rfl rfl, tb1 (i := 19) rfl rfl, by decide +kernel, fun _ => ⟨tb4 (i := 148) rfl rfl, tb4 (i := 149) rfl rfl⟩, (fun h => by cases h), (fun h => by cases h)⟩
theorem y_J5_init_a7421 : YL 2 yJ5_init_a7421 cJ5_init_a7421 5 none 1 := ⟨by decide +kernel, tb3 (i := 130) rfl rfl, tb1 (i := 18) rfl rfl, by decide +kernel, (fun h => by cases h), (fun h => by cases h), fun _ => ⟨tb3 (i := 129) rfl rfl, rfl⟩⟩
theorem y_J5_init_d00df : YL 2 yJ5_init_d00df cJ5_init_d00df 2 none 1 := ⟨by decide +kernel, tb4 (i := 231) rfl rfl, tb1 (i := 18) rfl rfl, by decide +kernel, (fun h => by cases h), (fun h => by cases h), fun _ => ⟨tb4 (i := 230) rfl rfl, rfl⟩⟩
theorem y_J6_getChars_ba4f3 : YL 1 yJ6_getChars_ba4f3 cJ6_getChars_ba4f3 7 (some .int) 3 := ⟨by decide +kernel, tb4 (i := 28) rfl rfl, tb1 (i := 24) rfl rfl, by decide +kernel, (fun h => by cases h), fun _ => tb4 (i := 27) rfl rfl, (fun h => by cases h)⟩
theorem y_J6_stringSize_0f7a4 : YL 1 yJ6_stringSize_0f7a4 cJ6_stringSize_0f7a4 4 (some .int) 1 := ⟨by decide +kernel, tb4 (i := 25) rfl rfl, tb1 (i := 24) rfl rfl, by decide +kernel, (fun h => by cases h), fun _ => tb4 (i := 24) rfl rfl, (fun h => by cases h)⟩
theorem y_J7_checkLength_df160 : YL 1 yJ7_checkLength_df160 cJ7_checkLength_df160 2 none 2 := ⟨by decide +kernel, tb4 (i := 182) rfl rfl, tb1 (i := 21) rfl rfl, by decide +kernel, (fun h => by cases h), fun _ => tb4 (i := 181) rfl rfl, (fun h => by cases h)⟩
theorem y_J7_copyOfRangeByte_39247 : YL 1 yJ7_copyOfRangeByte_39247 cJ7_copyOfRangeByte_39247 5 (some (.array .byte)) 3 := ⟨by decide +kernel, tb4 (i := 179) rfl rfl, tb1 (i := 21) rfl rfl, by decide +kernel, (fun h => by cases h), fun _ => tb4 (i := 178) rfl rfl, (fun h => by cases h)⟩
theorem y_J7_copyOfRange_39247 : YL 1 yJ7_copyOfRange_39247 cJ7_copyOfRange_39247 3 (some (.array .byte)) 3 := ⟨by decide +kernel, tb4 (i := 176) rfl rfl, tb1 (i := 21) rfl rfl, by decide +kernel, (fun h => by cases h), fun _ => tb4 (i := 175) rfl rfl, (fun h => by cases h)⟩
theorem y_J7_copyOf_1904c : YL 1 yJ7_copyOf_1904c cJ7_copyOf_1904c 2 (some (.array (.object "java/lang/Object"))) 2 := ⟨by decide +kernel, tb4 (i := 115) rfl rfl, tb1 (i := 21) rfl rfl, by decide +kernel, (fun h => by cases h), fun _ => tb4 (i := 114) rfl rfl, (fun h => by cases h)⟩
theorem y_J7_copyOf_6403c : YL 1 yJ7_copyOf_6403c cJ7_copyOf_6403c 4 (some (.array (.object "java/lang/Object"))) 3 := ⟨by decide +kernel, tb4 (i := 140) rfl rfl, tb1 (i := 21) rfl rfl, by decide +kernel, (fun h => by cases h), fun _ => tb4 (i := 139) rfl rfl, (fun h => by cases h)⟩
theorem y_J7_copyOf_9075b : YL 1 yJ7_copyOf_9075b cJ7_copyOf_9075b 3 (some (.array .byte)) 2 := ⟨by decide +kernel, tb3 (i := 178) rfl rfl, tb1 (i := 21) rfl rfl, by decide +kernel, (fun h => by cases h), fun _ => tb3 (i := 177) rfl rfl, (fun h => by cases h)⟩
theorem y_J8_hugeLength_7cf53 : YL 1 yJ8_hugeLength_7cf53 cJ8_hugeLength_7cf53 3 (some .int) 2 := ⟨by decide +kernel, tb3 (i := 175) rfl rfl, tb1 (i := 20) rfl rfl, by decide +kernel, (fun h => by cases h), fun _ => tb3 (i := 174) rfl rfl, (fun h => by cases h)⟩
theorem y_J8_newLength_cabcc : YL 1 yJ8_newLength_cabcc cJ8_newLength_cabcc 4 (some .int) 3 := ⟨by decide +kernel, tb3 (i := 170) rfl rfl, tb1 (i := 20) rfl rfl, by decide +kernel, (fun h => by cases h), fun _ => tb3 (i := 169) rfl rfl, (fun h => by cases h)⟩
theorem y_Jx4a65c_add_72be8 : YL 0 yJx4a65c_add_72be8 cJx4a65c_add_72be8 4 none 3 := ⟨by decide +kernel, tb4 (i := 103) rfl rfl, tb1 (i := 17) rfl rfl, by decide +kernel, fun _ => ⟨tb4 (i := 102) rfl rfl, tp2 (i := 0) rfl⟩, (fun h => by cases h), (fun h => by cases h)⟩
theorem y_Jx4a65c_add_9ea2d : YL 0 yJx4a65c_add_9ea2d cJx4a65c_add_9ea2d 2 (some .boolean) 1 := ⟨by decide +kernel, tb4 (i := 99) rfl rfl, tb1 (i := 17) rfl rfl, by decide +kernel, fun _ => ⟨tb4 (i := 97) rfl rfl, tb4 (i := 98) rfl rfl⟩, (fun h => by cases h), (fun h => by cases h)⟩
theorem y_Jx4a65c_clear_da8c8 : YL 0 yJx4a65c_clear_da8c8 cJx4a65c_clear_da8c8 4 none 0 := ⟨by decide +kernel, tb3 (i := 106) rfl rfl, tb1 (i := 17) rfl rfl, by decide +kernel, fun _ => ⟨tb3 (i := 104) rfl rfl, tb3 (i := 105) rfl rfl⟩, (fun h => by cases h), (fun h => by cases h)⟩
theorem y_Jx4a65c_elementData_915e3 : YL 0 yJx4a65c_elementData_915e3 cJx4a65c_elementData_915e3 2 (some (.object "java/lang/Object")) 1 := ⟨by decide +kernel, tb5 (i := 132) rfl rfl, tb1 (i := 17) rfl rfl, by decide +kernel, fun _ => ⟨tb5 (i := 130) rfl rfl, tb5 (i := 131) rfl rfl⟩, (fun h => by cases h), (fun h => by cases h)⟩
theorem y_Jx4a65c_get_915e3 : YL 0 yJx4a65c_get_915e3 cJx4a65c_get_915e3 2 (some (.object "java/lang/Object")) 1 := ⟨by decide +kernel, tb5 (i := 124) rfl rfl, tb1 (i := 17) rfl rfl, by decide +kernel, fun _ => ⟨tb5 (i := 122) rfl rfl, tb5 (i := 123) rfl rfl⟩, (fun h => by cases h), (fun h => by cases h)⟩
theorem y_Jx4a65c_grow_92f84 : YL 0 yJx4a65c_grow_92f84 cJx4a65c_grow_92f84 4 (some (.array (.object "java/lang/Object"))) 1 := ⟨by decide +kernel, tb4 (i := 111) rfl rfl, tb1 (i := 17) rfl rfl, by decide +kernel, fun _ => ⟨tb4 (i := 110) rfl rfl, tp2 (i := 2) rfl⟩, (fun h => by cases h), (fun h => by cases h)⟩
theorem y_Jx4a65c_grow_d5877 : YL 0 yJx4a65c_grow_d5877 cJx4a65c_grow_d5877 1 (some (.array (.object "java/lang/Object"))) 0 := ⟨by decide +kernel, tb4 (i := 107) rfl rfl, tb1 (i := 17) rfl rfl, by decide +kernel, fun _ => ⟨tb4 (i := 106) rfl rfl, tp2 (i := 1) rfl⟩, (fun h => by cases h), (fun h => by cases h)⟩
theorem y_Jx4a65c_init_da8c8 : YL 2 yJx4a65c_init_da8c8 cJx4a65c_init_da8c8 1 none 0 := ⟨by decide +kernel, tb3 (i := 21) rfl rfl, tb1 (i := 17) rfl rfl, by decide +kernel, (fun h => by cases h), (fun h => by cases h), fun _ => ⟨tb3 (i := 20) rfl rfl, rfl⟩⟩
theorem y_Jx4a65c_size_8abf5 : YL 0 yJx4a65c_size_8abf5 cJx4a65c_size_8abf5 1 (some .int) 0 := ⟨by decide +kernel, tb4 (i := 95) rfl rfl, tb1 (i := 17) rfl rfl, by decide +kernel, fun _ => ⟨tb4 (i := 93) rfl rfl, tb4 (i := 94) rfl rfl⟩, (fun h => by cases h), (fun h => by cases h)⟩
theorem y_Jxa1e45_init_da8c8 : YL 2 yJxa1e45_init_da8c8 cJxa1e45_init_da8c8 1 none 0 := ⟨by decide +kernel, tb3 (i := 27) rfl rfl, tb1 (i := 15) rfl rfl, by decide +kernel, (fun h => by cases h), (fun h => by cases h), fun _ => ⟨tb3 (i := 26) rfl rfl, rfl⟩⟩
theorem y_Jxc12de_init_da8c8 : YL 2 yJxc12de_init_da8c8 cJxc12de_init_da8c8 1 none 0 := ⟨by decide +kernel, tb3 (i := 24) rfl rfl, tb1 (i := 16) rfl rfl, by decide +kernel, (fun h => by cases h), (fun h => by cases h), fun _ => ⟨tb3 (i := 23) rfl rfl, rfl⟩⟩
theorem y_L_act : YL 0 yL_act cL_act 9 (some .boolean) 0 := ⟨by decide +kernel, tb6 (i := 159) rfl rfl, tb1 (i := 0) rfl rfl, by decide +kernel, fun _ => ⟨tb6 (i := 158) rfl rfl, tp3 (i := 0) rfl⟩, (fun h => by cases h), (fun h => by cases h)⟩
theorem y_L_at : YL 1 yL_at cL_at 3 (some .int) 2 := ⟨by decide +kernel, tb3 (i := 116) rfl rfl, tb1 (i := 0) rfl rfl, by decide +kernel, (fun h => by cases h), fun _ => tb3 (i := 115) rfl rfl, (fun h => by cases h)⟩
theorem y_L_dawns : YL 0 yL_dawns cL_dawns 7 none 0 := ⟨by decide +kernel, tb7 (i := 115) rfl rfl, tb1 (i := 0) rfl rfl, by decide +kernel, fun _ => ⟨tb7 (i := 114) rfl rfl, tp4 (i := 6) rfl⟩, (fun h => by cases h), (fun h => by cases h)⟩
theorem y_L_does : YL 0 yL_does cL_does 2 (some .int) 1 := ⟨by decide +kernel, tb5 (i := 213) rfl rfl, tb1 (i := 0) rfl rfl, by decide +kernel, fun _ => ⟨tb5 (i := 212) rfl rfl, tp2 (i := 9) rfl⟩, (fun h => by cases h), (fun h => by cases h)⟩
theorem y_L_draw : YL 0 yL_draw cL_draw 3 (some .int) 1 := ⟨by decide +kernel, tb3 (i := 110) rfl rfl, tb1 (i := 0) rfl rfl, by decide +kernel, fun _ => ⟨tb3 (i := 109) rfl rfl, tp1 (i := 15) rfl⟩, (fun h => by cases h), (fun h => by cases h)⟩
theorem y_L_holds : YL 0 yL_holds cL_holds 4 (some .boolean) 1 := ⟨by decide +kernel, tb3 (i := 98) rfl rfl, tb1 (i := 0) rfl rfl, by decide +kernel, fun _ => ⟨tb3 (i := 97) rfl rfl, tp1 (i := 13) rfl⟩, (fun h => by cases h), (fun h => by cases h)⟩
theorem y_L_in : YL 0 yL_in cL_in 3 (some (.object "HutLedgerLaw$Hiker")) 1 := ⟨by decide +kernel, tb5 (i := 194) rfl rfl, tb1 (i := 0) rfl rfl, by decide +kernel, fun _ => ⟨tb5 (i := 193) rfl rfl, tp2 (i := 8) rfl⟩, (fun h => by cases h), (fun h => by cases h)⟩
theorem y_L_init : YL 2 yL_init cL_init 1 none 0 := ⟨by decide +kernel, tb1 (i := 38) rfl rfl, tb1 (i := 0) rfl rfl, by decide +kernel, (fun h => by cases h), (fun h => by cases h), fun _ => ⟨tb1 (i := 37) rfl rfl, rfl⟩⟩
theorem y_L_isCold : YL 0 yL_isCold cL_isCold 2 (some .boolean) 1 := ⟨by decide +kernel, tb5 (i := 217) rfl rfl, tb1 (i := 0) rfl rfl, by decide +kernel, fun _ => ⟨tb5 (i := 216) rfl rfl, tp2 (i := 10) rfl⟩, (fun h => by cases h), (fun h => by cases h)⟩
theorem y_L_lays : YL 0 yL_lays cL_lays 5 (some .boolean) 1 := ⟨by decide +kernel, tb5 (i := 45) rfl rfl, tb1 (i := 0) rfl rfl, by decide +kernel, fun _ => ⟨tb5 (i := 44) rfl rfl, tp2 (i := 4) rfl⟩, (fun h => by cases h), (fun h => by cases h)⟩
theorem y_L_loads : YL 0 yL_loads cL_loads 4 (some .boolean) 0 := ⟨by decide +kernel, tb3 (i := 102) rfl rfl, tb1 (i := 0) rfl rfl, by decide +kernel, fun _ => ⟨tb3 (i := 101) rfl rfl, tp1 (i := 14) rfl⟩, (fun h => by cases h), (fun h => by cases h)⟩
theorem y_L_loud : YL 0 yL_loud cL_loud 3 (some .int) 1 := ⟨by decide +kernel, tb5 (i := 225) rfl rfl, tb1 (i := 0) rfl rfl, by decide +kernel, fun _ => ⟨tb5 (i := 224) rfl rfl, tp2 (i := 12) rfl⟩, (fun h => by cases h), (fun h => by cases h)⟩
theorem y_L_noise : YL 0 yL_noise cL_noise 3 (some .int) 1 := ⟨by decide +kernel, tb5 (i := 221) rfl rfl, tb1 (i := 0) rfl rfl, by decide +kernel, fun _ => ⟨tb5 (i := 220) rfl rfl, tp2 (i := 11) rfl⟩, (fun h => by cases h), (fun h => by cases h)⟩
theorem y_L_passes : YL 0 yL_passes cL_passes 3 none 0 := ⟨by decide +kernel, tb7 (i := 111) rfl rfl, tb1 (i := 0) rfl rfl, by decide +kernel, fun _ => ⟨tb7 (i := 110) rfl rfl, tp4 (i := 5) rfl⟩, (fun h => by cases h), (fun h => by cases h)⟩
theorem y_L_pays : YL 0 yL_pays cL_pays 4 (some .int) 2 := ⟨by decide +kernel, tb7 (i := 119) rfl rfl, tb1 (i := 0) rfl rfl, by decide +kernel, fun _ => ⟨tb7 (i := 118) rfl rfl, tp4 (i := 7) rfl⟩, (fun h => by cases h), (fun h => by cases h)⟩
theorem y_L_same : YL 0 yL_same cL_same 10 (some .boolean) 0 := ⟨by decide +kernel, tb5 (i := 120) rfl rfl, tb1 (i := 0) rfl rfl, by decide +kernel, fun _ => ⟨tb5 (i := 119) rfl rfl, tp2 (i := 5) rfl⟩, (fun h => by cases h), (fun h => by cases h)⟩
theorem y_L_under : YL 0 yL_under cL_under 3 (some (.object "HutLedgerLaw$Hiker")) 1 := ⟨by decide +kernel, tb6 (i := 41) rfl rfl, tb1 (i := 0) rfl rfl, by decide +kernel, fun _ => ⟨tb6 (i := 40) rfl rfl, tp2 (i := 14) rfl⟩, (fun h => by cases h), (fun h => by cases h)⟩
theorem y_L_warm : YL 0 yL_warm cL_warm 3 (some .int) 1 := ⟨by decide +kernel, tb5 (i := 190) rfl rfl, tb1 (i := 0) rfl rfl, by decide +kernel, fun _ => ⟨tb5 (i := 189) rfl rfl, tp2 (i := 7) rfl⟩, (fun h => by cases h), (fun h => by cases h)⟩
theorem y_X0_begin : YL 0 yX0_begin cX0_begin 1 none 0 := ⟨by decide +kernel, tb2 (i := 120) rfl rfl, tb1 (i := 6) rfl rfl, by decide +kernel, fun _ => ⟨tb2 (i := 119) rfl rfl, tp1 (i := 0) rfl⟩, (fun h => by cases h), (fun h => by cases h)⟩
theorem y_X0_fail : YL 0 yX0_fail cX0_fail 2 (some .boolean) 1 := ⟨by decide +kernel, tb2 (i := 148) rfl rfl, tb1 (i := 6) rfl rfl, by decide +kernel, fun _ => ⟨tb2 (i := 147) rfl rfl, tp1 (i := 3) rfl⟩, (fun h => by cases h), (fun h => by cases h)⟩
theorem y_X0_init : YL 2 yX0_init cX0_init 1 none 0 := ⟨by decide +kernel, tb1 (i := 220) rfl rfl, tb1 (i := 6) rfl rfl, by decide +kernel, (fun h => by cases h), (fun h => by cases h), fun _ => ⟨tb1 (i := 219) rfl rfl, rfl⟩⟩
theorem y_X0_isNumber : YL 0 yX0_isNumber cX0_isNumber 3 (some .boolean) 2 := ⟨by decide +kernel, tb2 (i := 153) rfl rfl, tb1 (i := 6) rfl rfl, by decide +kernel, fun _ => ⟨tb2 (i := 152) rfl rfl, tp1 (i := 4) rfl⟩, (fun h => by cases h), (fun h => by cases h)⟩
theorem y_X0_readBlankets : YL 0 yX0_readBlankets cX0_readBlankets 3 (some .boolean) 1 := ⟨by decide +kernel, tb2 (i := 180) rfl rfl, tb1 (i := 6) rfl rfl, by decide +kernel, fun _ => ⟨tb2 (i := 179) rfl rfl, tp1 (i := 8) rfl⟩, (fun h => by cases h), (fun h => by cases h)⟩
theorem y_X0_readBunks : YL 0 yX0_readBunks cX0_readBunks 3 (some .boolean) 1 := ⟨by decide +kernel, tb2 (i := 171) rfl rfl, tb1 (i := 6) rfl rfl, by decide +kernel, fun _ => ⟨tb2 (i := 170) rfl rfl, tp1 (i := 6) rfl⟩, (fun h => by cases h), (fun h => by cases h)⟩
theorem y_X0_readForecast : YL 0 yX0_readForecast cX0_readForecast 3 (some .boolean) 1 := ⟨by decide +kernel, tb2 (i := 185) rfl rfl, tb1 (i := 6) rfl rfl, by decide +kernel, fun _ => ⟨tb2 (i := 184) rfl rfl, tp1 (i := 9) rfl⟩, (fun h => by cases h), (fun h => by cases h)⟩
theorem y_X0_readHiker : YL 0 yX0_readHiker cX0_readHiker 2 (some .boolean) 1 := ⟨by decide +kernel, tb2 (i := 195) rfl rfl, tb1 (i := 6) rfl rfl, by decide +kernel, fun _ => ⟨tb2 (i := 194) rfl rfl, tp1 (i := 11) rfl⟩, (fun h => by cases h), (fun h => by cases h)⟩
theorem y_X0_readHikers : YL 0 yX0_readHikers cX0_readHikers 3 (some .boolean) 1 := ⟨by decide +kernel, tb2 (i := 190) rfl rfl, tb1 (i := 6) rfl rfl, by decide +kernel, fun _ => ⟨tb2 (i := 189) rfl rfl, tp1 (i := 10) rfl⟩, (fun h => by cases h), (fun h => by cases h)⟩
theorem y_X0_readLogs : YL 0 yX0_readLogs cX0_readLogs 2 (some .boolean) 1 := ⟨by decide +kernel, tb2 (i := 135) rfl rfl, tb1 (i := 6) rfl rfl, by decide +kernel, fun _ => ⟨tb2 (i := 134) rfl rfl, tp1 (i := 1) rfl⟩, (fun h => by cases h), (fun h => by cases h)⟩
theorem y_X0_readRow : YL 0 yX0_readRow cX0_readRow 5 (some .boolean) 3 := ⟨by decide +kernel, tb2 (i := 176) rfl rfl, tb1 (i := 6) rfl rfl, by decide +kernel, fun _ => ⟨tb2 (i := 175) rfl rfl, tp1 (i := 7) rfl⟩, (fun h => by cases h), (fun h => by cases h)⟩
theorem y_X0_readSemicolon : YL 0 yX0_readSemicolon cX0_readSemicolon 1 (some .boolean) 0 := ⟨by decide +kernel, tb2 (i := 167) rfl rfl, tb1 (i := 6) rfl rfl, by decide +kernel, fun _ => ⟨tb2 (i := 166) rfl rfl, tp1 (i := 5) rfl⟩, (fun h => by cases h), (fun h => by cases h)⟩
theorem y_X0_readSetup : YL 0 yX0_readSetup cX0_readSetup 3 (some .boolean) 1 := ⟨by decide +kernel, tb2 (i := 116) rfl rfl, tb1 (i := 6) rfl rfl, by decide +kernel, fun _ => ⟨tb2 (i := 114) rfl rfl, tb2 (i := 115) rfl rfl⟩, (fun h => by cases h), (fun h => by cases h)⟩
theorem y_X0_readWord : YL 0 yX0_readWord cX0_readWord 2 (some .boolean) 1 := ⟨by decide +kernel, tb2 (i := 140) rfl rfl, tb1 (i := 6) rfl rfl, by decide +kernel, fun _ => ⟨tb2 (i := 139) rfl rfl, tp1 (i := 2) rfl⟩, (fun h => by cases h), (fun h => by cases h)⟩
theorem y_X1_copyFrom : YL 0 yX1_copyFrom cX1_copyFrom 2 none 1 := ⟨by decide +kernel, tb5 (i := 98) rfl rfl, tb1 (i := 3) rfl rfl, by decide +kernel, fun _ => ⟨tb5 (i := 96) rfl rfl, tb5 (i := 97) rfl rfl⟩, (fun h => by cases h), (fun h => by cases h)⟩
theorem y_X1_feeForBlanket : YL 0 yX1_feeForBlanket cX1_feeForBlanket 1 (some .int) 0 := ⟨by decide +kernel, tb7 (i := 50) rfl rfl, tb1 (i := 3) rfl rfl, by decide +kernel, fun _ => ⟨tb7 (i := 48) rfl rfl, tb7 (i := 49) rfl rfl⟩, (fun h => by cases h), (fun h => by cases h)⟩
theorem y_X1_init : YL 2 yX1_init cX1_init 1 none 0 := ⟨by decide +kernel, tb1 (i := 59) rfl rfl, tb1 (i := 3) rfl rfl, by decide +kernel, (fun h => by cases h), (fun h => by cases h), fun _ => ⟨tb1 (i := 58) rfl rfl, rfl⟩⟩
theorem y_X1_isCold : YL 0 yX1_isCold cX1_isCold 1 (some .boolean) 0 := ⟨by decide +kernel, tb2 (i := 227) rfl rfl, tb1 (i := 3) rfl rfl, by decide +kernel, fun _ => ⟨tb2 (i := 225) rfl rfl, tb2 (i := 226) rfl rfl⟩, (fun h => by cases h), (fun h => by cases h)⟩
theorem y_X1_payOut : YL 0 yX1_payOut cX1_payOut 3 (some .int) 1 := ⟨by decide +kernel, tb7 (i := 34) rfl rfl, tb1 (i := 3) rfl rfl, by decide +kernel, fun _ => ⟨tb7 (i := 32) rfl rfl, tb7 (i := 33) rfl rfl⟩, (fun h => by cases h), (fun h => by cases h)⟩
theorem y_X1_ranksBefore : YL 0 yX1_ranksBefore cX1_ranksBefore 2 (some .boolean) 1 := ⟨by decide +kernel, tb6 (i := 61) rfl rfl, tb1 (i := 3) rfl rfl, by decide +kernel, fun _ => ⟨tb6 (i := 59) rfl rfl, tb6 (i := 60) rfl rfl⟩, (fun h => by cases h), (fun h => by cases h)⟩
theorem y_X2_forget : YL 0 yX2_forget cX2_forget 1 none 0 := ⟨by decide +kernel, tb5 (i := 103) rfl rfl, tb1 (i := 5) rfl rfl, by decide +kernel, fun _ => ⟨tb5 (i := 101) rfl rfl, tb5 (i := 102) rfl rfl⟩, (fun h => by cases h), (fun h => by cases h)⟩
theorem y_X2_init : YL 2 yX2_init cX2_init 1 none 0 := ⟨by decide +kernel, tb1 (i := 198) rfl rfl, tb1 (i := 5) rfl rfl, by decide +kernel, (fun h => by cases h), (fun h => by cases h), fun _ => ⟨tb1 (i := 197) rfl rfl, rfl⟩⟩
theorem y_X2_keep : YL 0 yX2_keep cX2_keep 2 none 1 := ⟨by decide +kernel, tb6 (i := 220) rfl rfl, tb1 (i := 5) rfl rfl, by decide +kernel, fun _ => ⟨tb6 (i := 218) rfl rfl, tb6 (i := 219) rfl rfl⟩, (fun h => by cases h), (fun h => by cases h)⟩
theorem y_X2_takeBack : YL 0 yX2_takeBack cX2_takeBack 2 none 1 := ⟨by decide +kernel, tb5 (i := 115) rfl rfl, tb1 (i := 5) rfl rfl, by decide +kernel, fun _ => ⟨tb5 (i := 113) rfl rfl, tb5 (i := 114) rfl rfl⟩, (fun h => by cases h), (fun h => by cases h)⟩
theorem y_X3_activityNow : YL 0 yX3_activityNow cX3_activityNow 3 (some .int) 1 := ⟨by decide +kernel, tb5 (i := 205) rfl rfl, tb1 (i := 2) rfl rfl, by decide +kernel, fun _ => ⟨tb5 (i := 203) rfl rfl, tb5 (i := 204) rfl rfl⟩, (fun h => by cases h), (fun h => by cases h)⟩
theorem y_X3_addLogs : YL 0 yX3_addLogs cX3_addLogs 2 (some .int) 1 := ⟨by decide +kernel, tb7 (i := 6) rfl rfl, tb1 (i := 2) rfl rfl, by decide +kernel, fun _ => ⟨tb7 (i := 5) rfl rfl, tp3 (i := 13) rfl⟩, (fun h => by cases h), (fun h => by cases h)⟩
theorem y_X3_burnLogs : YL 0 yX3_burnLogs cX3_burnLogs 2 none 0 := ⟨by decide +kernel, tb7 (i := 18) rfl rfl, tb1 (i := 2) rfl rfl, by decide +kernel, fun _ => ⟨tb7 (i := 17) rfl rfl, tp3 (i := 15) rfl⟩, (fun h => by cases h), (fun h => by cases h)⟩
theorem y_X3_changeRate : YL 0 yX3_changeRate cX3_changeRate 3 (some .int) 1 := ⟨by decide +kernel, tb7 (i := 2) rfl rfl, tb1 (i := 2) rfl rfl, by decide +kernel, fun _ => ⟨tb7 (i := 1) rfl rfl, tp3 (i := 12) rfl⟩, (fun h => by cases h), (fun h => by cases h)⟩
theorem y_X3_coldCount : YL 0 yX3_coldCount cX3_coldCount 1 (some .int) 0 := ⟨by decide +kernel, tb6 (i := 114) rfl rfl, tb1 (i := 2) rfl rfl, by decide +kernel, fun _ => ⟨tb6 (i := 112) rfl rfl, tb6 (i := 113) rfl rfl⟩, (fun h => by cases h), (fun h => by cases h)⟩
theorem y_X3_copyFrom : YL 0 yX3_copyFrom cX3_copyFrom 3 none 1 := ⟨by decide +kernel, tb5 (i := 93) rfl rfl, tb1 (i := 2) rfl rfl, by decide +kernel, fun _ => ⟨tb5 (i := 91) rfl rfl, tb5 (i := 92) rfl rfl⟩, (fun h => by cases h), (fun h => by cases h)⟩
theorem y_X3_countOf : YL 0 yX3_countOf cX3_countOf 4 (some .int) 1 := ⟨by decide +kernel, tb6 (i := 118) rfl rfl, tb1 (i := 2) rfl rfl, by decide +kernel, fun _ => ⟨tb6 (i := 116) rfl rfl, tb6 (i := 117) rfl rfl⟩, (fun h => by cases h), (fun h => by cases h)⟩
theorem y_X3_endHour : YL 0 yX3_endHour cX3_endHour 1 none 0 := ⟨by decide +kernel, tb7 (i := 26) rfl rfl, tb1 (i := 2) rfl rfl, by decide +kernel, fun _ => ⟨tb7 (i := 25) rfl rfl, tp4 (i := 1) rfl⟩, (fun h => by cases h), (fun h => by cases h)⟩
theorem y_X3_exchangeBlankets : YL 0 yX3_exchangeBlankets cX3_exchangeBlankets 4 none 2 := ⟨by decide +kernel, tb6 (i := 233) rfl rfl, tb1 (i := 2) rfl rfl, by decide +kernel, fun _ => ⟨tb6 (i := 232) rfl rfl, tp3 (i := 11) rfl⟩, (fun h => by cases h), (fun h => by cases h)⟩
theorem y_X3_faultOf : YL 0 yX3_faultOf cX3_faultOf 4 (some .int) 3 := ⟨by decide +kernel, tb6 (i := 174) rfl rfl, tb1 (i := 2) rfl rfl, by decide +kernel, fun _ => ⟨tb6 (i := 172) rfl rfl, tb6 (i := 173) rfl rfl⟩, (fun h => by cases h), (fun h => by cases h)⟩
theorem y_X3_faultOfFetch : YL 0 yX3_faultOfFetch cX3_faultOfFetch 2 (some .int) 1 := ⟨by decide +kernel, tb6 (i := 202) rfl rfl, tb1 (i := 2) rfl rfl, by decide +kernel, fun _ => ⟨tb6 (i := 201) rfl rfl, tp3 (i := 7) rfl⟩, (fun h => by cases h), (fun h => by cases h)⟩
theorem y_X3_faultOfLie : YL 0 yX3_faultOfLie cX3_faultOfLie 3 (some .int) 2 := ⟨by decide +kernel, tb6 (i := 192) rfl rfl, tb1 (i := 2) rfl rfl, by decide +kernel, fun _ => ⟨tb6 (i := 191) rfl rfl, tp3 (i := 5) rfl⟩, (fun h => by cases h), (fun h => by cases h)⟩
theorem y_X3_faultOfPass : YL 0 yX3_faultOfPass cX3_faultOfPass 2 (some .int) 1 := ⟨by decide +kernel, tb6 (i := 210) rfl rfl, tb1 (i := 2) rfl rfl, by decide +kernel, fun _ => ⟨tb6 (i := 209) rfl rfl, tp3 (i := 9) rfl⟩, (fun h => by cases h), (fun h => by cases h)⟩
theorem y_X3_faultOfPay : YL 0 yX3_faultOfPay cX3_faultOfPay 4 (some .int) 2 := ⟨by decide +kernel, tb6 (i := 206) rfl rfl, tb1 (i := 2) rfl rfl, by decide +kernel, fun _ => ⟨tb6 (i := 205) rfl rfl, tp3 (i := 8) rfl⟩, (fun h => by cases h), (fun h => by cases h)⟩
theorem y_X3_faultOfReturn : YL 0 yX3_faultOfReturn cX3_faultOfReturn 2 (some .int) 1 := ⟨by decide +kernel, tb6 (i := 184) rfl rfl, tb1 (i := 2) rfl rfl, by decide +kernel, fun _ => ⟨tb6 (i := 183) rfl rfl, tp3 (i := 3) rfl⟩, (fun h => by cases h), (fun h => by cases h)⟩
theorem y_X3_faultOfRise : YL 0 yX3_faultOfRise cX3_faultOfRise 2 (some .int) 1 := ⟨by decide +kernel, tb6 (i := 197) rfl rfl, tb1 (i := 2) rfl rfl, by decide +kernel, fun _ => ⟨tb6 (i := 196) rfl rfl, tp3 (i := 6) rfl⟩, (fun h => by cases h), (fun h => by cases h)⟩
theorem y_X3_faultOfSwap : YL 0 yX3_faultOfSwap cX3_faultOfSwap 4 (some .int) 2 := ⟨by decide +kernel, tb6 (i := 188) rfl rfl, tb1 (i := 2) rfl rfl, by decide +kernel, fun _ => ⟨tb6 (i := 187) rfl rfl, tp3 (i := 4) rfl⟩, (fun h => by cases h), (fun h => by cases h)⟩
theorem y_X3_faultOfTake : YL 0 yX3_faultOfTake cX3_faultOfTake 3 (some .int) 2 := ⟨by decide +kernel, tb6 (i := 178) rfl rfl, tb1 (i := 2) rfl rfl, by decide +kernel, fun _ => ⟨tb6 (i := 177) rfl rfl, tp3 (i := 2) rfl⟩, (fun h => by cases h), (fun h => by cases h)⟩
theorem y_X3_giveBlanket : YL 0 yX3_giveBlanket cX3_giveBlanket 4 (some .int) 2 := ⟨by decide +kernel, tb6 (i := 229) rfl rfl, tb1 (i := 2) rfl rfl, by decide +kernel, fun _ => ⟨tb6 (i := 228) rfl rfl, tp3 (i := 10) rfl⟩, (fun h => by cases h), (fun h => by cases h)⟩
theorem y_X3_hasBlanket : YL 0 yX3_hasBlanket cX3_hasBlanket 2 (some .boolean) 1 := ⟨by decide +kernel, tb2 (i := 215) rfl rfl, tb1 (i := 2) rfl rfl, by decide +kernel, fun _ => ⟨tb2 (i := 213) rfl rfl, tb2 (i := 214) rfl rfl⟩, (fun h => by cases h), (fun h => by cases h)⟩
theorem y_X3_hasBunk : YL 0 yX3_hasBunk cX3_hasBunk 2 (some .boolean) 1 := ⟨by decide +kernel, tb2 (i := 223) rfl rfl, tb1 (i := 2) rfl rfl, by decide +kernel, fun _ => ⟨tb2 (i := 221) rfl rfl, tb2 (i := 222) rfl rfl⟩, (fun h => by cases h), (fun h => by cases h)⟩
theorem y_X3_hasHiker : YL 0 yX3_hasHiker cX3_hasHiker 2 (some .boolean) 1 := ⟨by decide +kernel, tb5 (i := 148) rfl rfl, tb1 (i := 2) rfl rfl, by decide +kernel, fun _ => ⟨tb5 (i := 146) rfl rfl, tb5 (i := 147) rfl rfl⟩, (fun h => by cases h), (fun h => by cases h)⟩
theorem y_X3_hikerOfRank : YL 0 yX3_hikerOfRank cX3_hikerOfRank 3 (some .int) 1 := ⟨by decide +kernel, tb6 (i := 53) rfl rfl, tb1 (i := 2) rfl rfl, by decide +kernel, fun _ => ⟨tb6 (i := 51) rfl rfl, tb6 (i := 52) rfl rfl⟩, (fun h => by cases h), (fun h => by cases h)⟩
theorem y_X3_hikersWithoutBlanket : YL 0 yX3_hikersWithoutBlanket cX3_hikersWithoutBlanket 3 (some .int) 0 := ⟨by decide +kernel, tb6 (i := 127) rfl rfl, tb1 (i := 2) rfl rfl, by decide +kernel, fun _ => ⟨tb6 (i := 125) rfl rfl, tb6 (i := 126) rfl rfl⟩, (fun h => by cases h), (fun h => by cases h)⟩
theorem y_X3_init : YL 2 yX3_init cX3_init 2 none 0 := ⟨by decide +kernel, tb1 (i := 52) rfl rfl, tb1 (i := 2) rfl rfl, by decide +kernel, (fun h => by cases h), (fun h => by cases h), fun _ => ⟨tb1 (i := 51) rfl rfl, rfl⟩⟩
theorem y_X3_measure : YL 0 yX3_measure cX3_measure 4 none 0 := ⟨by decide +kernel, tb2 (i := 207) rfl rfl, tb1 (i := 2) rfl rfl, by decide +kernel, fun _ => ⟨tb2 (i := 205) rfl rfl, tb2 (i := 206) rfl rfl⟩, (fun h => by cases h), (fun h => by cases h)⟩
theorem y_X3_moveTo : YL 0 yX3_moveTo cX3_moveTo 4 (some .int) 2 := ⟨by decide +kernel, tb6 (i := 238) rfl rfl, tb1 (i := 2) rfl rfl, by decide +kernel, fun _ => ⟨tb6 (i := 236) rfl rfl, tb6 (i := 237) rfl rfl⟩, (fun h => by cases h), (fun h => by cases h)⟩
theorem y_X3_noiseAt : YL 0 yX3_noiseAt cX3_noiseAt 5 (some .int) 1 := ⟨by decide +kernel, tb5 (i := 209) rfl rfl, tb1 (i := 2) rfl rfl, by decide +kernel, fun _ => ⟨tb5 (i := 207) rfl rfl, tb5 (i := 208) rfl rfl⟩, (fun h => by cases h), (fun h => by cases h)⟩
theorem y_X3_noteWhatHappens : YL 0 yX3_noteWhatHappens cX3_noteWhatHappens 2 none 0 := ⟨by decide +kernel, tb7 (i := 22) rfl rfl, tb1 (i := 2) rfl rfl, by decide +kernel, fun _ => ⟨tb7 (i := 21) rfl rfl, tp4 (i := 0) rfl⟩, (fun h => by cases h), (fun h => by cases h)⟩
theorem y_X3_open : YL 0 yX3_open cX3_open 1 none 0 := ⟨by decide +kernel, tb2 (i := 199) rfl rfl, tb1 (i := 2) rfl rfl, by decide +kernel, fun _ => ⟨tb2 (i := 197) rfl rfl, tb2 (i := 198) rfl rfl⟩, (fun h => by cases h), (fun h => by cases h)⟩
theorem y_X3_partOfLogs : YL 0 yX3_partOfLogs cX3_partOfLogs 4 (some .int) 1 := ⟨by decide +kernel, tb7 (i := 42) rfl rfl, tb1 (i := 2) rfl rfl, by decide +kernel, fun _ => ⟨tb7 (i := 40) rfl rfl, tb7 (i := 41) rfl rfl⟩, (fun h => by cases h), (fun h => by cases h)⟩
theorem y_X3_passTime : YL 0 yX3_passTime cX3_passTime 4 (some .int) 1 := ⟨by decide +kernel, tb7 (i := 14) rfl rfl, tb1 (i := 2) rfl rfl, by decide +kernel, fun _ => ⟨tb7 (i := 12) rfl rfl, tb7 (i := 13) rfl rfl⟩, (fun h => by cases h), (fun h => by cases h)⟩
theorem y_X3_payBack : YL 0 yX3_payBack cX3_payBack 3 (some .int) 2 := ⟨by decide +kernel, tb7 (i := 10) rfl rfl, tb1 (i := 2) rfl rfl, by decide +kernel, fun _ => ⟨tb7 (i := 9) rfl rfl, tp3 (i := 14) rfl⟩, (fun h => by cases h), (fun h => by cases h)⟩
theorem y_X3_payForBlankets : YL 0 yX3_payForBlankets cX3_payForBlankets 5 none 0 := ⟨by decide +kernel, tb7 (i := 46) rfl rfl, tb1 (i := 2) rfl rfl, by decide +kernel, fun _ => ⟨tb7 (i := 45) rfl rfl, tp4 (i := 4) rfl⟩, (fun h => by cases h), (fun h => by cases h)⟩
theorem y_X3_payForLogs : YL 0 yX3_payForLogs cX3_payForLogs 2 none 0 := ⟨by decide +kernel, tb7 (i := 38) rfl rfl, tb1 (i := 2) rfl rfl, by decide +kernel, fun _ => ⟨tb7 (i := 37) rfl rfl, tp4 (i := 3) rfl⟩, (fun h => by cases h), (fun h => by cases h)⟩
theorem y_X3_payForNight : YL 0 yX3_payForNight cX3_payForNight 2 none 0 := ⟨by decide +kernel, tb7 (i := 30) rfl rfl, tb1 (i := 2) rfl rfl, by decide +kernel, fun _ => ⟨tb7 (i := 29) rfl rfl, tp4 (i := 2) rfl⟩, (fun h => by cases h), (fun h => by cases h)⟩
theorem y_X3_perform : YL 0 yX3_perform cX3_perform 4 (some .int) 3 := ⟨by decide +kernel, tb6 (i := 225) rfl rfl, tb1 (i := 2) rfl rfl, by decide +kernel, fun _ => ⟨tb6 (i := 223) rfl rfl, tb6 (i := 224) rfl rfl⟩, (fun h => by cases h), (fun h => by cases h)⟩
theorem y_X3_rankOfHiker : YL 0 yX3_rankOfHiker cX3_rankOfHiker 5 (some .int) 1 := ⟨by decide +kernel, tb6 (i := 57) rfl rfl, tb1 (i := 2) rfl rfl, by decide +kernel, fun _ => ⟨tb6 (i := 56) rfl rfl, tp2 (i := 15) rfl⟩, (fun h => by cases h), (fun h => by cases h)⟩
theorem y_X3_sleeperIn : YL 0 yX3_sleeperIn cX3_sleeperIn 2 (some .int) 1 := ⟨by decide +kernel, tb6 (i := 16) rfl rfl, tb1 (i := 2) rfl rfl, by decide +kernel, fun _ => ⟨tb6 (i := 14) rfl rfl, tb6 (i := 15) rfl rfl⟩, (fun h => by cases h), (fun h => by cases h)⟩
theorem y_X3_sumOfCoins : YL 0 yX3_sumOfCoins cX3_sumOfCoins 3 (some .int) 0 := ⟨by decide +kernel, tb2 (i := 203) rfl rfl, tb1 (i := 2) rfl rfl, by decide +kernel, fun _ => ⟨tb2 (i := 201) rfl rfl, tb2 (i := 202) rfl rfl⟩, (fun h => by cases h), (fun h => by cases h)⟩
theorem y_X3_sumOfDebts : YL 0 yX3_sumOfDebts cX3_sumOfDebts 3 (some .int) 0 := ⟨by decide +kernel, tb6 (i := 106) rfl rfl, tb1 (i := 2) rfl rfl, by decide +kernel, fun _ => ⟨tb6 (i := 104) rfl rfl, tb6 (i := 105) rfl rfl⟩, (fun h => by cases h), (fun h => by cases h)⟩
theorem y_X3_sumOfHours : YL 0 yX3_sumOfHours cX3_sumOfHours 4 (some .int) 1 := ⟨by decide +kernel, tb6 (i := 143) rfl rfl, tb1 (i := 2) rfl rfl, by decide +kernel, fun _ => ⟨tb6 (i := 141) rfl rfl, tb6 (i := 142) rfl rfl⟩, (fun h => by cases h), (fun h => by cases h)⟩
theorem y_X3_sumOfWarmths : YL 0 yX3_sumOfWarmths cX3_sumOfWarmths 3 (some .int) 0 := ⟨by decide +kernel, tb6 (i := 135) rfl rfl, tb1 (i := 2) rfl rfl, by decide +kernel, fun _ => ⟨tb6 (i := 133) rfl rfl, tb6 (i := 134) rfl rfl⟩, (fun h => by cases h), (fun h => by cases h)⟩
theorem y_X3_temperatureInside : YL 0 yX3_temperatureInside cX3_temperatureInside 2 (some .int) 0 := ⟨by decide +kernel, tb2 (i := 211) rfl rfl, tb1 (i := 2) rfl rfl, by decide +kernel, fun _ => ⟨tb2 (i := 209) rfl rfl, tb2 (i := 210) rfl rfl⟩, (fun h => by cases h), (fun h => by cases h)⟩
theorem y_X3_thingsUsedTwice : YL 0 yX3_thingsUsedTwice cX3_thingsUsedTwice 4 (some .int) 0 := ⟨by decide +kernel, tb6 (i := 155) rfl rfl, tb1 (i := 2) rfl rfl, by decide +kernel, fun _ => ⟨tb6 (i := 153) rfl rfl, tb6 (i := 154) rfl rfl⟩, (fun h => by cases h), (fun h => by cases h)⟩
theorem y_X3_userOfBlanket : YL 0 yX3_userOfBlanket cX3_userOfBlanket 3 (some .int) 1 := ⟨by decide +kernel, tb6 (i := 37) rfl rfl, tb1 (i := 2) rfl rfl, by decide +kernel, fun _ => ⟨tb6 (i := 35) rfl rfl, tb6 (i := 36) rfl rfl⟩, (fun h => by cases h), (fun h => by cases h)⟩
theorem y_X3_warmthOfBunk : YL 0 yX3_warmthOfBunk cX3_warmthOfBunk 5 (some .int) 1 := ⟨by decide +kernel, tb2 (i := 219) rfl rfl, tb1 (i := 2) rfl rfl, by decide +kernel, fun _ => ⟨tb2 (i := 218) rfl rfl, tp1 (i := 12) rfl⟩, (fun h => by cases h), (fun h => by cases h)⟩
theorem y_X4_init : YL 2 yX4_init cX4_init 1 none 0 := ⟨by decide +kernel, tb2 (i := 44) rfl rfl, tb1 (i := 9) rfl rfl, by decide +kernel, (fun h => by cases h), (fun h => by cases h), fun _ => ⟨tb2 (i := 43) rfl rfl, rfl⟩⟩
theorem y_X5_init : YL 2 yX5_init cX5_init 1 none 0 := ⟨by decide +kernel, tb1 (i := 186) rfl rfl, tb1 (i := 4) rfl rfl, by decide +kernel, (fun h => by cases h), (fun h => by cases h), fun _ => ⟨tb1 (i := 185) rfl rfl, rfl⟩⟩
theorem y_X6_init : YL 2 yX6_init cX6_init 1 none 0 := ⟨by decide +kernel, tb2 (i := 26) rfl rfl, tb1 (i := 8) rfl rfl, by decide +kernel, (fun h => by cases h), (fun h => by cases h), fun _ => ⟨tb2 (i := 25) rfl rfl, rfl⟩⟩
theorem y_X7_hasRoomFor : YL 0 yX7_hasRoomFor cX7_hasRoomFor 2 (some .boolean) 1 := ⟨by decide +kernel, tb2 (i := 112) rfl rfl, tb1 (i := 7) rfl rfl, by decide +kernel, fun _ => ⟨tb2 (i := 110) rfl rfl, tb2 (i := 111) rfl rfl⟩, (fun h => by cases h), (fun h => by cases h)⟩
theorem y_X7_init : YL 2 yX7_init cX7_init 1 none 0 := ⟨by decide +kernel, tb1 (i := 226) rfl rfl, tb1 (i := 7) rfl rfl, by decide +kernel, (fun h => by cases h), (fun h => by cases h), fun _ => ⟨tb1 (i := 225) rfl rfl, rfl⟩⟩
theorem y_X7_isWord : YL 0 yX7_isWord cX7_isWord 3 (some .boolean) 1 := ⟨by decide +kernel, tb2 (i := 144) rfl rfl, tb1 (i := 7) rfl rfl, by decide +kernel, fun _ => ⟨tb2 (i := 142) rfl rfl, tb2 (i := 143) rfl rfl⟩, (fun h => by cases h), (fun h => by cases h)⟩
theorem y_X7_kindOf : YL 1 yX7_kindOf cX7_kindOf 1 (some .int) 1 := ⟨by decide +kernel, tb2 (i := 131) rfl rfl, tb1 (i := 7) rfl rfl, by decide +kernel, (fun h => by cases h), fun _ => tb2 (i := 130) rfl rfl, (fun h => by cases h)⟩
theorem y_X7_put : YL 0 yX7_put cX7_put 2 none 1 := ⟨by decide +kernel, tb2 (i := 108) rfl rfl, tb1 (i := 7) rfl rfl, by decide +kernel, fun _ => ⟨tb2 (i := 106) rfl rfl, tb2 (i := 107) rfl rfl⟩, (fun h => by cases h), (fun h => by cases h)⟩
theorem y_X7_putAll : YL 0 yX7_putAll cX7_putAll 3 none 1 := ⟨by decide +kernel, tb2 (i := 56) rfl rfl, tb1 (i := 7) rfl rfl, by decide +kernel, fun _ => ⟨tb2 (i := 54) rfl rfl, tb2 (i := 55) rfl rfl⟩, (fun h => by cases h), (fun h => by cases h)⟩
theorem y_X7_readFirst : YL 0 yX7_readFirst cX7_readFirst 1 none 0 := ⟨by decide +kernel, tb2 (i := 124) rfl rfl, tb1 (i := 7) rfl rfl, by decide +kernel, fun _ => ⟨tb2 (i := 122) rfl rfl, tb2 (i := 123) rfl rfl⟩, (fun h => by cases h), (fun h => by cases h)⟩
theorem y_X7_readNext : YL 0 yX7_readNext cX7_readNext 1 none 0 := ⟨by decide +kernel, tb2 (i := 128) rfl rfl, tb1 (i := 7) rfl rfl, by decide +kernel, fun _ => ⟨tb2 (i := 126) rfl rfl, tb2 (i := 127) rfl rfl⟩, (fun h => by cases h), (fun h => by cases h)⟩
theorem y_X7_value : YL 0 yX7_value cX7_value 3 (some .int) 0 := ⟨by decide +kernel, tb2 (i := 157) rfl rfl, tb1 (i := 7) rfl rfl, by decide +kernel, fun _ => ⟨tb2 (i := 155) rfl rfl, tb2 (i := 156) rfl rfl⟩, (fun h => by cases h), (fun h => by cases h)⟩
theorem y_X8_act : YL 0 yX8_act cX8_act 4 (some .int) 3 := ⟨by decide +kernel, tb6 (i := 170) rfl rfl, tb1 (i := 1) rfl rfl, by decide +kernel, fun _ => ⟨tb6 (i := 169) rfl rfl, tp3 (i := 1) rfl⟩, (fun h => by cases h), (fun h => by cases h)⟩
theorem y_X8_activity : YL 0 yX8_activity cX8_activity 2 (some .int) 1 := ⟨by decide +kernel, tb5 (i := 201) rfl rfl, tb1 (i := 1) rfl rfl, by decide +kernel, fun _ => ⟨tb5 (i := 199) rfl rfl, tb5 (i := 200) rfl rfl⟩, (fun h => by cases h), (fun h => by cases h)⟩
theorem y_X8_appendText : YL 0 yX8_appendText cX8_appendText 2 (some .int) 1 := ⟨by decide +kernel, tb5 (i := 67) rfl rfl, tb1 (i := 1) rfl rfl, by decide +kernel, fun _ => ⟨tb5 (i := 65) rfl rfl, tb5 (i := 66) rfl rfl⟩, (fun h => by cases h), (fun h => by cases h)⟩
theorem y_X8_auditDifference : YL 0 yX8_auditDifference cX8_auditDifference 1 (some .int) 0 := ⟨by decide +kernel, tb6 (i := 147) rfl rfl, tb1 (i := 1) rfl rfl, by decide +kernel, fun _ => ⟨tb6 (i := 145) rfl rfl, tb6 (i := 146) rfl rfl⟩, (fun h => by cases h), (fun h => by cases h)⟩
theorem y_X8_blanketOf : YL 0 yX8_blanketOf cX8_blanketOf 2 (some .int) 1 := ⟨by decide +kernel, tb5 (i := 179) rfl rfl, tb1 (i := 1) rfl rfl, by decide +kernel, fun _ => ⟨tb5 (i := 177) rfl rfl, tb5 (i := 178) rfl rfl⟩, (fun h => by cases h), (fun h => by cases h)⟩
theorem y_X8_bunkOf : YL 0 yX8_bunkOf cX8_bunkOf 2 (some .int) 1 := ⟨by decide +kernel, tb5 (i := 172) rfl rfl, tb1 (i := 1) rfl rfl, by decide +kernel, fun _ => ⟨tb5 (i := 170) rfl rfl, tb5 (i := 171) rfl rfl⟩, (fun h => by cases h), (fun h => by cases h)⟩
theorem y_X8_burnedLogs : YL 0 yX8_burnedLogs cX8_burnedLogs 1 (some .int) 0 := ⟨by decide +kernel, tb6 (i := 98) rfl rfl, tb1 (i := 1) rfl rfl, by decide +kernel, fun _ => ⟨tb6 (i := 96) rfl rfl, tb6 (i := 97) rfl rfl⟩, (fun h => by cases h), (fun h => by cases h)⟩
theorem y_X8_coinsOf : YL 0 yX8_coinsOf cX8_coinsOf 2 (some .int) 1 := ⟨by decide +kernel, tb5 (i := 232) rfl rfl, tb1 (i := 1) rfl rfl, by decide +kernel, fun _ => ⟨tb5 (i := 230) rfl rfl, tb5 (i := 231) rfl rfl⟩, (fun h => by cases h), (fun h => by cases h)⟩
theorem y_X8_coldHikers : YL 0 yX8_coldHikers cX8_coldHikers 1 (some .int) 0 := ⟨by decide +kernel, tb6 (i := 110) rfl rfl, tb1 (i := 1) rfl rfl, by decide +kernel, fun _ => ⟨tb6 (i := 108) rfl rfl, tb6 (i := 109) rfl rfl⟩, (fun h => by cases h), (fun h => by cases h)⟩
theorem y_X8_debtOf : YL 0 yX8_debtOf cX8_debtOf 2 (some .int) 1 := ⟨by decide +kernel, tb5 (i := 239) rfl rfl, tb1 (i := 1) rfl rfl, by decide +kernel, fun _ => ⟨tb5 (i := 237) rfl rfl, tb5 (i := 238) rfl rfl⟩, (fun h => by cases h), (fun h => by cases h)⟩
theorem y_X8_demandBunk : YL 0 yX8_demandBunk cX8_demandBunk 2 none 1 := ⟨by decide +kernel, tb6 (i := 10) rfl rfl, tb1 (i := 1) rfl rfl, by decide +kernel, fun _ => ⟨tb6 (i := 9) rfl rfl, tp2 (i := 13) rfl⟩, (fun h => by cases h), (fun h => by cases h)⟩
theorem y_X8_demandHiker : YL 0 yX8_demandHiker cX8_demandHiker 2 none 1 := ⟨by decide +kernel, tb5 (i := 144) rfl rfl, tb1 (i := 1) rfl rfl, by decide +kernel, fun _ => ⟨tb5 (i := 143) rfl rfl, tp2 (i := 6) rfl⟩, (fun h => by cases h), (fun h => by cases h)⟩
theorem y_X8_fetchLogs : YL 0 yX8_fetchLogs cX8_fetchLogs 2 (some .int) 1 := ⟨by decide +kernel, tb7 (i := 93) rfl rfl, tb1 (i := 1) rfl rfl, by decide +kernel, fun _ => ⟨tb7 (i := 91) rfl rfl, tb7 (i := 92) rfl rfl⟩, (fun h => by cases h), (fun h => by cases h)⟩
theorem y_X8_getUp : YL 0 yX8_getUp cX8_getUp 2 (some .int) 1 := ⟨by decide +kernel, tb7 (i := 79) rfl rfl, tb1 (i := 1) rfl rfl, by decide +kernel, fun _ => ⟨tb7 (i := 77) rfl rfl, tb7 (i := 78) rfl rfl⟩, (fun h => by cases h), (fun h => by cases h)⟩
theorem y_X8_hikerAtRank : YL 0 yX8_hikerAtRank cX8_hikerAtRank 3 (some .int) 1 := ⟨by decide +kernel, tb6 (i := 49) rfl rfl, tb1 (i := 1) rfl rfl, by decide +kernel, fun _ => ⟨tb6 (i := 47) rfl rfl, tb6 (i := 48) rfl rfl⟩, (fun h => by cases h), (fun h => by cases h)⟩
theorem y_X8_hikerIn : YL 0 yX8_hikerIn cX8_hikerIn 2 (some .int) 1 := ⟨by decide +kernel, tb6 (i := 6) rfl rfl, tb1 (i := 1) rfl rfl, by decide +kernel, fun _ => ⟨tb6 (i := 4) rfl rfl, tb6 (i := 5) rfl rfl⟩, (fun h => by cases h), (fun h => by cases h)⟩
theorem y_X8_hikersWithout : YL 0 yX8_hikersWithout cX8_hikersWithout 1 (some .int) 0 := ⟨by decide +kernel, tb6 (i := 123) rfl rfl, tb1 (i := 1) rfl rfl, by decide +kernel, fun _ => ⟨tb6 (i := 121) rfl rfl, tb6 (i := 122) rfl rfl⟩, (fun h => by cases h), (fun h => by cases h)⟩
theorem y_X8_hour : YL 0 yX8_hour cX8_hour 1 (some .int) 0 := ⟨by decide +kernel, tb6 (i := 81) rfl rfl, tb1 (i := 1) rfl rfl, by decide +kernel, fun _ => ⟨tb6 (i := 79) rfl rfl, tb6 (i := 80) rfl rfl⟩, (fun h => by cases h), (fun h => by cases h)⟩
theorem y_X8_hoursOf : YL 0 yX8_hoursOf cX8_hoursOf 3 (some .int) 2 := ⟨by decide +kernel, tb5 (i := 140) rfl rfl, tb1 (i := 1) rfl rfl, by decide +kernel, fun _ => ⟨tb5 (i := 138) rfl rfl, tb5 (i := 139) rfl rfl⟩, (fun h => by cases h), (fun h => by cases h)⟩
theorem y_X8_hutCoins : YL 0 yX8_hutCoins cX8_hutCoins 1 (some .int) 0 := ⟨by decide +kernel, tb6 (i := 94) rfl rfl, tb1 (i := 1) rfl rfl, by decide +kernel, fun _ => ⟨tb6 (i := 92) rfl rfl, tb6 (i := 93) rfl rfl⟩, (fun h => by cases h), (fun h => by cases h)⟩
theorem y_X8_init : YL 2 yX8_init cX8_init 1 none 0 := ⟨by decide +kernel, tb1 (i := 46) rfl rfl, tb1 (i := 1) rfl rfl, by decide +kernel, (fun h => by cases h), (fun h => by cases h), fun _ => ⟨tb1 (i := 45) rfl rfl, rfl⟩⟩
theorem y_X8_isWithin : YL 1 yX8_isWithin cX8_isWithin 3 (some .boolean) 3 := ⟨by decide +kernel, tb2 (i := 163) rfl rfl, tb1 (i := 1) rfl rfl, by decide +kernel, (fun h => by cases h), fun _ => tb2 (i := 162) rfl rfl, (fun h => by cases h)⟩
theorem y_X8_lieDown : YL 0 yX8_lieDown cX8_lieDown 3 (some .int) 2 := ⟨by decide +kernel, tb7 (i := 72) rfl rfl, tb1 (i := 1) rfl rfl, by decide +kernel, fun _ => ⟨tb7 (i := 70) rfl rfl, tb7 (i := 71) rfl rfl⟩, (fun h => by cases h), (fun h => by cases h)⟩
theorem y_X8_loadSetup : YL 0 yX8_loadSetup cX8_loadSetup 2 (some .int) 0 := ⟨by decide +kernel, tb5 (i := 89) rfl rfl, tb1 (i := 1) rfl rfl, by decide +kernel, fun _ => ⟨tb5 (i := 87) rfl rfl, tb5 (i := 88) rfl rfl⟩, (fun h => by cases h), (fun h => by cases h)⟩
theorem y_X8_logs : YL 0 yX8_logs cX8_logs 1 (some .int) 0 := ⟨by decide +kernel, tb6 (i := 85) rfl rfl, tb1 (i := 1) rfl rfl, by decide +kernel, fun _ => ⟨tb6 (i := 83) rfl rfl, tb6 (i := 84) rfl rfl⟩, (fun h => by cases h), (fun h => by cases h)⟩
theorem y_X8_meanWarmth : YL 0 yX8_meanWarmth cX8_meanWarmth 2 (some .double) 0 := ⟨by decide +kernel, tb6 (i := 131) rfl rfl, tb1 (i := 1) rfl rfl, by decide +kernel, fun _ => ⟨tb6 (i := 129) rfl rfl, tb6 (i := 130) rfl rfl⟩, (fun h => by cases h), (fun h => by cases h)⟩
theorem y_X8_newHuts : YL 1 yX8_newHuts cX8_newHuts 3 (some (.array (.object "HutLedger$Hut"))) 1 := ⟨by decide +kernel, tb1 (i := 202) rfl rfl, tb1 (i := 1) rfl rfl, by decide +kernel, (fun h => by cases h), fun _ => tb1 (i := 201) rfl rfl, (fun h => by cases h)⟩
theorem y_X8_noiseIn : YL 0 yX8_noiseIn cX8_noiseIn 2 (some .int) 1 := ⟨by decide +kernel, tb6 (i := 23) rfl rfl, tb1 (i := 1) rfl rfl, by decide +kernel, fun _ => ⟨tb6 (i := 21) rfl rfl, tb6 (i := 22) rfl rfl⟩, (fun h => by cases h), (fun h => by cases h)⟩
theorem y_X8_passHours : YL 0 yX8_passHours cX8_passHours 2 (some .int) 1 := ⟨by decide +kernel, tb7 (i := 107) rfl rfl, tb1 (i := 1) rfl rfl, by decide +kernel, fun _ => ⟨tb7 (i := 105) rfl rfl, tb7 (i := 106) rfl rfl⟩, (fun h => by cases h), (fun h => by cases h)⟩
theorem y_X8_payDebt : YL 0 yX8_payDebt cX8_payDebt 3 (some .int) 2 := ⟨by decide +kernel, tb7 (i := 100) rfl rfl, tb1 (i := 1) rfl rfl, by decide +kernel, fun _ => ⟨tb7 (i := 98) rfl rfl, tb7 (i := 99) rfl rfl⟩, (fun h => by cases h), (fun h => by cases h)⟩
theorem y_X8_refuse : YL 1 yX8_refuse cX8_refuse 1 none 1 := ⟨by decide +kernel, tb6 (i := 213) rfl rfl, tb1 (i := 1) rfl rfl, by decide +kernel, (fun h => by cases h), fun _ => tb6 (i := 212) rfl rfl, (fun h => by cases h)⟩
theorem y_X8_returnBlanket : YL 0 yX8_returnBlanket cX8_returnBlanket 2 (some .int) 1 := ⟨by decide +kernel, tb7 (i := 58) rfl rfl, tb1 (i := 1) rfl rfl, by decide +kernel, fun _ => ⟨tb7 (i := 56) rfl rfl, tb7 (i := 57) rfl rfl⟩, (fun h => by cases h), (fun h => by cases h)⟩
theorem y_X8_setRate : YL 0 yX8_setRate cX8_setRate 2 (some .int) 1 := ⟨by decide +kernel, tb7 (i := 86) rfl rfl, tb1 (i := 1) rfl rfl, by decide +kernel, fun _ => ⟨tb7 (i := 84) rfl rfl, tb7 (i := 85) rfl rfl⟩, (fun h => by cases h), (fun h => by cases h)⟩
theorem y_X8_sleepShare : YL 0 yX8_sleepShare cX8_sleepShare 2 (some .float) 0 := ⟨by decide +kernel, tb6 (i := 139) rfl rfl, tb1 (i := 1) rfl rfl, by decide +kernel, fun _ => ⟨tb6 (i := 137) rfl rfl, tb6 (i := 138) rfl rfl⟩, (fun h => by cases h), (fun h => by cases h)⟩
theorem y_X8_swapBlankets : YL 0 yX8_swapBlankets cX8_swapBlankets 3 (some .int) 2 := ⟨by decide +kernel, tb7 (i := 65) rfl rfl, tb1 (i := 1) rfl rfl, by decide +kernel, fun _ => ⟨tb7 (i := 63) rfl rfl, tb7 (i := 64) rfl rfl⟩, (fun h => by cases h), (fun h => by cases h)⟩
theorem y_X8_takeBlanket : YL 0 yX8_takeBlanket cX8_takeBlanket 3 (some .int) 2 := ⟨by decide +kernel, tb6 (i := 166) rfl rfl, tb1 (i := 1) rfl rfl, by decide +kernel, fun _ => ⟨tb6 (i := 164) rfl rfl, tb6 (i := 165) rfl rfl⟩, (fun h => by cases h), (fun h => by cases h)⟩
theorem y_X8_temperature : YL 0 yX8_temperature cX8_temperature 1 (some .int) 0 := ⟨by decide +kernel, tb6 (i := 89) rfl rfl, tb1 (i := 1) rfl rfl, by decide +kernel, fun _ => ⟨tb6 (i := 87) rfl rfl, tb6 (i := 88) rfl rfl⟩, (fun h => by cases h), (fun h => by cases h)⟩
theorem y_X8_totalDebt : YL 0 yX8_totalDebt cX8_totalDebt 1 (some .int) 0 := ⟨by decide +kernel, tb6 (i := 102) rfl rfl, tb1 (i := 1) rfl rfl, by decide +kernel, fun _ => ⟨tb6 (i := 100) rfl rfl, tb6 (i := 101) rfl rfl⟩, (fun h => by cases h), (fun h => by cases h)⟩
theorem y_X8_truncateText : YL 0 yX8_truncateText cX8_truncateText 2 (some .int) 1 := ⟨by decide +kernel, tb5 (i := 53) rfl rfl, tb1 (i := 1) rfl rfl, by decide +kernel, fun _ => ⟨tb5 (i := 51) rfl rfl, tb5 (i := 52) rfl rfl⟩, (fun h => by cases h), (fun h => by cases h)⟩
theorem y_X8_undo : YL 0 yX8_undo cX8_undo 1 (some .int) 0 := ⟨by decide +kernel, tb5 (i := 110) rfl rfl, tb1 (i := 1) rfl rfl, by decide +kernel, fun _ => ⟨tb5 (i := 108) rfl rfl, tb5 (i := 109) rfl rfl⟩, (fun h => by cases h), (fun h => by cases h)⟩
theorem y_X8_userOf : YL 0 yX8_userOf cX8_userOf 2 (some .int) 1 := ⟨by decide +kernel, tb6 (i := 31) rfl rfl, tb1 (i := 1) rfl rfl, by decide +kernel, fun _ => ⟨tb6 (i := 29) rfl rfl, tb6 (i := 30) rfl rfl⟩, (fun h => by cases h), (fun h => by cases h)⟩
theorem y_X8_warmth : YL 0 yX8_warmth cX8_warmth 2 (some .int) 1 := ⟨by decide +kernel, tb5 (i := 186) rfl rfl, tb1 (i := 1) rfl rfl, by decide +kernel, fun _ => ⟨tb5 (i := 184) rfl rfl, tb5 (i := 185) rfl rfl⟩, (fun h => by cases h), (fun h => by cases h)⟩
theorem y_X9_init : YL 2 yX9_init cX9_init 1 none 0 := ⟨by decide +kernel, tb4 (i := 62) rfl rfl, tb1 (i := 25) rfl rfl, by decide +kernel, (fun h => by cases h), (fun h => by cases h), fun _ => ⟨tb4 (i := 61) rfl rfl, rfl⟩⟩
def YU (C : String) (y : MethodName) (bytes : ByteArray) (maxL : Nat) (ret : Option FieldType) (n : Nat) : Prop := Jvm.plainName y.cls = true ∧ Cond.code y bytes maxL ret ∈ TBL ∧ Cond.initialized y.cls ∈ TBL ∧ (y.cls ≠ "java/lang/invoke/MethodHandle" ∧ y.cls ≠ "java/lang/invoke/VarHandle" ∧ (parseMethodDescriptor y.desc).map (fun d => d.parameters.length) = some n) ∧ Cond.sameMethod y.cls y.cls y.name y.desc ∈ TBL ∧ Cond.selects C y y ∈ TBL ∧ Cond.instanceMethod y ∈ TBL
theorem yu_J5_ensureCapacityInternal_d00df : YU RJ4 yJ5_ensureCapacityInternal_d00df cJ5_ensureCapacityInternal_d00df 3 none 1 := ⟨by decide +kernel, tb3 (i := 163) rfl rfl, tb1 (i := 18) rfl rfl, by decide +kernel, tb7 (i := 122) rfl rfl, su_J5_ensureCapacityInternal_d00df, tb3 (i := 162) rfl rfl⟩
theorem yu_J5_getValue_6d5f1 : YU RJ4 yJ5_getValue_6d5f1 cJ5_getValue_6d5f1 1 (some (.array .byte)) 0 := ⟨by decide +kernel, tb4 (i := 164) rfl rfl, tb1 (i := 18) rfl rfl, by decide +kernel, tb4 (i := 162) rfl rfl, tb4 (i := 163) rfl rfl, tb4 (i := 161) rfl rfl⟩
theorem yu_J5_inflateIfNeededFor_a7421 : YU RJ4 yJ5_inflateIfNeededFor_a7421 cJ5_inflateIfNeededFor_a7421 2 none 1 := ⟨by decide +kernel, tb3 (i := 218) rfl rfl, tb1 (i := 18) rfl rfl, by decide +kernel, tb7 (i := 125) rfl rfl, su_J5_inflateIfNeededFor_a7421, tb3 (i := 217) rfl rfl⟩
theorem yu_J5_isLatin1_aae02 : YU RJ4 yJ5_isLatin1_aae02 cJ5_isLatin1_aae02 1 (some .boolean) 0 := ⟨by decide +kernel, tb3 (i := 194) rfl rfl, tb1 (i := 18) rfl rfl, by decide +kernel, tb3 (i := 192) rfl rfl, tb3 (i := 193) rfl rfl, tb3 (i := 191) rfl rfl⟩
theorem yu_J5_newCapacity_0f7a4 : YU RJ4 yJ5_newCapacity_0f7a4 cJ5_newCapacity_0f7a4 6 (some .int) 1 := ⟨by decide +kernel, tb3 (i := 167) rfl rfl, tb1 (i := 18) rfl rfl, by decide +kernel, tb7 (i := 123) rfl rfl, su_J5_newCapacity_0f7a4, tb3 (i := 166) rfl rfl⟩
theorem yu_J5_putStringAt_47b60 : YU RJ4 yJ5_putStringAt_47b60 cJ5_putStringAt_47b60 3 none 2 := ⟨by decide +kernel, tb3 (i := 214) rfl rfl, tb1 (i := 18) rfl rfl, by decide +kernel, tb7 (i := 124) rfl rfl, su_J5_putStringAt_47b60, tb3 (i := 213) rfl rfl⟩
def YS (own : String) (y : MethodName) (bytes : ByteArray) (maxL : Nat) (ret : Option FieldType) (n : Nat) : Prop := Jvm.plainName y.cls = true ∧ Cond.code y bytes maxL ret ∈ TBL ∧ Cond.initialized y.cls ∈ TBL ∧ (y.name ≠ "<init>" ∧ (parseMethodDescriptor y.desc).map (fun d => d.parameters.length) = some n) ∧ Cond.sameMethod y.cls y.cls y.name y.desc ∈ TBL ∧ Cond.superclass own y.cls ∈ TBL ∧ Cond.instanceMethod y ∈ TBL
theorem ys_J5_append_3fe6f : YS RJ4 yJ5_append_3fe6f cJ5_append_3fe6f 2 (some (.object "java/lang/AbstractStringBuilder")) 1 := ⟨by decide +kernel, tb4 (i := 49) rfl rfl, tb1 (i := 18) rfl rfl, by decide +kernel, tb7 (i := 128) rfl rfl, tb3 (i := 154) rfl rfl, tb4 (i := 48) rfl rfl⟩
theorem ys_J5_append_c97b9 : YS RJ4 yJ5_append_c97b9 cJ5_append_c97b9 4 (some (.object "java/lang/AbstractStringBuilder")) 1 := ⟨by decide +kernel, tb4 (i := 22) rfl rfl, tb1 (i := 18) rfl rfl, by decide +kernel, tb7 (i := 127) rfl rfl, tb3 (i := 154) rfl rfl, tb4 (i := 21) rfl rfl⟩
theorem ys_J5_append_cf1ce : YS RJ4 yJ5_append_cf1ce cJ5_append_cf1ce 3 (some (.object "java/lang/AbstractStringBuilder")) 1 := ⟨by decide +kernel, tb3 (i := 155) rfl rfl, tb1 (i := 18) rfl rfl, by decide +kernel, tb3 (i := 145) rfl rfl, tb3 (i := 154) rfl rfl, tb3 (i := 144) rfl rfl⟩
theorem ys_J5_length_8abf5 : YS RJ4 yJ5_length_8abf5 cJ5_length_8abf5 1 (some .int) 0 := ⟨by decide +kernel, tb4 (i := 172) rfl rfl, tb1 (i := 18) rfl rfl, by decide +kernel, tb4 (i := 167) rfl rfl, tb3 (i := 154) rfl rfl, tb4 (i := 166) rfl rfl⟩
def YO (C : String) (x y : MethodName) (bytes : ByteArray) (maxL : Nat) (ret : Option FieldType) (n : Nat) : Prop := (Jvm.plainName y.cls = true ∧ Cond.code y bytes maxL ret ∈ TBL ∧ Cond.initialized y.cls ∈ TBL ∧ ∃ (b0 : ByteArray) (m0 : Nat) (r0 : Option FieldType), Cond.code x b0 m0 r0 ∈ TBL) ∧ (x.cls ≠ "java/lang/invoke/MethodHandle" ∧ x.cls ≠ "java/lang/invoke/VarHandle" ∧ (parseMethodDescriptor x.desc).map (fun d => d.parameters.length) = some n) ∧ Cond.sameMethod x.cls x.cls x.name x.desc ∈ TBL ∧ Cond.instanceMethod x ∈ TBL ∧ Cond.selects C x y ∈ TBL ∧ Cond.instanceMethod y ∈ TBL
theorem yo_J4_append_cf1ce : YO RJ4 yJ5_append_cf1ce yJ4_append_cf1ce cJ4_append_cf1ce 2 (some (.object "java/lang/AbstractStringBuilder")) 1 := ⟨⟨by decide +kernel, tb3 (i := 148) rfl rfl, tb1 (i := 19) rfl rfl, cJ5_append_cf1ce, 3, (some (.object "java/lang/AbstractStringBuilder")), tb3 (i := 155) rfl rfl⟩, by decide +kernel, tb3 (i := 145) rfl rfl, tb3 (i := 144) rfl rfl, tb3 (i := 146) rfl rfl, tb3 (i := 147) rfl rfl⟩
theorem yo_J4_length_8abf5 : YO RJ4 yJ5_length_8abf5 yJ4_length_8abf5 cJ4_length_8abf5 1 (some .int) 0 := ⟨⟨by decide +kernel, tb4 (i := 170) rfl rfl, tb1 (i := 19) rfl rfl, cJ5_length_8abf5, 1, (some .int), tb4 (i := 172) rfl rfl⟩, by decide +kernel, tb4 (i := 167) rfl rfl, tb4 (i := 166) rfl rfl, tb4 (i := 168) rfl rfl, tb4 (i := 169) rfl rfl⟩
theorem z_clone : Cond.native ⟨"java/lang/Object", "clone", "()Ljava/lang/Object;"⟩ ∈ TBL ∧ Cond.instanceMethod ⟨"java/lang/Object", "clone", "()Ljava/lang/Object;"⟩ ∈ TBL ∧ Cond.sameMethod "[B" "java/lang/Object" "clone" "()Ljava/lang/Object;" ∈ TBL ∧ Cond.selects "[B" ⟨"[B", "clone", "()Ljava/lang/Object;"⟩ ⟨"java/lang/Object", "clone", "()Ljava/lang/Object;"⟩ ∈ TBL := ⟨tb3 (i := 181) rfl rfl, tb3 (i := 182) rfl rfl, tb3 (i := 180) rfl rfl, tb3 (i := 183) rfl rfl⟩
theorem m_J7_310l : Cond.methodLink RJ7 310 ⟨"[B", "clone", "()Ljava/lang/Object;"⟩ ∈ TBL := tb3 (i := 179) rfl rfl
theorem k_Jx4a65c_7 : Cond.classLink RJx4a65c 7 "java/lang/Object" ∈ TBL := tb4 (i := 145) rfl rfl
theorem k_J7_2 : Cond.classLink RJ7 2 "java/lang/Object" ∈ TBL := tb4 (i := 143) rfl rfl
theorem k_J7_311 : Cond.classLink RJ7 311 "[B" ∈ TBL := tb3 (i := 185) rfl rfl
theorem g_J5_18 : Cond.fieldLink RJ5 18 "java/lang/String" "COMPACT_STRINGS" "Z" ∈ TBL := tb3 (i := 195) rfl rfl
theorem g_J6_83 : Cond.fieldLink RJ6 83 "java/lang/Integer" "DigitOnes" "[B" ∈ TBL := tb4 (i := 29) rfl rfl
theorem g_J6_87 : Cond.fieldLink RJ6 87 "java/lang/Integer" "DigitTens" "[B" ∈ TBL := tb4 (i := 31) rfl rfl
theorem g_J0_38 : Cond.fieldLink RJ0 38 "java/lang/String" "COMPACT_STRINGS" "Z" ∈ TBL := tb2 (i := 65) rfl rfl
theorem g_J0_1053 : Cond.fieldLink RJ0 1053 "jdk/internal/util/Preconditions" "SIOOBE_FORMATTER" "Ljava/util/function/BiFunction;" ∈ TBL := tb2 (i := 81) rfl rfl
theorem g_Jx4a65c_39 : Cond.fieldLink RJx4a65c 39 "java/util/ArrayList" "DEFAULTCAPACITY_EMPTY_ELEMENTDATA" "[Ljava/lang/Object;" ∈ TBL := tb3 (i := 29) rfl rfl
theorem m_X8_1 : Cond.methodLink RX8 1 Lib.objectInit ∈ TBL := tb1 (i := 47) rfl rfl
theorem m_X8_9 : Cond.methodLink RX8 9 yX3_init ∈ TBL := tb1 (i := 50) rfl rfl
theorem m_X8_33 : Cond.methodLink RX8 33 yX8_newHuts ∈ TBL := tb1 (i := 215) rfl rfl
theorem m_X8_72 : Cond.methodLink RX8 72 yX7_putAll ∈ TBL := tb2 (i := 53) rfl rfl
theorem m_X8_78 : Cond.methodLink RX8 78 yX0_readSetup ∈ TBL := tb2 (i := 113) rfl rfl
theorem m_X8_86 : Cond.methodLink RX8 86 yX7_hasRoomFor ∈ TBL := tb5 (i := 68) rfl rfl
theorem m_X8_96 : Cond.methodLink RX8 96 yX7_put ∈ TBL := tb5 (i := 85) rfl rfl
theorem m_X8_100 : Cond.methodLink RX8 100 yX8_isWithin ∈ TBL := tb5 (i := 54) rfl rfl
theorem m_X8_109 : Cond.methodLink RX8 109 yX3_copyFrom ∈ TBL := tb5 (i := 90) rfl rfl
theorem m_X8_113 : Cond.methodLink RX8 113 yX2_forget ∈ TBL := tb5 (i := 100) rfl rfl
theorem m_X8_136 : Cond.methodLink RX8 136 yX3_faultOf ∈ TBL := tb6 (i := 171) rfl rfl
theorem m_X8_140 : Cond.methodLink RX8 140 yX2_keep ∈ TBL := tb6 (i := 217) rfl rfl
theorem m_X8_143 : Cond.methodLink RX8 143 yX3_perform ∈ TBL := tb6 (i := 222) rfl rfl
theorem m_X8_162 : Cond.methodLink RX8 162 yX3_temperatureInside ∈ TBL := tb6 (i := 90) rfl rfl
theorem m_X8_165 : Cond.methodLink RX8 165 yX8_demandBunk ∈ TBL := tb6 (i := 7) rfl rfl
theorem m_X8_168 : Cond.methodLink RX8 168 yX3_sleeperIn ∈ TBL := tb6 (i := 13) rfl rfl
theorem m_X8_172 : Cond.methodLink RX8 172 yX3_noiseAt ∈ TBL := tb6 (i := 24) rfl rfl
theorem m_X8_181 : Cond.methodLink RX8 181 yX8_demandHiker ∈ TBL := tb5 (i := 141) rfl rfl
theorem m_X8_188 : Cond.methodLink RX8 188 yX3_hasBunk ∈ TBL := tb6 (i := 11) rfl rfl
theorem m_X8_196 : Cond.methodLink RX8 196 yX3_hasHiker ∈ TBL := tb5 (i := 145) rfl rfl
theorem m_X8_201 : Cond.methodLink RX8 201 yX3_hasBlanket ∈ TBL := tb6 (i := 32) rfl rfl
theorem m_X8_206 : Cond.methodLink RX8 206 yX3_userOfBlanket ∈ TBL := tb6 (i := 34) rfl rfl
theorem m_X8_238 : Cond.methodLink RX8 238 yX3_activityNow ∈ TBL := tb5 (i := 202) rfl rfl
theorem m_X8_252 : Cond.methodLink RX8 252 yX3_hikerOfRank ∈ TBL := tb6 (i := 50) rfl rfl
theorem m_X8_259 : Cond.methodLink RX8 259 yX3_hikersWithoutBlanket ∈ TBL := tb6 (i := 124) rfl rfl
theorem m_X8_262 : Cond.methodLink RX8 262 yX3_coldCount ∈ TBL := tb6 (i := 111) rfl rfl
theorem m_X8_283 : Cond.methodLink RX8 283 yX3_sumOfDebts ∈ TBL := tb6 (i := 103) rfl rfl
theorem m_X8_289 : Cond.methodLink RX8 289 yX3_sumOfCoins ∈ TBL := tb6 (i := 148) rfl rfl
theorem m_X8_292 : Cond.methodLink RX8 292 yJ9_abs_0f7a4 ∈ TBL := tb6 (i := 149) rfl rfl
theorem m_X8_300 : Cond.methodLink RX8 300 yX3_thingsUsedTwice ∈ TBL := tb6 (i := 152) rfl rfl
theorem m_X8_303 : Cond.methodLink RX8 303 yX3_sumOfWarmths ∈ TBL := tb6 (i := 132) rfl rfl
theorem m_X8_306 : Cond.methodLink RX8 306 yX3_sumOfHours ∈ TBL := tb6 (i := 140) rfl rfl
theorem m_X8_339 : Cond.methodLink RX8 339 yX8_act ∈ TBL := tb6 (i := 167) rfl rfl
theorem m_X8_342 : Cond.methodLink RX8 342 yX8_refuse ∈ TBL := tb6 (i := 211) rfl rfl
theorem m_X8_380 : Cond.methodLink RX8 380 yX2_takeBack ∈ TBL := tb5 (i := 112) rfl rfl
theorem m_X0_3 : Cond.methodLink RX0 3 Lib.objectInit ∈ TBL := tb1 (i := 221) rfl rfl
theorem m_X0_25 : Cond.methodLink RX0 25 yX0_begin ∈ TBL := tb2 (i := 117) rfl rfl
theorem m_X0_28 : Cond.methodLink RX0 28 yX0_readLogs ∈ TBL := tb2 (i := 132) rfl rfl
theorem m_X0_32 : Cond.methodLink RX0 32 yX0_readBunks ∈ TBL := tb2 (i := 168) rfl rfl
theorem m_X0_35 : Cond.methodLink RX0 35 yX0_readBlankets ∈ TBL := tb2 (i := 177) rfl rfl
theorem m_X0_38 : Cond.methodLink RX0 38 yX0_readForecast ∈ TBL := tb2 (i := 182) rfl rfl
theorem m_X0_41 : Cond.methodLink RX0 41 yX0_readHikers ∈ TBL := tb2 (i := 187) rfl rfl
theorem m_X0_44 : Cond.methodLink RX0 44 yX3_open ∈ TBL := tb2 (i := 196) rfl rfl
theorem m_X0_49 : Cond.methodLink RX0 49 yX7_readFirst ∈ TBL := tb2 (i := 121) rfl rfl
theorem m_X0_57 : Cond.methodLink RX0 57 yX0_readWord ∈ TBL := tb2 (i := 137) rfl rfl
theorem m_X0_61 : Cond.methodLink RX0 61 yX0_isNumber ∈ TBL := tb2 (i := 150) rfl rfl
theorem m_X0_65 : Cond.methodLink RX0 65 yX7_value ∈ TBL := tb2 (i := 154) rfl rfl
theorem m_X0_72 : Cond.methodLink RX0 72 yX7_readNext ∈ TBL := tb2 (i := 149) rfl rfl
theorem m_X0_75 : Cond.methodLink RX0 75 yX0_readSemicolon ∈ TBL := tb2 (i := 164) rfl rfl
theorem m_X0_85 : Cond.methodLink RX0 85 yX0_readRow ∈ TBL := tb2 (i := 173) rfl rfl
theorem m_X0_113 : Cond.methodLink RX0 113 yX0_fail ∈ TBL := tb2 (i := 145) rfl rfl
theorem m_X0_122 : Cond.methodLink RX0 122 yX7_isWord ∈ TBL := tb2 (i := 141) rfl rfl
theorem m_X0_129 : Cond.methodLink RX0 129 yX0_readHiker ∈ TBL := tb2 (i := 192) rfl rfl
theorem m_X1_3 : Cond.methodLink RX1 3 Lib.objectInit ∈ TBL := tb1 (i := 60) rfl rfl
theorem m_X2_3 : Cond.methodLink RX2 3 Lib.objectInit ∈ TBL := tb1 (i := 199) rfl rfl
theorem m_X2_23 : Cond.methodLink RX2 23 yX3_copyFrom ∈ TBL := tb5 (i := 116) rfl rfl
theorem m_X2_32 : Cond.methodLink RX2 32 yJ9_min_7cf53 ∈ TBL := tb6 (i := 221) rfl rfl
theorem m_X3_3 : Cond.methodLink RX3 3 Lib.objectInit ∈ TBL := tb1 (i := 53) rfl rfl
theorem m_X3_41 : Cond.methodLink RX3 41 yX3_sumOfCoins ∈ TBL := tb2 (i := 200) rfl rfl
theorem m_X3_48 : Cond.methodLink RX3 48 yX3_measure ∈ TBL := tb2 (i := 204) rfl rfl
theorem m_X3_87 : Cond.methodLink RX3 87 yX1_copyFrom ∈ TBL := tb5 (i := 95) rfl rfl
theorem m_X3_91 : Cond.methodLink RX3 91 yX3_temperatureInside ∈ TBL := tb2 (i := 208) rfl rfl
theorem m_X3_97 : Cond.methodLink RX3 97 yX3_hasBlanket ∈ TBL := tb2 (i := 212) rfl rfl
theorem m_X3_107 : Cond.methodLink RX3 107 yX3_warmthOfBunk ∈ TBL := tb2 (i := 216) rfl rfl
theorem m_X3_114 : Cond.methodLink RX3 114 yX3_hasBunk ∈ TBL := tb2 (i := 220) rfl rfl
theorem m_X3_117 : Cond.methodLink RX3 117 yX1_isCold ∈ TBL := tb2 (i := 224) rfl rfl
theorem m_X3_124 : Cond.methodLink RX3 124 yX3_noiseAt ∈ TBL := tb5 (i := 206) rfl rfl
theorem m_X3_127 : Cond.methodLink RX3 127 yX3_sleeperIn ∈ TBL := tb6 (i := 193) rfl rfl
theorem m_X3_140 : Cond.methodLink RX3 140 yX3_hikersWithoutBlanket ∈ TBL := tb7 (i := 51) rfl rfl
theorem m_X3_143 : Cond.methodLink RX3 143 yX3_userOfBlanket ∈ TBL := tb6 (i := 180) rfl rfl
theorem m_X3_172 : Cond.methodLink RX3 172 yX3_countOf ∈ TBL := tb6 (i := 115) rfl rfl
theorem m_X3_175 : Cond.methodLink RX3 175 yX3_activityNow ∈ TBL := tb6 (i := 119) rfl rfl
theorem m_X3_181 : Cond.methodLink RX3 181 yX3_rankOfHiker ∈ TBL := tb6 (i := 54) rfl rfl
theorem m_X3_184 : Cond.methodLink RX3 184 yX1_ranksBefore ∈ TBL := tb6 (i := 58) rfl rfl
theorem m_X3_197 : Cond.methodLink RX3 197 yX3_burnLogs ∈ TBL := tb7 (i := 15) rfl rfl
theorem m_X3_200 : Cond.methodLink RX3 200 yX3_noteWhatHappens ∈ TBL := tb7 (i := 19) rfl rfl
theorem m_X3_203 : Cond.methodLink RX3 203 yX3_endHour ∈ TBL := tb7 (i := 23) rfl rfl
theorem m_X3_206 : Cond.methodLink RX3 206 yX3_payForNight ∈ TBL := tb7 (i := 27) rfl rfl
theorem m_X3_209 : Cond.methodLink RX3 209 yX3_payForLogs ∈ TBL := tb7 (i := 35) rfl rfl
theorem m_X3_212 : Cond.methodLink RX3 212 yX3_payForBlankets ∈ TBL := tb7 (i := 43) rfl rfl
theorem m_X3_215 : Cond.methodLink RX3 215 yX1_payOut ∈ TBL := tb7 (i := 31) rfl rfl
theorem m_X3_218 : Cond.methodLink RX3 218 yX3_partOfLogs ∈ TBL := tb7 (i := 39) rfl rfl
theorem m_X3_221 : Cond.methodLink RX3 221 yX1_feeForBlanket ∈ TBL := tb7 (i := 47) rfl rfl
theorem m_X3_224 : Cond.methodLink RX3 224 yX3_faultOfTake ∈ TBL := tb6 (i := 175) rfl rfl
theorem m_X3_227 : Cond.methodLink RX3 227 yX3_faultOfReturn ∈ TBL := tb6 (i := 181) rfl rfl
theorem m_X3_230 : Cond.methodLink RX3 230 yX3_faultOfSwap ∈ TBL := tb6 (i := 185) rfl rfl
theorem m_X3_233 : Cond.methodLink RX3 233 yX3_faultOfLie ∈ TBL := tb6 (i := 189) rfl rfl
theorem m_X3_236 : Cond.methodLink RX3 236 yX3_faultOfRise ∈ TBL := tb6 (i := 194) rfl rfl
theorem m_X3_239 : Cond.methodLink RX3 239 yX3_faultOfFetch ∈ TBL := tb6 (i := 199) rfl rfl
theorem m_X3_242 : Cond.methodLink RX3 242 yX3_faultOfPay ∈ TBL := tb6 (i := 203) rfl rfl
theorem m_X3_245 : Cond.methodLink RX3 245 yX3_faultOfPass ∈ TBL := tb6 (i := 207) rfl rfl
theorem m_X3_248 : Cond.methodLink RX3 248 yX3_hasHiker ∈ TBL := tb6 (i := 179) rfl rfl
theorem m_X3_251 : Cond.methodLink RX3 251 yX3_giveBlanket ∈ TBL := tb6 (i := 226) rfl rfl
theorem m_X3_254 : Cond.methodLink RX3 254 yX3_exchangeBlankets ∈ TBL := tb6 (i := 230) rfl rfl
theorem m_X3_258 : Cond.methodLink RX3 258 yX3_coldCount ∈ TBL := tb6 (i := 234) rfl rfl
theorem m_X3_261 : Cond.methodLink RX3 261 yX3_moveTo ∈ TBL := tb6 (i := 235) rfl rfl
theorem m_X3_264 : Cond.methodLink RX3 264 yX3_changeRate ∈ TBL := tb6 (i := 239) rfl rfl
theorem m_X3_267 : Cond.methodLink RX3 267 yX3_addLogs ∈ TBL := tb7 (i := 3) rfl rfl
theorem m_X3_270 : Cond.methodLink RX3 270 yX3_payBack ∈ TBL := tb7 (i := 7) rfl rfl
theorem m_X3_273 : Cond.methodLink RX3 273 yX3_passTime ∈ TBL := tb7 (i := 11) rfl rfl
theorem m_X4_3 : Cond.methodLink RX4 3 Lib.objectInit ∈ TBL := tb2 (i := 45) rfl rfl
theorem m_X5_3 : Cond.methodLink RX5 3 Lib.objectInit ∈ TBL := tb1 (i := 187) rfl rfl
theorem m_X5_11 : Cond.methodLink RX5 11 yX3_init ∈ TBL := tb1 (i := 189) rfl rfl
theorem m_X6_3 : Cond.methodLink RX6 3 Lib.objectInit ∈ TBL := tb2 (i := 27) rfl rfl
theorem m_X7_3 : Cond.methodLink RX7 3 Lib.objectInit ∈ TBL := tb1 (i := 227) rfl rfl
theorem m_X7_19 : Cond.methodLink RX7 19 yX7_hasRoomFor ∈ TBL := tb2 (i := 109) rfl rfl
theorem m_X7_23 : Cond.methodLink RX7 23 yJ0_length_8abf5 ∈ TBL := tb2 (i := 57) rfl rfl
theorem m_X7_28 : Cond.methodLink RX7 28 yJ0_charAt_5068e ∈ TBL := tb2 (i := 67) rfl rfl
theorem m_X7_32 : Cond.methodLink RX7 32 yX7_put ∈ TBL := tb2 (i := 105) rfl rfl
theorem m_X7_39 : Cond.methodLink RX7 39 yX7_readNext ∈ TBL := tb2 (i := 125) rfl rfl
theorem m_X7_45 : Cond.methodLink RX7 45 yX7_kindOf ∈ TBL := tb2 (i := 129) rfl rfl
theorem m_X7_52 : Cond.methodLink RX7 52 yJ9_min_7cf53 ∈ TBL := tb2 (i := 158) rfl rfl
theorem m_L_1 : Cond.methodLink RL 1 Lib.objectInit ∈ TBL := tb1 (i := 39) rfl rfl
theorem m_L_9 : Cond.methodLink RL 9 yX8_init ∈ TBL := tb1 (i := 44) rfl rfl
theorem m_L_18 : Cond.methodLink RL 18 yJx4a65c_init_da8c8 ∈ TBL := tb3 (i := 19) rfl rfl
theorem m_L_42 : Cond.methodLink RL 42 yJ9_max_7cf53 ∈ TBL := tb3 (i := 111) rfl rfl
theorem m_L_48 : Cond.methodLink RL 48 yL_at ∈ TBL := tb3 (i := 114) rfl rfl
theorem m_L_55 : Cond.methodLink RL 55 yX8_appendText ∈ TBL := tb5 (i := 64) rfl rfl
theorem m_L_61 : Cond.methodLink RL 61 yX8_truncateText ∈ TBL := tb5 (i := 50) rfl rfl
theorem m_L_66 : Cond.methodLink RL 66 yX8_hikerIn ∈ TBL := tb6 (i := 3) rfl rfl
theorem m_L_71 : Cond.methodLink RL 71 yX8_noiseIn ∈ TBL := tb6 (i := 20) rfl rfl
theorem m_L_74 : Cond.methodLink RL 74 yX8_userOf ∈ TBL := tb6 (i := 28) rfl rfl
theorem m_L_77 : Cond.methodLink RL 77 yX8_bunkOf ∈ TBL := tb5 (i := 169) rfl rfl
theorem m_L_80 : Cond.methodLink RL 80 yX8_blanketOf ∈ TBL := tb5 (i := 176) rfl rfl
theorem m_L_83 : Cond.methodLink RL 83 yX8_warmth ∈ TBL := tb5 (i := 183) rfl rfl
theorem m_L_86 : Cond.methodLink RL 86 yX8_activity ∈ TBL := tb5 (i := 198) rfl rfl
theorem m_L_89 : Cond.methodLink RL 89 yX8_hoursOf ∈ TBL := tb5 (i := 137) rfl rfl
theorem m_L_92 : Cond.methodLink RL 92 yX8_coinsOf ∈ TBL := tb5 (i := 229) rfl rfl
theorem m_L_95 : Cond.methodLink RL 95 yX8_debtOf ∈ TBL := tb5 (i := 236) rfl rfl
theorem m_L_98 : Cond.methodLink RL 98 yX8_takeBlanket ∈ TBL := tb6 (i := 163) rfl rfl
theorem m_L_101 : Cond.methodLink RL 101 yX8_returnBlanket ∈ TBL := tb7 (i := 55) rfl rfl
theorem m_L_104 : Cond.methodLink RL 104 yX8_swapBlankets ∈ TBL := tb7 (i := 62) rfl rfl
theorem m_L_107 : Cond.methodLink RL 107 yX8_lieDown ∈ TBL := tb7 (i := 69) rfl rfl
theorem m_L_110 : Cond.methodLink RL 110 yX8_getUp ∈ TBL := tb7 (i := 76) rfl rfl
theorem m_L_113 : Cond.methodLink RL 113 yX8_setRate ∈ TBL := tb7 (i := 83) rfl rfl
theorem m_L_116 : Cond.methodLink RL 116 yX8_fetchLogs ∈ TBL := tb7 (i := 90) rfl rfl
theorem m_L_119 : Cond.methodLink RL 119 yX8_payDebt ∈ TBL := tb7 (i := 97) rfl rfl
theorem m_L_122 : Cond.methodLink RL 122 yX8_passHours ∈ TBL := tb7 (i := 104) rfl rfl
theorem m_L_125 : Cond.methodLink RL 125 yL_truncateText ∈ TBL := tb5 (i := 46) rfl rfl
theorem m_L_128 : Cond.methodLink RL 128 yJ0_length_8abf5 ∈ TBL := tb5 (i := 58) rfl rfl
theorem m_L_134 : Cond.methodLink RL 134 yJ0_charAt_5068e ∈ TBL := tb5 (i := 59) rfl rfl
theorem m_L_138 : Cond.methodLink RL 138 yL_appendText ∈ TBL := tb5 (i := 60) rfl rfl
theorem m_L_140 : Cond.methodLink RL 140 yX8_hikerAtRank ∈ TBL := tb6 (i := 46) rfl rfl
theorem m_L_145 : Cond.methodLink RL 145 yX8_undo ∈ TBL := tb5 (i := 107) rfl rfl
theorem m_L_148 : Cond.methodLink RL 148 yJx4a65c_clear_da8c8 ∈ TBL := tb3 (i := 103) rfl rfl
theorem m_L_169 : Cond.methodLink RL 169 yL_draw ∈ TBL := tb3 (i := 107) rfl rfl
theorem m_L_188 : Cond.methodLink RL 188 yJ4_init_a7421 ∈ TBL := tb3 (i := 125) rfl rfl
theorem m_L_191 : Cond.methodLink RL 191 yJ4_append_bf812 ∈ TBL := tb4 (i := 16) rfl rfl
theorem m_L_197 : Cond.methodLink RL 197 yJ4_append_15ec4 ∈ TBL := tb4 (i := 42) rfl rfl
theorem m_L_200 : Cond.methodLink RL 200 yJ4_append_cf468 ∈ TBL := tb4 (i := 43) rfl rfl
theorem m_L_210 : Cond.methodLink RL 210 yJx4a65c_size_8abf5 ∈ TBL := tb4 (i := 92) rfl rfl
theorem m_L_225 : Cond.methodLink RL 225 yJx4a65c_add_9ea2d ∈ TBL := tb4 (i := 96) rfl rfl
theorem m_L_231 : Cond.methodLink RL 231 yJ4_toString_0e30d ∈ TBL := tb4 (i := 147) rfl rfl
theorem m_L_235 : Cond.methodLink RL 235 yL_lays ∈ TBL := tb5 (i := 42) rfl rfl
theorem m_L_239 : Cond.methodLink RL 239 yX8_loadSetup ∈ TBL := tb5 (i := 86) rfl rfl
theorem m_L_242 : Cond.methodLink RL 242 yL_back ∈ TBL := tb5 (i := 104) rfl rfl
theorem m_L_246 : Cond.methodLink RL 246 yJx4a65c_get_915e3 ∈ TBL := tb5 (i := 121) rfl rfl
theorem m_L_256 : Cond.methodLink RL 256 yL_in ∈ TBL := tb5 (i := 191) rfl rfl
theorem m_L_260 : Cond.methodLink RL 260 yL_warm ∈ TBL := tb5 (i := 187) rfl rfl
theorem m_L_264 : Cond.methodLink RL 264 yL_isCold ∈ TBL := tb5 (i := 214) rfl rfl
theorem m_L_268 : Cond.methodLink RL 268 yL_loud ∈ TBL := tb5 (i := 222) rfl rfl
theorem m_L_271 : Cond.methodLink RL 271 yL_noise ∈ TBL := tb5 (i := 218) rfl rfl
theorem m_L_274 : Cond.methodLink RL 274 yJ9_min_7cf53 ∈ TBL := tb7 (i := 120) rfl rfl
theorem m_L_280 : Cond.methodLink RL 280 yL_pays ∈ TBL := tb7 (i := 116) rfl rfl
theorem m_L_287 : Cond.methodLink RL 287 yL_does ∈ TBL := tb5 (i := 210) rfl rfl
theorem m_L_290 : Cond.methodLink RL 290 yL_dawns ∈ TBL := tb7 (i := 112) rfl rfl
theorem m_L_293 : Cond.methodLink RL 293 yL_hoursOf ∈ TBL := tb5 (i := 133) rfl rfl
theorem m_L_296 : Cond.methodLink RL 296 yL_bunkOf ∈ TBL := tb5 (i := 166) rfl rfl
theorem m_L_298 : Cond.methodLink RL 298 yL_blanketOf ∈ TBL := tb5 (i := 173) rfl rfl
theorem m_L_300 : Cond.methodLink RL 300 yL_warmth ∈ TBL := tb5 (i := 180) rfl rfl
theorem m_L_302 : Cond.methodLink RL 302 yL_activity ∈ TBL := tb5 (i := 195) rfl rfl
theorem m_L_304 : Cond.methodLink RL 304 yL_coinsOf ∈ TBL := tb5 (i := 226) rfl rfl
theorem m_L_306 : Cond.methodLink RL 306 yL_debtOf ∈ TBL := tb5 (i := 233) rfl rfl
theorem m_L_308 : Cond.methodLink RL 308 yL_hikerIn ∈ TBL := tb6 (i := 0) rfl rfl
theorem m_L_310 : Cond.methodLink RL 310 yL_noiseIn ∈ TBL := tb6 (i := 17) rfl rfl
theorem m_L_312 : Cond.methodLink RL 312 yL_userOf ∈ TBL := tb6 (i := 25) rfl rfl
theorem m_L_314 : Cond.methodLink RL 314 yL_under ∈ TBL := tb6 (i := 38) rfl rfl
theorem m_L_317 : Cond.methodLink RL 317 yL_ranked ∈ TBL := tb6 (i := 42) rfl rfl
theorem m_L_320 : Cond.methodLink RL 320 yX8_hour ∈ TBL := tb6 (i := 78) rfl rfl
theorem m_L_322 : Cond.methodLink RL 322 yX8_logs ∈ TBL := tb6 (i := 82) rfl rfl
theorem m_L_324 : Cond.methodLink RL 324 yX8_temperature ∈ TBL := tb6 (i := 86) rfl rfl
theorem m_L_327 : Cond.methodLink RL 327 yX8_hutCoins ∈ TBL := tb6 (i := 91) rfl rfl
theorem m_L_330 : Cond.methodLink RL 330 yX8_burnedLogs ∈ TBL := tb6 (i := 95) rfl rfl
theorem m_L_333 : Cond.methodLink RL 333 yX8_totalDebt ∈ TBL := tb6 (i := 99) rfl rfl
theorem m_L_336 : Cond.methodLink RL 336 yX8_coldHikers ∈ TBL := tb6 (i := 107) rfl rfl
theorem m_L_339 : Cond.methodLink RL 339 yX8_hikersWithout ∈ TBL := tb6 (i := 120) rfl rfl
theorem m_L_342 : Cond.methodLink RL 342 yX8_meanWarmth ∈ TBL := tb6 (i := 128) rfl rfl
theorem m_L_346 : Cond.methodLink RL 346 yX8_sleepShare ∈ TBL := tb6 (i := 136) rfl rfl
theorem m_L_350 : Cond.methodLink RL 350 yX8_auditDifference ∈ TBL := tb6 (i := 144) rfl rfl
theorem m_L_353 : Cond.methodLink RL 353 yL_takeBlanket ∈ TBL := tb6 (i := 160) rfl rfl
theorem m_L_355 : Cond.methodLink RL 355 yL_returnBlanket ∈ TBL := tb7 (i := 52) rfl rfl
theorem m_L_357 : Cond.methodLink RL 357 yL_swapBlankets ∈ TBL := tb7 (i := 59) rfl rfl
theorem m_L_359 : Cond.methodLink RL 359 yL_lieDown ∈ TBL := tb7 (i := 66) rfl rfl
theorem m_L_361 : Cond.methodLink RL 361 yL_getUp ∈ TBL := tb7 (i := 73) rfl rfl
theorem m_L_363 : Cond.methodLink RL 363 yL_setRate ∈ TBL := tb7 (i := 80) rfl rfl
theorem m_L_365 : Cond.methodLink RL 365 yL_fetchLogs ∈ TBL := tb7 (i := 87) rfl rfl
theorem m_L_367 : Cond.methodLink RL 367 yL_payDebt ∈ TBL := tb7 (i := 94) rfl rfl
theorem m_L_369 : Cond.methodLink RL 369 yL_passHours ∈ TBL := tb7 (i := 101) rfl rfl
theorem m_L_371 : Cond.methodLink RL 371 yL_passes ∈ TBL := tb7 (i := 108) rfl rfl
theorem m_L_374 : Cond.methodLink RL 374 yL_loads ∈ TBL := tb3 (i := 99) rfl rfl
theorem m_L_378 : Cond.methodLink RL 378 yL_same ∈ TBL := tb5 (i := 117) rfl rfl
theorem m_L_381 : Cond.methodLink RL 381 yL_act ∈ TBL := tb6 (i := 156) rfl rfl
theorem m_L_384 : Cond.methodLink RL 384 yL_init ∈ TBL := tb1 (i := 36) rfl rfl
theorem m_L_385 : Cond.methodLink RL 385 yL_holds ∈ TBL := tb3 (i := 95) rfl rfl
theorem m_X9_1 : Cond.methodLink RX9 1 Lib.objectInit ∈ TBL := tb4 (i := 63) rfl rfl
theorem m_J5_3 : Cond.methodLink RJ5 3 Lib.objectInit ∈ TBL := tb3 (i := 131) rfl rfl
theorem m_J5_26 : Cond.methodLink RJ5 26 yJ2_newBytesFor_77867 ∈ TBL := tb3 (i := 136) rfl rfl
theorem m_J5_32 : Cond.methodLink RJ5 32 yJ0_length_8abf5 ∈ TBL := tb3 (i := 132) rfl rfl
theorem m_J5_40 : Cond.methodLink RJ5 40 yJ0_coder_7d493 ∈ TBL := tb3 (i := 135) rfl rfl
theorem m_J5_43 : Cond.methodLink RJ5 43 yJ5_append_cf1ce ∈ TBL := tb3 (i := 143) rfl rfl
theorem m_J5_83 : Cond.methodLink RJ5 83 yJ5_isLatin1_aae02 ∈ TBL := tb3 (i := 190) rfl rfl
theorem m_J5_100 : Cond.methodLink RJ5 100 yJ5_ensureCapacityInternal_d00df ∈ TBL := tb3 (i := 160) rfl rfl
theorem m_J5_104 : Cond.methodLink RJ5 104 yJ5_newCapacity_0f7a4 ∈ TBL := tb3 (i := 164) rfl rfl
theorem m_J5_108 : Cond.methodLink RJ5 108 yJ7_copyOf_9075b ∈ TBL := tb3 (i := 176) rfl rfl
theorem m_J5_114 : Cond.methodLink RJ5 114 yJ8_newLength_cabcc ∈ TBL := tb3 (i := 168) rfl rfl
theorem m_J5_125 : Cond.methodLink RJ5 125 yJ1_inflate_0e8fd ∈ TBL := tb3 (i := 223) rfl rfl
theorem m_J5_191 : Cond.methodLink RJ5 191 yJ1_canEncode_fc78d ∈ TBL := tb4 (i := 50) rfl rfl
theorem m_J5_195 : Cond.methodLink RJ5 195 yJ5_inflate_da8c8 ∈ TBL := tb3 (i := 219) rfl rfl
theorem m_J5_197 : Cond.methodLink RJ5 197 yJ2_putCharSB_b72d1 ∈ TBL := tb4 (i := 53) rfl rfl
theorem m_J5_204 : Cond.methodLink RJ5 204 yJ5_appendNull_278bc ∈ TBL := tb3 (i := 156) rfl rfl
theorem m_J5_208 : Cond.methodLink RJ5 208 yJ5_putStringAt_47b60 ∈ TBL := tb3 (i := 211) rfl rfl
theorem m_J5_226 : Cond.methodLink RJ5 226 yJ2_putCharsAt_cd4e5 ∈ TBL := tb3 (i := 196) rfl rfl
theorem m_J5_245 : Cond.methodLink RJ5 245 yJ6_stringSize_0f7a4 ∈ TBL := tb4 (i := 23) rfl rfl
theorem m_J5_248 : Cond.methodLink RJ5 248 yJ6_getChars_ba4f3 ∈ TBL := tb4 (i := 26) rfl rfl
theorem m_J5_251 : Cond.methodLink RJ5 251 yJ2_getChars_46870 ∈ TBL := tb4 (i := 33) rfl rfl
theorem m_J5_397 : Cond.methodLink RJ5 397 yJ5_inflateIfNeededFor_a7421 ∈ TBL := tb3 (i := 215) rfl rfl
theorem m_J5_399 : Cond.methodLink RJ5 399 yJ0_getBytes_840e7 ∈ TBL := tb3 (i := 238) rfl rfl
theorem m_J0_1 : Cond.methodLink RJ0 1 Lib.objectInit ∈ TBL := tb4 (i := 159) rfl rfl
theorem m_J0_47 : Cond.methodLink RJ0 47 yJ2_coderFromArrayLen_85cad ∈ TBL := tb5 (i := 28) rfl rfl
theorem m_J0_54 : Cond.methodLink RJ0 54 yJ7_copyOfRange_39247 ∈ TBL := tb4 (i := 174) rfl rfl
theorem m_J0_106 : Cond.methodLink RJ0 106 yJ1_inflate_0e8fd ∈ TBL := tb4 (i := 3) rfl rfl
theorem m_J0_335 : Cond.methodLink RJ0 335 yJ0_coder_7d493 ∈ TBL := tb2 (i := 61) rfl rfl
theorem m_J0_489 : Cond.methodLink RJ0 489 yJ0_init_db425 ∈ TBL := tb4 (i := 156) rfl rfl
theorem m_J0_492 : Cond.methodLink RJ0 492 yJ0_isLatin1_aae02 ∈ TBL := tb2 (i := 71) rfl rfl
theorem m_J0_495 : Cond.methodLink RJ0 495 yJ1_charAt_3b067 ∈ TBL := tb2 (i := 75) rfl rfl
theorem m_J0_498 : Cond.methodLink RJ0 498 yJ2_charAt_3b067 ∈ TBL := tb2 (i := 86) rfl rfl
theorem m_J0_549 : Cond.methodLink RJ0 549 yJ5_length_8abf5 ∈ TBL := tb4 (i := 165) rfl rfl
theorem m_J0_552 : Cond.methodLink RJ0 552 yJ5_getValue_6d5f1 ∈ TBL := tb4 (i := 160) rfl rfl
theorem m_J0_1047 : Cond.methodLink RJ0 1047 yJ5_isLatin1_aae02 ∈ TBL := tb4 (i := 173) rfl rfl
theorem m_J0_1051 : Cond.methodLink RJ0 1051 yJ2_compress_39247 ∈ TBL := tb5 (i := 21) rfl rfl
theorem m_J0_1059 : Cond.methodLink RJ0 1059 yJ3_checkIndex_8e157 ∈ TBL := tb2 (i := 83) rfl rfl
theorem m_J0_1062 : Cond.methodLink RJ0 1062 yJ3_checkFromToIndex_8c36e ∈ TBL := tb3 (i := 205) rfl rfl
theorem m_J0_1065 : Cond.methodLink RJ0 1065 yJ3_checkFromIndexSize_8c36e ∈ TBL := tb3 (i := 235) rfl rfl
theorem m_J4_1 : Cond.methodLink RJ4 1 yJ5_init_d00df ∈ TBL := tb4 (i := 229) rfl rfl
theorem m_J4_7 : Cond.methodLink RJ4 7 yJ5_init_a7421 ∈ TBL := tb3 (i := 128) rfl rfl
theorem m_J4_23 : Cond.methodLink RJ4 23 yJ4_append_15ec4 ∈ TBL := tb3 (i := 149) rfl rfl
theorem m_J4_29 : Cond.methodLink RJ4 29 yJ5_append_cf1ce ∈ TBL := tb3 (i := 153) rfl rfl
theorem m_J4_50 : Cond.methodLink RJ4 50 yJ5_append_3fe6f ∈ TBL := tb4 (i := 47) rfl rfl
theorem m_J4_53 : Cond.methodLink RJ4 53 yJ5_append_c97b9 ∈ TBL := tb4 (i := 20) rfl rfl
theorem m_J4_137 : Cond.methodLink RJ4 137 yJ0_init_81219 ∈ TBL := tb4 (i := 153) rfl rfl
theorem m_J4_343 : Cond.methodLink RJ4 343 yJ5_length_8abf5 ∈ TBL := tb4 (i := 171) rfl rfl
theorem m_J1_9 : Cond.methodLink RJ1 9 yJ0_checkIndex_df160 ∈ TBL := tb2 (i := 78) rfl rfl
theorem m_J1_240 : Cond.methodLink RJ1 240 yJ2_inflate_0e8fd ∈ TBL := tb3 (i := 226) rfl rfl
theorem m_J2_11 : Cond.methodLink RJ2 11 yJ2_newBytesLength_0f7a4 ∈ TBL := tb3 (i := 139) rfl rfl
theorem m_J2_48 : Cond.methodLink RJ2 48 yJ2_length_9d52b ∈ TBL := tb2 (i := 92) rfl rfl
theorem m_J2_67 : Cond.methodLink RJ2 67 yJ2_checkIndex_2214a ∈ TBL := tb2 (i := 89) rfl rfl
theorem m_J2_71 : Cond.methodLink RJ2 71 yJ2_getChar_3b067 ∈ TBL := tb2 (i := 96) rfl rfl
theorem m_J2_96 : Cond.methodLink RJ2 96 yJ2_checkBoundsBeginEnd_d044e ∈ TBL := tb3 (i := 199) rfl rfl
theorem m_J2_111 : Cond.methodLink RJ2 111 yJ2_putChar_b72d1 ∈ TBL := tb3 (i := 208) rfl rfl
theorem m_J2_123 : Cond.methodLink RJ2 123 yJ2_compress_5af95 ∈ TBL := tb5 (i := 24) rfl rfl
theorem m_J2_126 : Cond.methodLink RJ2 126 yJ7_copyOfRange_39247 ∈ TBL := tb5 (i := 27) rfl rfl
theorem m_J2_173 : Cond.methodLink RJ2 173 yJ2_checkBoundsOffCount_d044e ∈ TBL := tb3 (i := 229) rfl rfl
theorem m_J2_241 : Cond.methodLink RJ2 241 yJ0_checkBoundsBeginEnd_23922 ∈ TBL := tb3 (i := 202) rfl rfl
theorem m_J2_393 : Cond.methodLink RJ2 393 yJ2_getChars_ba4f3 ∈ TBL := tb4 (i := 36) rfl rfl
theorem m_J2_414 : Cond.methodLink RJ2 414 yJ0_checkIndex_df160 ∈ TBL := tb2 (i := 95) rfl rfl
theorem m_J2_419 : Cond.methodLink RJ2 419 yJ0_checkBoundsOffCount_cabcc ∈ TBL := tb3 (i := 232) rfl rfl
theorem m_Jxa1e45_1 : Cond.methodLink RJxa1e45 1 Lib.objectInit ∈ TBL := tb3 (i := 28) rfl rfl
theorem m_Jxc12de_1 : Cond.methodLink RJxc12de 1 yJxa1e45_init_da8c8 ∈ TBL := tb3 (i := 25) rfl rfl
theorem m_Jx4a65c_1 : Cond.methodLink RJx4a65c 1 yJxc12de_init_da8c8 ∈ TBL := tb3 (i := 22) rfl rfl
theorem m_Jx4a65c_66 : Cond.methodLink RJx4a65c 66 yJ7_copyOf_1904c ∈ TBL := tb4 (i := 113) rfl rfl
theorem m_Jx4a65c_69 : Cond.methodLink RJx4a65c 69 yJx4a65c_grow_92f84 ∈ TBL := tb4 (i := 108) rfl rfl
theorem m_Jx4a65c_73 : Cond.methodLink RJx4a65c 73 yJ8_newLength_cabcc ∈ TBL := tb4 (i := 112) rfl rfl
theorem m_Jx4a65c_79 : Cond.methodLink RJx4a65c 79 yJ9_max_7cf53 ∈ TBL := tb4 (i := 144) rfl rfl
theorem m_Jx4a65c_118 : Cond.methodLink RJx4a65c 118 yJ15_checkIndex_7cf53 ∈ TBL := tb5 (i := 125) rfl rfl
theorem m_Jx4a65c_123 : Cond.methodLink RJx4a65c 123 yJx4a65c_elementData_915e3 ∈ TBL := tb5 (i := 129) rfl rfl
theorem m_Jx4a65c_129 : Cond.methodLink RJx4a65c 129 yJx4a65c_grow_d5877 ∈ TBL := tb4 (i := 104) rfl rfl
theorem m_Jx4a65c_131 : Cond.methodLink RJx4a65c 131 yJx4a65c_add_72be8 ∈ TBL := tb4 (i := 100) rfl rfl
theorem m_J7_47 : Cond.methodLink RJ7 47 yJ4_init_da8c8 ∈ TBL := tb4 (i := 226) rfl rfl
theorem m_J7_50 : Cond.methodLink RJ7 50 yJ4_append_15ec4 ∈ TBL := tb4 (i := 234) rfl rfl
theorem m_J7_54 : Cond.methodLink RJ7 54 yJ4_append_bf812 ∈ TBL := tb4 (i := 232) rfl rfl
theorem m_J7_61 : Cond.methodLink RJ7 61 yJ4_toString_0e30d ∈ TBL := tb4 (i := 235) rfl rfl
theorem m_J7_300 : Cond.methodLink RJ7 300 yJ7_copyOf_6403c ∈ TBL := tb4 (i := 138) rfl rfl
theorem m_J7_304 : Cond.methodLink RJ7 304 yJ9_min_7cf53 ∈ TBL := tb3 (i := 186) rfl rfl
theorem m_J7_339 : Cond.methodLink RJ7 339 yJ7_copyOfRangeByte_39247 ∈ TBL := tb4 (i := 177) rfl rfl
theorem m_J7_343 : Cond.methodLink RJ7 343 yJ7_checkLength_df160 ∈ TBL := tb4 (i := 180) rfl rfl
theorem m_J15_105 : Cond.methodLink RJ15 105 yJ3_checkIndex_8e157 ∈ TBL := tb5 (i := 128) rfl rfl
theorem m_J8_194 : Cond.methodLink RJ8 194 yJ9_max_7cf53 ∈ TBL := tb3 (i := 171) rfl rfl
theorem m_J8_201 : Cond.methodLink RJ8 201 yJ8_hugeLength_7cf53 ∈ TBL := tb3 (i := 173) rfl rfl
theorem k_X8_7 : Cond.classLink RX8 7 RX3 ∈ TBL := tb1 (i := 48) rfl rfl
theorem k_X8_19 : Cond.classLink RX8 19 RX5 ∈ TBL := tb1 (i := 182) rfl rfl
theorem k_X8_26 : Cond.classLink RX8 26 RX2 ∈ TBL := tb1 (i := 194) rfl rfl
theorem k_X8_45 : Cond.classLink RX8 45 RX0 ∈ TBL := tb1 (i := 216) rfl rfl
theorem k_X8_52 : Cond.classLink RX8 52 RX6 ∈ TBL := tb2 (i := 22) rfl rfl
theorem k_X8_59 : Cond.classLink RX8 59 RX4 ∈ TBL := tb2 (i := 40) rfl rfl
theorem k_X0_9 : Cond.classLink RX0 9 RX7 ∈ TBL := tb1 (i := 222) rfl rfl
theorem k_X3_27 : Cond.classLink RX3 27 RX1 ∈ TBL := tb1 (i := 54) rfl rfl
theorem k_X5_9 : Cond.classLink RX5 9 RX3 ∈ TBL := tb1 (i := 188) rfl rfl
theorem k_L_7 : Cond.classLink RL 7 RX8 ∈ TBL := tb1 (i := 42) rfl rfl
theorem k_L_11 : Cond.classLink RL 11 RL ∈ TBL := tb1 (i := 34) rfl rfl
theorem k_L_16 : Cond.classLink RL 16 RJx4a65c ∈ TBL := tb3 (i := 17) rfl rfl
theorem k_L_184 : Cond.classLink RL 184 RJ4 ∈ TBL := tb3 (i := 122) rfl rfl
theorem k_L_207 : Cond.classLink RL 207 RX9 ∈ TBL := tb4 (i := 58) rfl rfl
theorem k_J4_18 : Cond.classLink RJ4 18 RJ0 ∈ TBL := tb4 (i := 151) rfl rfl
theorem k_J7_45 : Cond.classLink RJ7 45 RJ4 ∈ TBL := tb4 (i := 225) rfl rfl
theorem n_X8 : Cond.instantiable RX8 9 ∈ TBL ∧ Cond.initialized RX8 ∈ TBL := ⟨tb1 (i := 43) rfl rfl, tb1 (i := 1) rfl rfl⟩
theorem n_X0 : Cond.instantiable RX0 4 ∈ TBL ∧ Cond.initialized RX0 ∈ TBL := ⟨tb1 (i := 217) rfl rfl, tb1 (i := 6) rfl rfl⟩
theorem n_X1 : Cond.instantiable RX1 9 ∈ TBL ∧ Cond.initialized RX1 ∈ TBL := ⟨tb1 (i := 56) rfl rfl, tb1 (i := 3) rfl rfl⟩
theorem n_X2 : Cond.instantiable RX2 3 ∈ TBL ∧ Cond.initialized RX2 ∈ TBL := ⟨tb1 (i := 195) rfl rfl, tb1 (i := 5) rfl rfl⟩
theorem n_X3 : Cond.instantiable RX3 19 ∈ TBL ∧ Cond.initialized RX3 ∈ TBL := ⟨tb1 (i := 49) rfl rfl, tb1 (i := 2) rfl rfl⟩
theorem n_X4 : Cond.instantiable RX4 2 ∈ TBL ∧ Cond.initialized RX4 ∈ TBL := ⟨tb2 (i := 41) rfl rfl, tb1 (i := 9) rfl rfl⟩
theorem n_X5 : Cond.instantiable RX5 1 ∈ TBL ∧ Cond.initialized RX5 ∈ TBL := ⟨tb1 (i := 183) rfl rfl, tb1 (i := 4) rfl rfl⟩
theorem n_X6 : Cond.instantiable RX6 4 ∈ TBL ∧ Cond.initialized RX6 ∈ TBL := ⟨tb2 (i := 23) rfl rfl, tb1 (i := 8) rfl rfl⟩
theorem n_X7 : Cond.instantiable RX7 5 ∈ TBL ∧ Cond.initialized RX7 ∈ TBL := ⟨tb1 (i := 223) rfl rfl, tb1 (i := 7) rfl rfl⟩
theorem n_L : Cond.instantiable RL 17 ∈ TBL ∧ Cond.initialized RL ∈ TBL := ⟨tb1 (i := 35) rfl rfl, tb1 (i := 0) rfl rfl⟩
theorem n_X9 : Cond.instantiable RX9 8 ∈ TBL ∧ Cond.initialized RX9 ∈ TBL := ⟨tb4 (i := 59) rfl rfl, tb1 (i := 25) rfl rfl⟩
theorem n_J0 : Cond.instantiable RJ0 4 ∈ TBL ∧ Cond.initialized RJ0 ∈ TBL := ⟨tb4 (i := 152) rfl rfl, tb1 (i := 10) rfl rfl⟩
theorem n_J4 : Cond.instantiable RJ4 4 ∈ TBL ∧ Cond.initialized RJ4 ∈ TBL := ⟨tb3 (i := 123) rfl rfl, tb1 (i := 19) rfl rfl⟩
theorem n_Jx4a65c : Cond.instantiable RJx4a65c 3 ∈ TBL ∧ Cond.initialized RJx4a65c ∈ TBL := ⟨tb3 (i := 18) rfl rfl, tb1 (i := 17) rfl rfl⟩
theorem q_L_33 : Cond.constant RL 33 (-1640531535) ∈ TBL := tb3 (i := 117) rfl rfl
theorem q_L_34 : Cond.constant RL 34 (-2048144789) ∈ TBL := tb3 (i := 118) rfl rfl
theorem q_L_52 : Cond.constant RL 52 (668265263) ∈ TBL := tb3 (i := 119) rfl rfl
theorem q_L_53 : Cond.constant RL 53 (739982445) ∈ TBL := tb3 (i := 120) rfl rfl
theorem q_L_54 : Cond.constant RL 54 (2147483647) ∈ TBL := tb3 (i := 121) rfl rfl
theorem q_J5_38 : Cond.constant RJ5 38 (2147483631) ∈ TBL := tb3 (i := 133) rfl rfl
theorem q_J5_39 : Cond.constant RJ5 39 (2147483647) ∈ TBL := tb3 (i := 134) rfl rfl
theorem q_J2_20 : Cond.constant RJ2 20 (1073741823) ∈ TBL := tb3 (i := 142) rfl rfl
theorem q_J8_200 : Cond.constant RJ8 200 (2147483639) ∈ TBL := tb3 (i := 172) rfl rfl
theorem a_int : Cond.arrayClass .int ∈ TBL := tb1 (i := 106) rfl rfl
theorem a_byte : Cond.arrayClass .byte ∈ TBL := tb3 (i := 16) rfl rfl
theorem a_boolean : Cond.arrayClass .boolean ∈ TBL := tb2 (i := 7) rfl rfl
theorem o_init : Cond.instanceMethod Lib.objectInit ∈ TBL ∧ Cond.code Lib.objectInit ⟨#[0xb1]⟩ 1 none ∈ TBL := ⟨tb1 (i := 40) rfl rfl, tb1 (i := 41) rfl rfl⟩
theorem z_min : Cond.static Lib.Math.min.name ∈ TBL ∧ Cond.initialized "java/lang/Math" ∈ TBL ∧ Cond.code Lib.Math.min.name Lib.Math.min.code 2 (some .int) ∈ TBL := ⟨tb2 (i := 159) rfl rfl, tb1 (i := 14) rfl rfl, tb2 (i := 160) rfl rfl⟩
theorem z_max : Cond.static Lib.Math.max.name ∈ TBL ∧ Cond.initialized "java/lang/Math" ∈ TBL ∧ Cond.code Lib.Math.max.name Lib.Math.max.code 2 (some .int) ∈ TBL := ⟨tb3 (i := 112) rfl rfl, tb1 (i := 14) rfl rfl, tb3 (i := 113) rfl rfl⟩
theorem z_abs : Cond.static Lib.Math.abs.name ∈ TBL ∧ Cond.initialized "java/lang/Math" ∈ TBL ∧ Cond.code Lib.Math.abs.name Lib.Math.abs.code 1 (some .int) ∈ TBL := ⟨tb6 (i := 150) rfl rfl, tb1 (i := 14) rfl rfl, tb6 (i := 151) rfl rfl⟩
theorem z_copy : Cond.native arraycopyName ∈ TBL ∧ Cond.static arraycopyName ∈ TBL ∧ Cond.initialized "java/lang/System" ∈ TBL := ⟨tb3 (i := 189) rfl rfl, tb3 (i := 188) rfl rfl, tb1 (i := 22) rfl rfl⟩
theorem m_J7_150c : Cond.methodLink RJ7 150 arraycopyName ∈ TBL := tb3 (i := 187) rfl rfl
theorem m_J0_212c : Cond.methodLink RJ0 212 arraycopyName ∈ TBL := tb4 (i := 2) rfl rfl
theorem m_X3_81c : Cond.methodLink RX3 81 arraycopyName ∈ TBL := tb5 (i := 94) rfl rfl
theorem m_X1_40c : Cond.methodLink RX1 40 arraycopyName ∈ TBL := tb5 (i := 99) rfl rfl
theorem m_X8_292m : Cond.methodLink RX8 292 Lib.Math.abs.name ∈ TBL := tb6 (i := 149) rfl rfl
theorem m_X2_32m : Cond.methodLink RX2 32 Lib.Math.min.name ∈ TBL := tb6 (i := 221) rfl rfl
theorem m_X7_52m : Cond.methodLink RX7 52 Lib.Math.min.name ∈ TBL := tb2 (i := 158) rfl rfl
theorem m_L_42m : Cond.methodLink RL 42 Lib.Math.max.name ∈ TBL := tb3 (i := 111) rfl rfl
theorem m_L_274m : Cond.methodLink RL 274 Lib.Math.min.name ∈ TBL := tb7 (i := 120) rfl rfl
theorem m_Jx4a65c_79m : Cond.methodLink RJx4a65c 79 Lib.Math.max.name ∈ TBL := tb4 (i := 144) rfl rfl
theorem m_J7_304m : Cond.methodLink RJ7 304 Lib.Math.min.name ∈ TBL := tb3 (i := 186) rfl rfl
theorem m_J8_194m : Cond.methodLink RJ8 194 Lib.Math.max.name ∈ TBL := tb3 (i := 171) rfl rfl
def nST : Nat := 11
def bytST : Nat → List Int32 := fun k => match k with
  | 0 => [104, 117, 116, 32, 50, 48, 59, 32, 98, 117, 110, 107, 115, 32, 48, 32, 49, 32, 51, 32, 49, 32, 48, 59, 32, 98, 108, 97, 110, 107, 101, 116, 115, 32, 51, 32, 53, 32, 50, 59, 32, 102, 111, 114, 101, 99, 97, 115, 116, 32, 54, 32, 51, 32, 49, 32, 52, 59, 32, 104, 105, 107, 101, 114, 32, 49, 48, 32, 56, 32, 49, 50, 59, 32, 104, 105, 107, 101, 114, 32, 55, 32, 50, 32, 53, 59, 32, 104, 105, 107, 101, 114, 32, 49, 50, 32, 48, 32, 51, 48, 59, 32, 104, 105, 107, 101, 114, 32, 57, 32, 53, 32, 49, 59]
  | 1 => [104, 117, 116]
  | 2 => [98, 117, 110, 107, 115]
  | 3 => [98, 108, 97, 110, 107, 101, 116, 115]
  | 4 => [102, 111, 114, 101, 99, 97, 115, 116]
  | 5 => [104, 105, 107, 101, 114]
  | 6 => [104, 117, 116, 32]
  | 7 => [59, 98, 117, 110, 107, 115]
  | 8 => [59, 98, 108, 97, 110, 107, 101, 116, 115]
  | 9 => [59, 102, 111, 114, 101, 99, 97, 115, 116]
  | 10 => [104, 105, 107, 101, 114, 32]
  | _ => []
def strTab : List (String × Nat × String × Nat) := [("HutLedger", 70, "hut 20; bunks 0 1 3 1 0; blankets 3 5 2; forecast 6 3 1 4; hiker 10 8 12; hiker 7 2 5; hiker 12 0 30; hiker 9 5 1;", 0), ("HutLedger", 92, "the text buffer would exceed 500 bytes", 21), ("HutLedger", 106, "no such length", 17), ("HutLedger", 193, "no such bunk", 14), ("HutLedger", 199, "no such hiker", 15), ("HutLedger", 204, "no such blanket", 13), ("HutLedger", 214, "no such rank", 18), ("HutLedger", 241, "no such activity", 12), ("HutLedger", 345, "no such hiker, blanket or bunk", 16), ("HutLedger", 347, "argument out of range", 11), ("HutLedger", 349, "the hut does not allow this now", 20), ("HutLedger", 378, "nothing to undo", 19), ("HutLedger$Grammar", 55, "hut", 1), ("HutLedger$Grammar", 79, "bunks", 2), ("HutLedger$Grammar", 95, "blankets", 3), ("HutLedger$Grammar", 103, "forecast", 4), ("HutLedger$Grammar", 120, "hiker", 5), ("HutLedgerLaw", 186, "hut ", 6), ("HutLedgerLaw", 195, ";bunks", 7), ("HutLedgerLaw", 203, ";blankets", 8), ("HutLedgerLaw", 205, ";forecast", 9), ("HutLedgerLaw", 229, "hiker ", 10)]
def nestTab : List (String × Nat × MethodName) := [(RX8, 21, yX5_init), (RX8, 28, yX2_init), (RX8, 47, yX0_init), (RX8, 54, yX6_init), (RX8, 61, yX4_init), (RX0, 11, yX7_init), (RX0, 144, yX8_isWithin), (RX2, 9, yX8_newHuts), (RX3, 33, yX1_init), (RX3, 164, yX8_isWithin)]
def nestT2 : List (String × Nat × MethodName) := [(RL, 209, yX9_init)]
def fnestT : List (String × Nat × String × String × String) := [(RL, 213, "HutLedgerLaw$Hiker", "number", "I"), (RL, 216, "HutLedgerLaw$Hiker", "need", "I"), (RL, 219, "HutLedgerLaw$Hiker", "snore", "I"), (RL, 222, "HutLedgerLaw$Hiker", "coins", "I"), (RL, 250, "HutLedgerLaw$Hiker", "bunk", "I"), (RL, 253, "HutLedgerLaw$Hiker", "blanket", "I"), (RL, 277, "HutLedgerLaw$Hiker", "debt", "I"), (RL, 284, "HutLedgerLaw$Hiker", "hours", "[I")]
