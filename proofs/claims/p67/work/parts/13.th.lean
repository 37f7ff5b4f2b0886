def xW (w : Cond) : Bool := decide (w ∈ extraW)
theorem th_of {L : List Cond} (h1 : ∀ w ∈ L, w ∈ lw_tbl) (h2 : L.all (fun w => goodWord w || xW w) = true) : ∀ w ∈ L, w ∈ TBL ∨ w ∈ extraW := fun w h => by
  have h3 := List.all_eq_true.mp h2 w h
  rw [Bool.or_eq_true] at h3
  rcases h3 with h3 | h3
  · exact Or.inl (List.mem_filter.mpr ⟨List.mem_append_right _ (h1 w h), h3⟩)
  · exact Or.inr (of_decide_eq_true h3)
theorem th_X8_94 : TH RX8 94 "java/lang/IllegalStateException" := ⟨by decide +kernel, th_of (by decide +kernel) (by decide +kernel), tb1 (i := 30) rfl rfl⟩
theorem th_X8_108 : TH RX8 108 "java/lang/IllegalArgumentException" := ⟨by decide +kernel, th_of (by decide +kernel) (by decide +kernel), tb1 (i := 29) rfl rfl⟩
theorem th_X8_195 : TH RX8 195 "java/lang/IndexOutOfBoundsException" := ⟨by decide +kernel, th_of (by decide +kernel) (by decide +kernel), tb1 (i := 32) rfl rfl⟩
theorem th_X8_216 : THN RX8 216 "java/util/NoSuchElementException" 13 prog_42_method_4_code := ⟨by decide +kernel, th_of (by decide +kernel) (by decide +kernel), tb1 (i := 33) rfl rfl, by decide +kernel, by decide +kernel, by decide +kernel, by decide +kernel⟩
theorem k_X8_90 : Cond.classLink RX8 90 "java/lang/IllegalStateException" ∈ TBL := tb5 (i := 69) rfl rfl
theorem k_X8_104 : Cond.classLink RX8 104 "java/lang/IllegalArgumentException" ∈ TBL := tb5 (i := 55) rfl rfl
theorem k_X8_191 : Cond.classLink RX8 191 "java/lang/IndexOutOfBoundsException" ∈ TBL := tb5 (i := 149) rfl rfl
theorem k_X8_212 : Cond.classLink RX8 212 "java/util/NoSuchElementException" ∈ TBL := tb6 (i := 62) rfl rfl
theorem k_L_59 : Cond.classLink RL 59 "java/lang/IllegalStateException" ∈ TBL := tb5 (i := 63) rfl rfl
theorem k_L_64 : Cond.classLink RL 64 "java/lang/IllegalArgumentException" ∈ TBL := tb5 (i := 49) rfl rfl
theorem k_L_69 : Cond.classLink RL 69 "java/lang/IndexOutOfBoundsException" ∈ TBL := tb5 (i := 136) rfl rfl
theorem k_L_143 : Cond.classLink RL 143 "java/util/NoSuchElementException" ∈ TBL := tb6 (i := 45) rfl rfl
