/-! four bytes as a number, and back -/
theorem hi_0 {c : Int32} (h : c &&& 255 = c) : ∀ j, 8 ≤ j → c.toBitVec.getLsbD j = false := by
  intro j hj
  have e : c.toBitVec &&& 255#32 = c.toBitVec := congrArg Int32.toBitVec h
  rw [← e, BitVec.getLsbD_and]
  by_cases h32 : j < 32
  · rw [bv_255 j h32, decide_eq_false (by omega), Bool.and_false]
  · rw [BitVec.getLsbD_of_ge _ _ (by omega), Bool.false_and]
def pk4 (c0 c1 c2 c3 : Int32) : Int32 := ((((((0 <<< ((8 : Int32) &&& 31)) ||| c0) <<< ((8 : Int32) &&& 31)) ||| c1) <<< ((8 : Int32) &&& 31)) ||| c2) <<< ((8 : Int32) &&& 31) ||| c3
theorem pk4_bv (c0 c1 c2 c3 : Int32) : (pk4 c0 c1 c2 c3).toBitVec = (((c0.toBitVec <<< 8 ||| c1.toBitVec) <<< 8 ||| c2.toBitVec) <<< 8 ||| c3.toBitVec) := by
  have e : ∀ x : Int32, (x <<< ((8 : Int32) &&& 31)).toBitVec = x.toBitVec <<< 8 := fun x => rfl
  have e0 : ((0 : Int32) <<< ((8 : Int32) &&& 31)) ||| c0 = c0 := by
    apply Int32.toBitVec_inj.mp
    show (0#32 <<< 8 ||| c0.toBitVec) = c0.toBitVec
    rw [show (0#32 <<< 8) = 0#32 from by decide, BitVec.zero_or]
  unfold pk4
  rw [e0]
  rfl
theorem byt_pk {c0 c1 c2 c3 : Int32} (h0 : c0 &&& 255 = c0) (h1 : c1 &&& 255 = c1) (h2 : c2 &&& 255 = c2) (h3 : c3 &&& 255 = c3) : byt (pk4 c0 c1 c2 c3) 0 = c0 ∧ byt (pk4 c0 c1 c2 c3) 1 = c1 ∧ byt (pk4 c0 c1 c2 c3) 2 = c2 ∧ byt (pk4 c0 c1 c2 c3) 3 = c3 := by
  have z0 := hi_0 h0
  have z1 := hi_0 h1
  have z2 := hi_0 h2
  have z3 := hi_0 h3
  have key : ∀ i, i < 8 → (pk4 c0 c1 c2 c3).toBitVec.getLsbD (24 + i) = c0.toBitVec.getLsbD i ∧ (pk4 c0 c1 c2 c3).toBitVec.getLsbD (16 + i) = c1.toBitVec.getLsbD i ∧ (pk4 c0 c1 c2 c3).toBitVec.getLsbD (8 + i) = c2.toBitVec.getLsbD i ∧ (pk4 c0 c1 c2 c3).toBitVec.getLsbD i = c3.toBitVec.getLsbD i := by
    intro i hi
    rw [pk4_bv]
    refine ⟨?_, ?_, ?_, ?_⟩
    · rw [BitVec.getLsbD_or, BitVec.getLsbD_shiftLeft, BitVec.getLsbD_or, BitVec.getLsbD_shiftLeft, BitVec.getLsbD_or, BitVec.getLsbD_shiftLeft, z3 _ (by omega), z2 _ (by omega), z1 _ (by omega), decide_eq_true (show 24 + i < 32 by omega), decide_eq_false (show ¬ 24 + i < 8 by omega), decide_eq_true (show 24 + i - 8 < 32 by omega), decide_eq_false (show ¬ 24 + i - 8 < 8 by omega), decide_eq_true (show 24 + i - 8 - 8 < 32 by omega), decide_eq_false (show ¬ 24 + i - 8 - 8 < 8 by omega), show 24 + i - 8 - 8 - 8 = i by omega]
      simp
    · rw [BitVec.getLsbD_or, BitVec.getLsbD_shiftLeft, BitVec.getLsbD_or, BitVec.getLsbD_shiftLeft, BitVec.getLsbD_or, BitVec.getLsbD_shiftLeft, z3 _ (by omega), z2 _ (by omega), decide_eq_true (show 16 + i < 32 by omega), decide_eq_false (show ¬ 16 + i < 8 by omega), decide_eq_true (show 16 + i - 8 < 32 by omega), decide_eq_false (show ¬ 16 + i - 8 < 8 by omega), decide_eq_true (show 16 + i - 8 - 8 < 32 by omega), decide_eq_true (show 16 + i - 8 - 8 < 8 by omega), show 16 + i - 8 - 8 = i by omega]
      simp
    · rw [BitVec.getLsbD_or, BitVec.getLsbD_shiftLeft, BitVec.getLsbD_or, BitVec.getLsbD_shiftLeft, z3 _ (by omega), decide_eq_true (show 8 + i < 32 by omega), decide_eq_false (show ¬ 8 + i < 8 by omega), decide_eq_true (show 8 + i - 8 < 32 by omega), decide_eq_true (show 8 + i - 8 < 8 by omega), show 8 + i - 8 = i by omega]
      simp
    · rw [BitVec.getLsbD_or, BitVec.getLsbD_shiftLeft, decide_eq_true (show i < 8 by omega)]
      simp
  have fin : ∀ (k : Nat) (c : Int32), (∀ j, 8 ≤ j → c.toBitVec.getLsbD j = false) → (∀ i, i < 8 → (pk4 c0 c1 c2 c3).toBitVec.getLsbD (k + i) = c.toBitVec.getLsbD i) → ((pk4 c0 c1 c2 c3).toBitVec >>> k) &&& 255#32 = c.toBitVec := by
    intro k c hz hk0
    apply BitVec.eq_of_getLsbD_eq
    intro i hi
    rw [BitVec.getLsbD_and, BitVec.getLsbD_ushiftRight, bv_255 i hi]
    by_cases h8 : i < 8
    · rw [decide_eq_true h8, Bool.and_true]
      exact hk0 i h8
    · rw [decide_eq_false h8, Bool.and_false, hz i (by omega)]
  refine ⟨Int32.toBitVec_inj.mp (fin 24 c0 z0 (fun i hi => (key i hi).1)), Int32.toBitVec_inj.mp (fin 16 c1 z1 (fun i hi => (key i hi).2.1)), Int32.toBitVec_inj.mp (fin 8 c2 z2 (fun i hi => (key i hi).2.2.1)), Int32.toBitVec_inj.mp ?_⟩
  have := fin 0 c3 z3 (fun i hi => by rw [Nat.zero_add]; exact (key i hi).2.2.2)
  rw [BitVec.ushiftRight_zero] at this
  exact this
