/-! the text grows and is cut by both -/
theorem bv_255 (i : Nat) (hi : i < 32) : (255#32).getLsbD i = decide (i < 8) := by
  rw [BitVec.getLsbD_ofNat, show (255 : Nat) = 2 ^ 8 - 1 from rfl, Nat.testBit_two_pow_sub_one]
  simp [hi]
theorem bv_sh (b : BitVec 32) {k : Nat} (hk0 : k + 8 ≤ 32) : (b.sshiftRight k) &&& 255#32 = (b >>> k) &&& 255#32 := by
  apply BitVec.eq_of_getLsbD_eq
  intro i hi
  rw [BitVec.getLsbD_and, BitVec.getLsbD_and, bv_255 i hi, BitVec.getLsbD_sshiftRight, BitVec.getLsbD_ushiftRight]
  by_cases h8 : i < 8
  · rw [if_pos (by omega)]
    simp [show ¬ 32 ≤ i by omega]
  · simp [h8]
theorem sh24 (b : Int32) : (b >>> (24 : Int32)) &&& 255 = ushr b 24 &&& 255 := by
  apply Int32.toBitVec_inj.mp
  rw [Int32.toBitVec_and, Int32.toBitVec_and, show (255 : Int32).toBitVec = 255#32 from rfl, show (b >>> (24 : Int32)).toBitVec = b.toBitVec.sshiftRight 24 from rfl, show (ushr b 24).toBitVec = b.toBitVec >>> 24 from rfl]
  exact bv_sh _ (by decide)
theorem sh16 (b : Int32) : (b >>> (16 : Int32)) &&& 255 = ushr b 16 &&& 255 := by
  apply Int32.toBitVec_inj.mp
  rw [Int32.toBitVec_and, Int32.toBitVec_and, show (255 : Int32).toBitVec = 255#32 from rfl, show (b >>> (16 : Int32)).toBitVec = b.toBitVec.sshiftRight 16 from rfl, show (ushr b 16).toBitVec = b.toBitVec >>> 16 from rfl]
  exact bv_sh _ (by decide)
theorem sh8 (b : Int32) : (b >>> (8 : Int32)) &&& 255 = ushr b 8 &&& 255 := by
  apply Int32.toBitVec_inj.mp
  rw [Int32.toBitVec_and, Int32.toBitVec_and, show (255 : Int32).toBitVec = 255#32 from rfl, show (b >>> (8 : Int32)).toBitVec = b.toBitVec.sshiftRight 8 from rfl, show (ushr b 8).toBitVec = b.toBitVec >>> 8 from rfl]
  exact bv_sh _ (by decide)
theorem sh0 (b : Int32) : b >>> (0 : Int32) = b := by
  apply Int32.toBitVec_inj.mp
  rw [show (b >>> (0 : Int32)).toBitVec = b.toBitVec.sshiftRight 0 from rfl, BitVec.sshiftRight_zero]
/-- the four bytes of a number -/
def byt (b : Int32) (s : Nat) : Int32 := match s with
  | 0 => ushr b 24 &&& 255
  | 1 => ushr b 16 &&& 255
  | 2 => ushr b 8 &&& 255
  | _ => b &&& 255
/-- the text of both, and the error -/
def Tr (s : PS) (r : RS) : Prop := ∃ L ec ep cnt a b c T, s = (giC ec ep cnt, tiC (I L) a b c, T) ∧ L ≤ 500 ∧ r.1 9 = I L ∧ Tx r T L ∧ r.1 14 = ec ∧ r.1 15 = ep
section Text
variable {g : AH} {p m L : Nat} {T : Nat → Int32} {r : RS} {gi : Nat → Int32} {a b c : Int32}
theorem c_room {k : Nat} {x : Int32} (hx : x = I k) (hL : L ≤ 500) (hk0 : k ≤ 4) : x7_hasRoomFor (p + 1) x (putP g p (gi, tiC (I L) a b c, T)) = some (if 500 < L + k then 0 else 1, putP g p (gi, tiC (I L) a b c, T)) := by
  unfold x7_hasRoomFor
  rw [P_tI (by decide), gb_s]
  show (if (500 : Int32) < I L + x then _ else _) = _
  rw [hx, I_add]
  by_cases h : 500 < L + k
  · rw [if_pos (show (500 : Int32) < I (L + k) by rw [show (500 : Int32) = I 500 from rfl, I_lt (by decide) (by omega)]; exact h), if_pos h]
  · rw [if_neg (show ¬ (500 : Int32) < I (L + k) by rw [show (500 : Int32) = I 500 from rfl, I_lt (by decide) (by omega)]; exact h), if_neg h]
theorem c_put1 (v : Int32) (hL : L < 500) : x7_put (p + 1) v (putP g p (gi, tiC (I L) a b c, T)) = some ((), putP g p (gi, tiC (I (L + 1)) a b c, upd T L (v &&& 255))) := by
  unfold x7_put
  rw [P_isO7, gb_s, c_room (k := 1) (x := 1) rfl (by omega) (by decide), cb_s, if_neg (show ¬ 500 < L + 1 by omega), if_neg (show ¬ (1 : Int32) = 0 by decide), P_getR7, gb_s, P_tI (by decide), gb_s]
  show gb (astI 0 _ (p + 2) (I L) (v &&& 255)) _ = _
  rw [P_ast rfl hL, gb_s, P_tI (by decide), gb_s]
  show gb (putV 7 _ (p + 1) 1 (.int (I L + 1))) _ = _
  rw [P_putT (by decide), gb_s, I_succ]
  show some ((), putP g p (gi, upd (tiC (I L) a b c) 1 (I (L + 1)), upd T L (v &&& 255))) = _
  rw [ti1]
/-- four more bytes -/
def T4 (T : Nat → Int32) (L : Nat) (x : Int32) : Nat → Int32 := upd (upd (upd (upd T L (byt x 0)) (L + 1) (byt x 1)) (L + 2) (byt x 2)) (L + 3) (byt x 3)
theorem s_append (h9 : r.1 9 = I L) (hT : Tx r T L) (hL : L ≤ 500) (x : Int32) : if L + 4 ≤ 500 then ∃ r1, x9_appendText m x (putR g m r) = some (I (L + 4), putR g m r1) ∧ r1.1 9 = I (L + 4) ∧ Tx r1 (T4 T L x) (L + 4) ∧ r1.1 6 = 0 ∧ (∀ k, k ≠ 6 → k ≠ 9 → r1.1 k = r.1 k) ∧ ∀ d, d ≠ 7 → r1.2 d = r.2 d else x9_appendText m x (putR g m r) = some (0, putR g m (RS_setF r 6 1)) := by
  have e9 : (RS_setF r 6 0).1 9 = I L := (RSF_ne (by decide)).trans h9
  have e4 : I L + 4 = I (L + 4) := by rw [show (4 : Int32) = I 4 from rfl, I_add]
  unfold x9_appendText
  rw [R_putI rfl, gb_s, R_getI rfl, gb_s, e9, e4]
  by_cases h : L + 4 ≤ 500
  · rw [if_pos h, if_pos (show I (L + 4) ≤ 500 by rw [show (500 : Int32) = I 500 from rfl, I_le (by omega) (by decide)]; exact h)]
    have e24 : ∀ i, i < 4 → ((((x >>> ((24 - (8 * I i)) &&& 31)).toInt8.toInt32).toInt8.toInt32) &&& 255 = byt x i) := fun i hi => by
      rw [byte_and]
      match i, hi with
      | 0, _ => exact sh24 x
      | 1, _ => exact sh16 x
      | 2, _ => exact sh8 x
      | 3, _ => exact congrArg (· &&& 255) (sh0 x)
    obtain ⟨t, g1, e1, r1, rfl, e2, e3, e5, e6⟩ := loop_inv (body := x9_appendText_l25 m x) (n := 4) (fuel := 1000) (s := (0 : Int32)) (g := putR g m (RS_setF r 6 0)) (fun i y g1 => y = I i ∧ ∃ r1, g1 = putR g m r1 ∧ r1.1 = (RS_setF r 6 0).1 ∧ (∀ d, d ≠ 7 → r1.2 d = r.2 d) ∧ (∀ j, j < L → r1.2 7 j = r.2 7 j) ∧ ∀ j, j < i → r1.2 7 (L + j) &&& 255 = byt x j) (fun _ g1 => ∃ r1, g1 = putR g m r1 ∧ r1.1 = (RS_setF r 6 0).1 ∧ (∀ d, d ≠ 7 → r1.2 d = r.2 d) ∧ (∀ j, j < L → r1.2 7 j = r.2 7 j) ∧ ∀ j, j < 4 → r1.2 7 (L + j) &&& 255 = byt x j) (fun i y g1 hi h0 => by
      obtain ⟨rfl, r1, rfl, h1, h2, h3, h4⟩ := h0
      unfold x9_appendText_l25
      rw [if_neg (show ¬ (4 : Int32) ≤ I i by rw [show (4 : Int32) = I 4 from rfl, I_le (by decide) (by omega)]; omega), R_getR (d := 7) rfl, gb_s, R_getI rfl, gb_s, h1, e9, I_add, R_astN (d := 7) (t := 1) (by decide) (by decide) rfl (by show _ < 500; omega), gb_s]
      refine ⟨_, _, rfl, I_succ i, _, rfl, h1, fun d hd => (RS_ne hd).trans (h2 d hd), fun j hj => ?_, fun j hj => ?_⟩
      · rw [RS_at, upd_ne (by omega)]
        exact h3 j hj
      · rw [RS_at]
        by_cases hji : j = i
        · rw [hji, upd_at]
          exact e24 i hi
        · rw [upd_ne (by omega)]
          exact h4 j (by omega)) (fun y g1 h0 => by
      obtain ⟨rfl, r1, rfl, h1, h2, h3, h4⟩ := h0
      unfold x9_appendText_l25
      rw [if_pos (by decide)]
      exact ⟨_, _, rfl, r1, rfl, h1, h2, h3, h4⟩) (by decide) ⟨rfl, _, rfl, rfl, fun _ _ => rfl, fun _ _ => rfl, fun j hj => absurd hj (Nat.not_lt_zero _)⟩
    rw [e1, cb_s, R_getI rfl, gb_s, e2, e9, e4, R_putI rfl, gb_s, R_getI rfl, gb_s, RSF_at]
    refine ⟨_, rfl, RSF_at _ _ _, fun i hi => ?_, ?_, fun k k6 k9 => ?_, e3⟩
    · show r1.2 7 i &&& 255 = T4 T L x i
      unfold T4
      by_cases q3 : i = L + 3
      · rw [q3, upd_at]; exact e6 3 (by decide)
      rw [upd_ne q3]
      by_cases q2 : i = L + 2
      · rw [q2, upd_at]; exact e6 2 (by decide)
      rw [upd_ne q2]
      by_cases q1 : i = L + 1
      · rw [q1, upd_at]; exact e6 1 (by decide)
      rw [upd_ne q1]
      by_cases q0 : i = L
      · rw [q0, upd_at]; exact e6 0 (by decide)
      rw [upd_ne q0, e5 i (by omega)]
      exact hT i (by omega)
    · exact (RSF_ne (by decide)).trans ((congrFun e2 6).trans (RSF_at _ _ _))
    · exact (RSF_ne k9).trans ((congrFun e2 k).trans (RSF_ne k6))
  · rw [if_neg h, if_neg (show ¬ I (L + 4) ≤ 500 by rw [show (500 : Int32) = I 500 from rfl, I_le (by omega) (by decide)]; exact h), R_isO, gb_s]
    unfold x9_fail
    rw [R_putI rfl, gb_s, cb_s, RSF_two]
end Text
