/-! the text grows and is cut by both -/
theorem bv_255 (i : Nat) (hi : i < 32) : (255#32).getLsbD i = decide (i < 8) := by
  rw [BitVec.getLsbD_ofNat, show (255 : Nat) = 2 ^ 8 - 1 from rfl, Nat.testBit_two_pow_sub_one]
  simp [hi]
theorem bv_sh (b : BitVec 32) {k : Nat} (hk0 : k + 8 ≤ 32) : (b.sshiftRight k) &&& 255#32 = (b >>> k) &&& 255#32 := by
  apply BitVec.eq_of_getLsbD_eq
  intro i hi
  rw [BitVec.getLsbD_and, BitVec.getLsbD_and, bv_255 i hi, BitVec.getLsbD_sshiftRight, BitVec.getLsbD_ushiftRight]
  by_cases h8 : i < 8
  · rw [if_pos (by omega)]
    simp [show ¬ 32 ≤ i by omega]
  · simp [h8]
theorem sh24 (b : Int32) : (b >>> (24 : Int32)) &&& 255 = ushr b 24 &&& 255 := by
  apply Int32.toBitVec_inj.mp
  rw [Int32.toBitVec_and, Int32.toBitVec_and, show (255 : Int32).toBitVec = 255#32 from rfl, show (b >>> (24 : Int32)).toBitVec = b.toBitVec.sshiftRight 24 from rfl, show (ushr b 24).toBitVec = b.toBitVec >>> 24 from rfl]
  exact bv_sh _ (by decide)
theorem sh16 (b : Int32) : (b >>> (16 : Int32)) &&& 255 = ushr b 16 &&& 255 := by
  apply Int32.toBitVec_inj.mp
  rw [Int32.toBitVec_and, Int32.toBitVec_and, show (255 : Int32).toBitVec = 255#32 from rfl, show (b >>> (16 : Int32)).toBitVec = b.toBitVec.sshiftRight 16 from rfl, show (ushr b 16).toBitVec = b.toBitVec >>> 16 from rfl]
  exact bv_sh _ (by decide)
theorem sh8 (b : Int32) : (b >>> (8 : Int32)) &&& 255 = ushr b 8 &&& 255 := by
  apply Int32.toBitVec_inj.mp
  rw [Int32.toBitVec_and, Int32.toBitVec_and, show (255 : Int32).toBitVec = 255#32 from rfl, show (b >>> (8 : Int32)).toBitVec = b.toBitVec.sshiftRight 8 from rfl, show (ushr b 8).toBitVec = b.toBitVec >>> 8 from rfl]
  exact bv_sh _ (by decide)
theorem sh0 (b : Int32) : b >>> (0 : Int32) = b := by
  apply Int32.toBitVec_inj.mp
  rw [show (b >>> (0 : Int32)).toBitVec = b.toBitVec.sshiftRight 0 from rfl, BitVec.sshiftRight_zero]
/-- the four bytes of a number -/
def byt (b : Int32) (s : Nat) : Int32 := match s with
  | 0 => ushr b 24 &&& 255
  | 1 => ushr b 16 &&& 255
  | 2 => ushr b 8 &&& 255
  | _ => b &&& 255
section Text
variable {g : AH} {p m L : Nat} {T : Nat → Int32} {r : RS} {gi : Nat → Int32} {a b c : Int32}
theorem c_room {k : Nat} {x : Int32} (hx : x = I k) (hL : L ≤ 500) (hk0 : k ≤ 4) : x7_hasRoomFor (p + 1) x (putP g p (gi, tiC (I L) a b c, T)) = some (if 500 < L + k then 0 else 1, putP g p (gi, tiC (I L) a b c, T)) := by
  unfold x7_hasRoomFor
  rw [P_tI (by decide), gb_s]
  show (if (500 : Int32) < I L + x then _ else _) = _
  rw [hx, I_add]
  by_cases h : 500 < L + k
  · rw [if_pos (show (500 : Int32) < I (L + k) by rw [show (500 : Int32) = I 500 from rfl, I_lt (by decide) (by omega)]; exact h), if_pos h]
  · rw [if_neg (show ¬ (500 : Int32) < I (L + k) by rw [show (500 : Int32) = I 500 from rfl, I_lt (by decide) (by omega)]; exact h), if_neg h]
theorem c_put1 (v : Int32) (hL : L < 500) : x7_put (p + 1) v (putP g p (gi, tiC (I L) a b c, T)) = some ((), putP g p (gi, tiC (I (L + 1)) a b c, upd T L (v &&& 255))) := by
  unfold x7_put
  rw [P_isO7, gb_s, c_room (k := 1) (x := 1) rfl (by omega) (by decide), cb_s, if_neg (show ¬ 500 < L + 1 by omega), if_neg (show ¬ (1 : Int32) = 0 by decide), P_getR7, gb_s, P_tI (by decide), gb_s]
  show gb (astI 0 _ (p + 2) (I L) (v &&& 255)) _ = _
  rw [P_ast rfl hL, gb_s, P_tI (by decide), gb_s]
  show gb (putV 7 _ (p + 1) 1 (.int (I L + 1))) _ = _
  rw [P_putT (by decide), gb_s, I_succ]
  show some ((), putP g p (gi, upd (tiC (I L) a b c) 1 (I (L + 1)), upd T L (v &&& 255))) = _
  rw [ti1]
/-- four more bytes -/
def T4 (T : Nat → Int32) (L : Nat) (x : Int32) : Nat → Int32 := upd (upd (upd (upd T L (byt x 0)) (L + 1) (byt x 1)) (L + 2) (byt x 2)) (L + 3) (byt x 3)
end Text



