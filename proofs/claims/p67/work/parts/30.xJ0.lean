/-! functions and contracts, by program: clear, coder, length, newLength, newCapacity, copyOf, ensureCapacityInternal, inflateIfNeededFor, getBytes, putStringAt, append, append, append, <init>, <init>, stringSize, isLatin1, getChars, append, append, canEncode, append, append, size, grow, grow, add, add, getValue, length, length, checkLength, copyOfRangeByte, copyOfRange, <init>, <init>, toString, isLatin1, charAt, charAt, elementData, get, <init>, <init>, <init>, <init> -/
def jx4a65c_clear_da8c8_l27 (a1 : Nat) (a2 : Int32) (s0 : Int32) (g : AH) : Option (((Int32) ⊕ (Unit)) × AH) :=
  if a2 ≤ s0 then
  some (.inr (), g)
  else
  gb (astN 6 g a1 s0) fun g2 => some (.inl (s0 + 1), g2)
def jx4a65c_clear_da8c8 (p : Nat) (g : AH) : Option (Unit × AH) :=
  gb (getI 12 g p 0) fun x1 => gb (putV 12 g p 0 (.int (x1 + 1))) fun g3 => gb (getR 12 g3 p 1) fun x5 => gb (getI 12 g3 p 2) fun x7 => gb (putV 12 g3 p 2 (.int 0)) fun g9 => cb (loopX (jx4a65c_clear_da8c8_l27 x5 x7) 1000 0 g9) fun t11 g12 =>
  some ((), g12)
def j0_coder_7d493 (p : Nat) (g : AH) : Option (Int32 × AH) :=
  if (1:Int32) = 0 then
  some (1, g)
  else
  gb (getI 13 g p 1) fun x2 => if narI .byte x2 = x2 then some (x2, g) else none
def j0_length_8abf5 (p : Nat) (g : AH) : Option (Int32 × AH) :=
  gb (getR 13 g p 0) fun x1 => gb (alen 1 g x1) fun x3 => gb (isO 13 g p) fun _ => cb (j0_coder_7d493 p g) fun r5 g6 => some ((x3 >>> (r5 &&& 31)), g6)
def j8_newLength_cabcc (b0 : Int32) (b1 : Int32) (b2 : Int32) (g : AH) : Option (Int32 × AH) :=
  if (b0 + (if b1 < b2 then b2 else b1)) ≤ 0 then
  none
  else
  if 2147483639 < (b0 + (if b1 < b2 then b2 else b1)) then
  none
  else
  some ((b0 + (if b1 < b2 then b2 else b1)), g)
def j5_newCapacity_0f7a4 (p : Nat) (b0 : Int32) (g : AH) : Option (Int32 × AH) :=
  gb (getR 11 g p 0) fun x1 => gb (alen 1 g x1) fun x3 => gb (getI 11 g p 1) fun x5 => gb (getI 11 g p 1) fun x7 => cb (j8_newLength_cabcc x3 ((b0 <<< (x5 &&& 31)) - x3) (x3 + (2 <<< (x7 &&& 31))) g) fun r9 g10 => if r9 = 2147483647 then
  none
  else
  gb (getI 11 g10 p 1) fun x13 => some ((r9 >>> (x13 &&& 31)), g10)
def j7_copyOf_9075b (b0 : Nat) (b1 : Int32) (g : AH) : Option (Nat × AH) :=
  gb (alen 1 g b0) fun x1 => if b1 = x1 then
  none
  else
  if 400 < (b1).toNatClampNeg then none else cb (newA 1 (.inl (fun _ => 0)) g b1) fun x4 g5 => gb (alen 1 g5 b0) fun x8 => gb (acpyB g5 b0 0 x4 0 (if b1 < x8 then b1 else x8)) fun g10 => some (x4, g10)
def j5_ensureCapacityInternal_d00df (p : Nat) (b0 : Int32) (g : AH) : Option (Unit × AH) :=
  gb (getR 11 g p 0) fun x1 => gb (alen 1 g x1) fun x3 => gb (getI 11 g p 1) fun x5 => if (b0 - (x3 >>> (x5 &&& 31))) ≤ 0 then
  some ((), g)
  else
  gb (getR 11 g p 0) fun x8 => gb (isO 11 g p) fun _ => cb (j5_newCapacity_0f7a4 p b0 g) fun r10 g11 => gb (getI 11 g11 p 1) fun x15 => cb (j7_copyOf_9075b x8 (r10 <<< (x15 &&& 31)) g11) fun r17 g18 => gb (putV 11 g18 p 0 (.ref r17)) fun g20 => some ((), g20)
def j5_inflateIfNeededFor_a7421 (p : Nat) (b0 : Nat) (g : AH) : Option (Unit × AH) :=
  if (1:Int32) = 0 then
  some ((), g)
  else
  gb (getI 11 g p 1) fun x2 => if b0 < nST then if x2 = 0 then
  some ((), g)
  else
  none else none
def j0_getBytes_840e7 (p : Nat) (b0 : Nat) (b1 : Int32) (b2 : Int32) (g : AH) : Option (Unit × AH) :=
  if p < nST then if 0 = b2 then
  gb (acpyC g p 0 b0 (b1 <<< (b2 &&& 31)) (Int32.ofNat (bytST p).length)) fun g4 => some ((), g4)
  else
  none else none
def j5_putStringAt_47b60 (p : Nat) (b0 : Int32) (b1 : Nat) (g : AH) : Option (Unit × AH) :=
  gb (isO 11 g p) fun _ => cb (j5_inflateIfNeededFor_a7421 p b1 g) fun r1 g2 => gb (getR 11 g2 p 0) fun x6 => gb (getI 11 g2 p 1) fun x8 => if b1 < nST then cb (j0_getBytes_840e7 b1 x6 b0 x8 g2) fun r10 g11 => some ((), g11) else none
def j5_append_cf1ce (p : Nat) (b0 : Nat) (g : AH) : Option (Nat × AH) :=
  gb (strLen b0) fun x1 => gb (getI 11 g p 3) fun x3 => gb (isO 11 g p) fun _ => cb (j5_ensureCapacityInternal_d00df p (x3 + x1) g) fun r5 g6 => gb (getI 11 g6 p 3) fun x10 => gb (isO 11 g6 p) fun _ => cb (j5_putStringAt_47b60 p x10 b0 g6) fun r12 g13 => gb (getI 11 g13 p 3) fun x17 => gb (putV 11 g13 p 3 (.int (x17 + x1))) fun g19 => some (p, g19)
def j4_append_15ec4 (p : Nat) (b0 : Nat) (g : AH) : Option (Nat × AH) :=
  gb (isO 11 g p) fun _ => cb (j5_append_cf1ce p b0 g) fun r1 g2 => some (p, g2)
def j4_append_cf1ce (p : Nat) (b0 : Nat) (g : AH) : Option (Nat × AH) :=
  gb (isO 11 g p) fun _ => cb (j4_append_15ec4 p b0 g) fun r1 g2 => some (r1, g2)
def j5_init_a7421 (p : Nat) (b0 : Nat) (g : AH) : Option (Unit × AH) :=
  gb (strLen b0) fun x1 => if 2147483631 ≤ x1 then
  none
  else
  if b0 < nST then gb (putV 11 g p 1 (.int 0)) fun g5 => if (0:Int32) = 0 then
  if 400 < ((x1 + 16)).toNatClampNeg then none else cb (newA 1 (.inl (fun _ => 0)) g5 (x1 + 16)) fun x8 g9 => gb (putV 11 g9 p 0 (.ref x8)) fun g12 => gb (isO 11 g12 p) fun _ => cb (j4_append_cf1ce p b0 g12) fun r14 g15 => some ((), g15)
  else
  none else none
def j4_init_a7421 (p : Nat) (b0 : Nat) (g : AH) : Option (Unit × AH) :=
  cb (j5_init_a7421 p b0 g) fun r1 g2 => some ((), g2)
def j6_stringSize_0f7a4_l16 (a0 : Int32) (a1 : Int32) (s0 : Int32 × Int32) (g : AH) : Option (((Int32 × Int32) ⊕ ((Unit) ⊕ Int32)) × AH) :=
  if 10 ≤ s0.2 then
  some (.inr (.inl ()), g)
  else
  if a0 ≤ s0.1 then
  some (.inl ((10 * s0.1), (s0.2 + 1)), g)
  else
  some (.inr (.inr (s0.2 + a1)), g)
def j6_stringSize_0f7a4_j11 (a0 : Int32) (a1 : Int32) (g : AH) : Option (Int32 × AH) :=
  cb (loopX (j6_stringSize_0f7a4_l16 a0 a1) 1000 ((-10), 1) g) fun t1 g2 => Sum.elim (fun t4 =>
  some ((10 + a1), g2)) (fun t5 => some (t5, g2)) t1
def j6_stringSize_0f7a4 (b0 : Int32) (g : AH) : Option (Int32 × AH) :=
  if b0 < 0 then
  j6_stringSize_0f7a4_j11 b0 1 g
  else
  j6_stringSize_0f7a4_j11 (-b0) 0 g
def j5_isLatin1_aae02 (p : Nat) (g : AH) : Option (Int32 × AH) :=
  if (1:Int32) = 0 then
  some (0, g)
  else
  gb (getI 11 g p 1) fun x2 => if x2 = 0 then
  some (1, g)
  else
  some (0, g)
def j6_getChars_ba4f3_l22 (a2 : Nat) (a6 : Int32) (s0 : Int32 × Int32) (g : AH) : Option (((Int32 × Int32) ⊕ (Int32 × Int32)) × AH) :=
  if (-100) < s0.1 then
  some (.inr (s0.1, s0.2), g)
  else
  gb (digB 0 (((s0.1 / 100) * 100) - s0.1)) fun x3 => gb (astI 1 g a2 (s0.2 + (-1)) (x3.toInt8.toInt32)) fun g5 => gb (digB 1 (((s0.1 / 100) * 100) - s0.1)) fun x7 => gb (astI 1 g5 a2 ((s0.2 + (-1)) + (-1)) (x7.toInt8.toInt32)) fun g9 => some (.inl ((s0.1 / 100), ((s0.2 + (-1)) + (-1))), g9)
def j6_getChars_ba4f3_j104 (a2 : Nat) (a5 : Int32) (a6 : Int32) (g : AH) : Option (Int32 × AH) :=
  if a6 = 0 then
  some (a5, g)
  else
  none
def j6_getChars_ba4f3 (b0 : Int32) (b1 : Int32) (b2 : Nat) (g : AH) : Option (Int32 × AH) :=
  if 0 ≤ b0 then
  if (0:Int32) = 0 then
  cb (loopX (j6_getChars_ba4f3_l22 b2 0) 1000 ((-b0), b1) g) fun t15 g16 =>
  gb (digB 0 (-t15.1)) fun x18 => gb (astI 1 g16 b2 (t15.2 + (-1)) (x18.toInt8.toInt32)) fun g20 => if (-9) ≤ t15.1 then
  j6_getChars_ba4f3_j104 b2 (t15.2 + (-1)) 0 g20
  else
  gb (digB 1 (-t15.1)) fun x23 => gb (astI 1 g20 b2 ((t15.2 + (-1)) + (-1)) (x23.toInt8.toInt32)) fun g25 => j6_getChars_ba4f3_j104 b2 ((t15.2 + (-1)) + (-1)) 0 g25
  else
  cb (loopX (j6_getChars_ba4f3_l22 b2 0) 1000 (b0, b1) g) fun t3 g4 =>
  gb (digB 0 (-t3.1)) fun x6 => gb (astI 1 g4 b2 (t3.2 + (-1)) (x6.toInt8.toInt32)) fun g8 => if (-9) ≤ t3.1 then
  j6_getChars_ba4f3_j104 b2 (t3.2 + (-1)) 0 g8
  else
  gb (digB 1 (-t3.1)) fun x11 => gb (astI 1 g8 b2 ((t3.2 + (-1)) + (-1)) (x11.toInt8.toInt32)) fun g13 => j6_getChars_ba4f3_j104 b2 ((t3.2 + (-1)) + (-1)) 0 g13
  else
  none
def j5_append_c97b9 (p : Nat) (b0 : Int32) (g : AH) : Option (Nat × AH) :=
  gb (getI 11 g p 3) fun x1 => cb (j6_stringSize_0f7a4 b0 g) fun r3 g4 => gb (isO 11 g4 p) fun _ => cb (j5_ensureCapacityInternal_d00df p (x1 + r3) g4) fun r6 g7 => gb (isO 11 g7 p) fun _ => cb (j5_isLatin1_aae02 p g7) fun r11 g12 => if r11 = 0 then
  none
  else
  gb (getR 11 g12 p 0) fun x17 => cb (j6_getChars_ba4f3 b0 (x1 + r3) x17 g12) fun r19 g20 => gb (putV 11 g20 p 3 (.int (x1 + r3))) fun g22 => some (p, g22)
def j4_append_bf812 (p : Nat) (b0 : Int32) (g : AH) : Option (Nat × AH) :=
  gb (isO 11 g p) fun _ => cb (j5_append_c97b9 p b0 g) fun r1 g2 => some (p, g2)
def j1_canEncode_fc78d (b0 : Int32) (g : AH) : Option (Int32 × AH) :=
  if 255 < b0 then
  some (0, g)
  else
  some (1, g)
def j5_append_3fe6f (p : Nat) (b0 : Int32) (g : AH) : Option (Nat × AH) :=
  gb (getI 11 g p 3) fun x1 => gb (isO 11 g p) fun _ => cb (j5_ensureCapacityInternal_d00df p (x1 + 1) g) fun r3 g4 => gb (isO 11 g4 p) fun _ => cb (j5_isLatin1_aae02 p g4) fun r8 g9 => if r8 = 0 then
  none
  else
  cb (j1_canEncode_fc78d b0 g9) fun r14 g15 => if r14 = 0 then
  none
  else
  gb (getR 11 g15 p 0) fun x18 => gb (getI 11 g15 p 3) fun x20 => gb (putV 11 g15 p 3 (.int (x20 + 1))) fun g22 => gb (astI 1 g22 x18 x20 ((b0.toInt8.toInt32).toInt8.toInt32)) fun g24 => some (p, g24)
def j4_append_cf468 (p : Nat) (b0 : Int32) (g : AH) : Option (Nat × AH) :=
  gb (isO 11 g p) fun _ => cb (j5_append_3fe6f p b0 g) fun r1 g2 => some (p, g2)
def jx4a65c_size_8abf5 (p : Nat) (g : AH) : Option (Int32 × AH) :=
  gb (getI 12 g p 2) fun x1 => some (x1, g)
def jx4a65c_grow_92f84 (k9 : KK) (p : Nat) (b0 : Int32) (g : AH) : Option (Nat × AH) :=
  gb (getR 12 g p 1) fun x1 => gb (alenQ k9.1 g x1) fun x3 => if 0 < x3 then
  none
  else
  gb (getR 12 g p 1) fun x6 => if x6 = k9.1 then
  if 10 < ((if 10 < b0 then b0 else 10)).toNatClampNeg then none else cb (newA 6 (.inr (.inr (fun _ => none))) g (if 10 < b0 then b0 else 10)) fun x9 g10 => gb (putV 12 g10 p 1 (.ref x9)) fun g13 => some (x9, g13)
  else
  none
def jx4a65c_grow_d5877 (k9 : KK) (p : Nat) (g : AH) : Option (Nat × AH) :=
  gb (getI 12 g p 2) fun x1 => gb (isO 12 g p) fun _ => cb (jx4a65c_grow_92f84 k9 p (x1 + 1) g) fun r3 g4 => some (r3, g4)
def jx4a65c_add_72be8_j11 (k9 : KK) (a0 : Nat) (a1 : Nat) (a2 : Nat) (a3 : Int32) (g : AH) : Option (Unit × AH) :=
  gb (astR 6 9 g a2 a3 a1) fun g1 => gb (putV 12 g1 a0 2 (.int (a3 + 1))) fun g3 => some ((), g3)
def jx4a65c_add_72be8 (k9 : KK) (p : Nat) (b0 : Nat) (b1 : Nat) (b2 : Int32) (g : AH) : Option (Unit × AH) :=
  gb (alenQ k9.1 g b1) fun x1 => if b2 = x1 then
  gb (isO 12 g p) fun _ => cb (jx4a65c_grow_d5877 k9 p g) fun r4 g5 => jx4a65c_add_72be8_j11 k9 p b0 r4 b2 g5
  else
  jx4a65c_add_72be8_j11 k9 p b0 b1 b2 g
def jx4a65c_add_9ea2d (k9 : KK) (p : Nat) (b0 : Nat) (g : AH) : Option (Int32 × AH) :=
  gb (getI 12 g p 0) fun x1 => gb (putV 12 g p 0 (.int (x1 + 1))) fun g3 => gb (getR 12 g3 p 1) fun x5 => gb (getI 12 g3 p 2) fun x7 => gb (isO 12 g3 p) fun _ => cb (jx4a65c_add_72be8 k9 p b0 x5 x7 g3) fun r9 g10 => some (1, g10)
def j5_getValue_6d5f1 (p : Nat) (g : AH) : Option (Nat × AH) :=
  gb (getR 11 g p 0) fun x1 => some (x1, g)
def j5_length_8abf5 (p : Nat) (g : AH) : Option (Int32 × AH) :=
  gb (getI 11 g p 3) fun x1 => some (x1, g)
def j4_length_8abf5 (p : Nat) (g : AH) : Option (Int32 × AH) :=
  gb (isO 11 g p) fun _ => cb (j5_length_8abf5 p g) fun r1 g2 => some (r1, g2)
def j7_checkLength_df160 (b0 : Int32) (b1 : Int32) (g : AH) : Option (Unit × AH) :=
  if b0 ≤ b1 then
  some ((), g)
  else
  none
def j7_copyOfRangeByte_39247 (b0 : Nat) (b1 : Int32) (b2 : Int32) (g : AH) : Option (Nat × AH) :=
  cb (j7_checkLength_df160 b1 b2 g) fun r1 g2 => if 400 < ((b2 - b1)).toNatClampNeg then none else cb (newA 1 (.inl (fun _ => 0)) g2 (b2 - b1)) fun x4 g5 => gb (alen 1 g5 b0) fun x8 => gb (acpyB g5 b0 b1 x4 0 (if (b2 - b1) < (x8 - b1) then (b2 - b1) else (x8 - b1))) fun g10 => some (x4, g10)
def j7_copyOfRange_39247_j10 (a0 : Nat) (a1 : Int32) (a2 : Int32) (g : AH) : Option (Nat × AH) :=
  cb (j7_copyOfRangeByte_39247 a0 a1 a2 g) fun r1 g2 => some (r1, g2)
def j7_copyOfRange_39247 (b0 : Nat) (b1 : Int32) (b2 : Int32) (g : AH) : Option (Nat × AH) :=
  if b1 = 0 then
  gb (alen 1 g b0) fun x2 => if b2 = x2 then
  cb (clonB g b0) fun x5 g6 => gb (isByt g6 x5) fun u8 => some (x5, g6)
  else
  j7_copyOfRange_39247_j10 b0 b1 b2 g
  else
  j7_copyOfRange_39247_j10 b0 b1 b2 g
def j0_init_db425 (p : Nat) (b0 : Nat) (g : AH) : Option (Unit × AH) :=
  gb (isO 11 g b0) fun _ => cb (j5_getValue_6d5f1 b0 g) fun r1 g2 => gb (isO 11 g2 b0) fun _ => cb (j4_length_8abf5 b0 g2) fun r6 g7 => gb (isO 11 g7 b0) fun _ => cb (j5_isLatin1_aae02 b0 g7) fun r11 g12 => if r11 = 0 then
  none
  else
  gb (putV 13 g12 p 1 (.int 0)) fun g17 => cb (j7_copyOfRange_39247 r1 0 r6 g17) fun r19 g20 => gb (putV 13 g20 p 0 (.ref r19)) fun g22 => some ((), g22)
def j0_init_81219 (p : Nat) (b0 : Nat) (g : AH) : Option (Unit × AH) :=
  cb (j0_init_db425 p b0 g) fun r1 g2 => some ((), g2)
def j4_toString_0e30d (p : Nat) (g : AH) : Option (Nat × AH) :=
  cb (newO 13 tyJ0 g) fun x1 g2 => cb (j0_init_81219 x1 p g2) fun r4 g5 => some (x1, g5)
def j0_isLatin1_aae02 (p : Nat) (g : AH) : Option (Int32 × AH) :=
  if (1:Int32) = 0 then
  some (0, g)
  else
  gb (getI 13 g p 1) fun x2 => if x2 = 0 then
  some (1, g)
  else
  some (0, g)
def j1_charAt_3b067 (b0 : Nat) (b1 : Int32) (g : AH) : Option (Int32 × AH) :=
  gb (alen 1 g b0) fun x1 => gb (chkI b1 x1) fun _ => gb (aldI 1 g b0 b1) fun x5 => if narI .char (((x5 &&& 255).toUInt32 % 65536).toInt32) = (((x5 &&& 255).toUInt32 % 65536).toInt32) then some ((((x5 &&& 255).toUInt32 % 65536).toInt32), g) else none
def j0_charAt_5068e (p : Nat) (b0 : Int32) (g : AH) : Option (Int32 × AH) :=
  gb (isO 13 g p) fun _ => cb (j0_isLatin1_aae02 p g) fun r1 g2 => if r1 = 0 then
  none
  else
  gb (getR 13 g2 p 0) fun x7 => cb (j1_charAt_3b067 x7 b0 g2) fun r9 g10 => if narI .char r9 = r9 then some (r9, g10) else none
def jx4a65c_elementData_915e3 (p : Nat) (b0 : Int32) (g : AH) : Option (Nat × AH) :=
  gb (getR 12 g p 1) fun x1 => gb (aldR 6 g x1 b0) fun x3 => some (x3, g)
def jx4a65c_get_915e3 (p : Nat) (b0 : Int32) (g : AH) : Option (Nat × AH) :=
  gb (getI 12 g p 2) fun x1 => gb (chkI b0 x1) fun _ => gb (isO 12 g p) fun _ => cb (jx4a65c_elementData_915e3 p b0 g) fun r5 g6 => some (r5, g6)
def jxa1e45_init_da8c8 (p : Nat) (g : AH) : Option (Unit × AH) :=
  some ((), g)
def jxc12de_init_da8c8 (p : Nat) (g : AH) : Option (Unit × AH) :=
  cb (jxa1e45_init_da8c8 p g) fun r1 g2 => gb (putV 12 g2 p 0 (.int 0)) fun g4 => some ((), g4)
def jx4a65c_init_da8c8 (k9 : KK) (p : Nat) (g : AH) : Option (Unit × AH) :=
  cb (jxc12de_init_da8c8 p g) fun r1 g2 => gb (putV 12 g2 p 1 (.ref k9.1)) fun g4 => some ((), g4)
def x9_init (p : Nat) (g : AH) : Option (Unit × AH) :=
  gb (putV 9 g p 5 (.int (-1))) fun g1 => gb (putV 9 g1 p 6 (.int (-1))) fun g3 => cb (newA 0 (.inl (fun _ => 0)) g3 4) fun x5 g6 => gb (putV 9 g6 p 7 (.ref x5)) fun g8 => some ((), g8)
set_option maxHeartbeats 4000000 in
set_option maxRecDepth 100000 in
theorem t_jx4a65c_clear_da8c8_l27 {l : Launch} {G : GG} {M : MC} (X : CX M G cJx4a65c_clear_da8c8 4 RJx4a65c ⟨1, 0, 0, 60⟩) (hl0 : M.2.1 = l) (hr : (mM M).sig.returnType = none) (hnm : (mM M).name = yJx4a65c_clear_da8c8.name) {Q : State → Prop} {kc ks : Nat} {s9 : ((Int32) ⊕ (Unit))} {g1 : AH} {a1 : Nat} {a2 : Int32} {s0 : Int32} (hc : ∀ s1, s9 = .inl s1 → WW M G 4 Q kc ks g1 27 [(1, .ref a1), (2, .int a2), (3, .int s1)] []) (hx : ∀ t, s9 = .inr t → WW M G 4 Q kc ks g1 42 [] []) {g : AH} (E : jx4a65c_clear_da8c8_l27 a1 a2 s0 g = some (s9, g1)) : WW M G 4 Q kc ks g 27 [(1, .ref a1), (2, .int a2), (3, .int s0)] [] := by
  unfold jx4a65c_clear_da8c8_l27 at E
  refine r_iload_n X 3 dJx4a65c_clear_da8c8_27 rfl rfl ?_
  refine r_iload_n X 2 dJx4a65c_clear_da8c8_28 rfl rfl ?_
  refine r_icmp_ge X 42 dJx4a65c_clear_da8c8_29 (by decide) (fun c1 => ?_) (fun c1 => ?_)
  · rw [if_pos c1] at E
    cases E
    exact r_pick (by rfl : lpick [(1, .ref a1), (2, .int a2), (3, .int s0)] [] = _) (hx _ rfl)
  · rw [if_neg c1] at E
    refine r_aload_n X 1 dJx4a65c_clear_da8c8_32 rfl rfl ?_
    refine r_iload_n X 3 dJx4a65c_clear_da8c8_33 rfl rfl ?_
    refine r_null X dJx4a65c_clear_da8c8_34 ?_
    obtain ⟨g2, e3, E⟩ := gb_some E
    refine r_aastN X dJx4a65c_clear_da8c8_35 e3 ?_
    refine r_iinc X (v := (s0 + 1)) (L1 := [(3, .int (s0 + 1)), (1, .ref a1), (2, .int a2)]) dJx4a65c_clear_da8c8_36 rfl rfl (by decide) rfl ?_
    refine r_goto X 27 dJx4a65c_clear_da8c8_39 (by decide) ?_
    cases E
    exact r_pick (by rfl : lpick [(3, .int (s0 + 1)), (1, .ref a1), (2, .int a2)] [1, 2, 0] = _) (hc _ rfl)
set_option maxHeartbeats 4000000 in
theorem t_jx4a65c_clear_da8c8_l27_r {l : Launch} {G : GG} {M : MC} (X : CX M G cJx4a65c_clear_da8c8 4 RJx4a65c ⟨1, 0, 0, 60⟩) (hl0 : M.2.1 = l) (hr : (mM M).sig.returnType = none) (hnm : (mM M).name = yJx4a65c_clear_da8c8.name) {Q : State → Prop} {kc ks : Nat} {a1 : Nat} {a2 : Int32} : ∀ (n : Nat) (s0 : Int32) (g : AH) (t : (Unit)) (g1 : AH), loopX (jx4a65c_clear_da8c8_l27 a1 a2) n s0 g = some (t, g1) → WW M G 4 Q kc ks g1 42 [] [] → WW M G 4 Q kc ks g 27 [(1, .ref a1), (2, .int a2), (3, .int s0)] [] :=
  loop_cps (K := fun (t : (Unit)) g1 => WW M G 4 Q kc ks g1 42 [] []) (fun _ (s0 : Int32) g => WW M G 4 Q kc ks g 27 [(1, .ref a1), (2, .int a2), (3, .int s0)] []) (fun n s0 g st g1 E hc hx => t_jx4a65c_clear_da8c8_l27 X hl0 hr hnm hc hx E)
set_option maxHeartbeats 4000000 in
set_option maxRecDepth 100000 in
theorem t_jx4a65c_clear_da8c8_b {l : Launch} {G : GG} {M : MC} (X : CX M G cJx4a65c_clear_da8c8 4 RJx4a65c ⟨1, 0, 0, 60⟩) (hl0 : M.2.1 = l) (hr : (mM M).sig.returnType = none) (hnm : (mM M).name = yJx4a65c_clear_da8c8.name) {p : Nat} {g : AH} {r : Unit} {g1 : AH} (E : jx4a65c_clear_da8c8 p g = some (r, g1)) : WW M G 4 (RQ M G none g1 0 0) 0 0 g 0 [(0, .ref p)] [] := by
  unfold jx4a65c_clear_da8c8 at E
  refine r_aload_n X 0 dJx4a65c_clear_da8c8_0 rfl rfl ?_
  refine r_dup X dJx4a65c_clear_da8c8_1 rfl ?_
  obtain ⟨x1, e2, E⟩ := gb_some E
  refine r_getI X dJx4a65c_clear_da8c8_2 f_Jx4a65c_63 e2 ?_
  refine r_iconst X (v := 1) dJx4a65c_clear_da8c8_5 (by decide) ?_
  refine r_iadd X dJx4a65c_clear_da8c8_6 ?_
  obtain ⟨g3, e4, E⟩ := gb_some E
  refine r_put X dJx4a65c_clear_da8c8_7 f_Jx4a65c_63 rfl rfl e4 ?_
  refine r_aload_n X 0 dJx4a65c_clear_da8c8_10 rfl rfl ?_
  obtain ⟨x5, e6, E⟩ := gb_some E
  refine r_getR X dJx4a65c_clear_da8c8_11 f_Jx4a65c_9 e6 ?_
  refine r_astore_n X 1 (L1 := [(1, .ref x5), (0, .ref p)]) dJx4a65c_clear_da8c8_14 rfl (by decide) rfl ?_
  refine r_aload_n X 0 dJx4a65c_clear_da8c8_15 rfl rfl ?_
  obtain ⟨x7, e8, E⟩ := gb_some E
  refine r_getI X dJx4a65c_clear_da8c8_16 f_Jx4a65c_48 e8 ?_
  refine r_istore_n X 2 (L1 := [(2, .int x7), (1, .ref x5), (0, .ref p)]) dJx4a65c_clear_da8c8_19 rfl (by decide) rfl ?_
  refine r_aload_n X 0 dJx4a65c_clear_da8c8_20 rfl rfl ?_
  refine r_iconst X (v := 0) dJx4a65c_clear_da8c8_21 (by decide) ?_
  refine r_dup_x1 X dJx4a65c_clear_da8c8_22 rfl rfl ?_
  obtain ⟨g9, e10, E⟩ := gb_some E
  refine r_put X dJx4a65c_clear_da8c8_23 f_Jx4a65c_48 rfl rfl e10 ?_
  refine r_istore_n X 3 (L1 := [(3, .int 0), (2, .int x7), (1, .ref x5), (0, .ref p)]) dJx4a65c_clear_da8c8_26 rfl (by decide) rfl ?_
  obtain ⟨t11, g12, e13, E⟩ := cb_some E
  refine r_pick (by rfl : lpick [(3, .int 0), (2, .int x7), (1, .ref x5), (0, .ref p)] [2, 1, 0] = _) (t_jx4a65c_clear_da8c8_l27_r X hl0 hr hnm _ _ _ _ _ e13 ?_)
  cases E
  exact r_vret X hr dJx4a65c_clear_da8c8_42 (by decide) (by decide)
theorem t_jx4a65c_clear_da8c8 {l : Launch} {G : GG} {p : Nat} {g : AH} {r : Unit} {g1 : AH} (E : jx4a65c_clear_da8c8 p g = some (r, g1)) : Ct l G yJx4a65c_clear_da8c8 cJx4a65c_clear_da8c8 4 none ⟨1, 0, 0, 60⟩ [.ref p] g none g1 :=
  ct_of (L0 := [(0, .ref p)]) y_Jx4a65c_clear_da8c8 rfl (Nat.le_of_ble_eq_true rfl) fun M hl0 X hr hnm => t_jx4a65c_clear_da8c8_b X hl0 hr hnm E
set_option maxHeartbeats 4000000 in
set_option maxRecDepth 100000 in
theorem t_j0_coder_7d493_b {l : Launch} {G : GG} {M : MC} (X : CX M G cJ0_coder_7d493 1 RJ0 ⟨1, 0, 0, 60⟩) (hl0 : M.2.1 = l) (hr : (mM M).sig.returnType = (some .byte)) (hnm : (mM M).name = yJ0_coder_7d493.name) {p : Nat} {g : AH} {r : Int32} {g1 : AH} (E : j0_coder_7d493 p g = some (r, g1)) : WW M G 1 (RQ M G (some (.int r)) g1 0 0) 0 0 g 0 [(0, .ref p)] [] := by
  unfold j0_coder_7d493 at E
  refine r_gets0 X dJ0_coder_7d493_0 g_J0_38 X.2.2.2.2.1.2.2.2.2.2.1.1 ?_
  refine r_if_eq X 13 dJ0_coder_7d493_3 (by decide) (fun c1 => ?_) (fun c1 => ?_)
  · rw [if_pos c1] at E
    refine r_iconst X (v := 1) dJ0_coder_7d493_13 (by decide) ?_
    cases E
    exact r_nret X hr rfl dJ0_coder_7d493_14 (by decide) (by decide)
  · rw [if_neg c1] at E
    refine r_aload_n X 0 dJ0_coder_7d493_6 rfl rfl ?_
    obtain ⟨x2, e3, E⟩ := gb_some E
    refine r_getI X dJ0_coder_7d493_7 f_J0_15 e3 ?_
    refine r_goto X 14 dJ0_coder_7d493_10 (by decide) ?_
    by_cases c4 : narI .byte x2 = x2
    · rw [if_pos c4] at E
      cases E
      exact r_nret X hr (nar_of (Or.inl rfl) c4) dJ0_coder_7d493_14 (by decide) (by decide)
    · rw [if_neg c4] at E; cases E
theorem t_j0_coder_7d493 {l : Launch} {G : GG} {p : Nat} {g : AH} {r : Int32} {g1 : AH} (E : j0_coder_7d493 p g = some (r, g1)) : Ct l G yJ0_coder_7d493 cJ0_coder_7d493 1 (some .byte) ⟨1, 0, 0, 60⟩ [.ref p] g (some (.int r)) g1 :=
  ct_of (L0 := [(0, .ref p)]) y_J0_coder_7d493 rfl (Nat.le_of_ble_eq_true rfl) fun M hl0 X hr hnm => t_j0_coder_7d493_b X hl0 hr hnm E
set_option maxHeartbeats 4000000 in
set_option maxRecDepth 100000 in
theorem t_j0_length_8abf5_b {l : Launch} {G : GG} {M : MC} (X : CX M G cJ0_length_8abf5 1 RJ0 ⟨6, 0, 0, 200⟩) (hl0 : M.2.1 = l) (hr : (mM M).sig.returnType = (some .int)) (hnm : (mM M).name = yJ0_length_8abf5.name) {p : Nat} {g : AH} {r : Int32} {g1 : AH} (E : j0_length_8abf5 p g = some (r, g1)) : WW M G 1 (RQ M G (some (.int r)) g1 0 0) 0 0 g 0 [(0, .ref p)] [] := by
  unfold j0_length_8abf5 at E
  refine r_aload_n X 0 dJ0_length_8abf5_0 rfl rfl ?_
  obtain ⟨x1, e2, E⟩ := gb_some E
  refine r_getR X dJ0_length_8abf5_1 f_J0_9 e2 ?_
  obtain ⟨x3, e4, E⟩ := gb_some E
  refine r_alen X 1 (by decide) dJ0_length_8abf5_4 e4 ?_
  refine r_aload_n X 0 dJ0_length_8abf5_5 rfl rfl ?_
  obtain ⟨u8, e9, E⟩ := gb_some E
  obtain ⟨r5, g6, e7, E⟩ := cb_some E
  refine r_callV0 X hl0 (ci := 13) dJ0_length_8abf5_6 y_J0_coder_7d493 m_J0_335 rfl rfl e9 (t_j0_coder_7d493 (l := l) (G := G) e7) rfl rfl (Nat.le_of_ble_eq_true rfl) (by decide) ?_
  refine r_ishr X dJ0_length_8abf5_9 ?_
  cases E
  exact r_iret X hr dJ0_length_8abf5_10 (by decide) (by decide)
theorem t_j0_length_8abf5 {l : Launch} {G : GG} {p : Nat} {g : AH} {r : Int32} {g1 : AH} (E : j0_length_8abf5 p g = some (r, g1)) : Ct l G yJ0_length_8abf5 cJ0_length_8abf5 1 (some .int) ⟨6, 0, 0, 200⟩ [.ref p] g (some (.int r)) g1 :=
  ct_of (L0 := [(0, .ref p)]) y_J0_length_8abf5 rfl (Nat.le_of_ble_eq_true rfl) fun M hl0 X hr hnm => t_j0_length_8abf5_b X hl0 hr hnm E
set_option maxHeartbeats 4000000 in
set_option maxRecDepth 100000 in
theorem t_j8_newLength_cabcc_b {l : Launch} {G : GG} {M : MC} (X : CX M G cJ8_newLength_cabcc 4 RJ8 ⟨3, 0, 0, 150⟩) (hl0 : M.2.1 = l) (hr : (mM M).sig.returnType = (some .int)) (hnm : (mM M).name = yJ8_newLength_cabcc.name) {b0 : Int32} {b1 : Int32} {b2 : Int32} {g : AH} {r : Int32} {g1 : AH} (E : j8_newLength_cabcc b0 b1 b2 g = some (r, g1)) : WW M G 4 (RQ M G (some (.int r)) g1 0 0) 0 0 g 0 [(0, .int b0), (1, .int b1), (2, .int b2)] [] := by
  unfold j8_newLength_cabcc at E
  refine r_iload_n X 0 dJ8_newLength_cabcc_0 rfl rfl ?_
  refine r_iload_n X 1 dJ8_newLength_cabcc_1 rfl rfl ?_
  refine r_iload_n X 2 dJ8_newLength_cabcc_2 rfl rfl ?_
  refine r_max X dJ8_newLength_cabcc_3 m_J8_194m (by decide) (Nat.le_of_ble_eq_true rfl) ?_
  refine r_iadd X dJ8_newLength_cabcc_6 ?_
  refine r_istore_n X 3 (L1 := [(3, .int (b0 + (if b1 < b2 then b2 else b1))), (0, .int b0), (1, .int b1), (2, .int b2)]) dJ8_newLength_cabcc_7 rfl (by decide) rfl ?_
  refine r_iconst X (v := 0) dJ8_newLength_cabcc_8 (by decide) ?_
  refine r_iload_n X 3 dJ8_newLength_cabcc_9 rfl rfl ?_
  refine r_icmp_ge X 21 dJ8_newLength_cabcc_10 (by decide) (fun c1 => ?_) (fun c1 => ?_)
  · rw [if_pos c1] at E
    cases E
  · rw [if_neg c1] at E
    refine r_iload_n X 3 dJ8_newLength_cabcc_13 rfl rfl ?_
    refine r_ldcI X dJ8_newLength_cabcc_14 q_J8_200 ?_
    refine r_icmp_gt X 21 dJ8_newLength_cabcc_16 (by decide) (fun c2 => ?_) (fun c2 => ?_)
    · rw [if_pos c2] at E
      cases E
    · rw [if_neg c2] at E
      refine r_iload_n X 3 dJ8_newLength_cabcc_19 rfl rfl ?_
      cases E
      exact r_iret X hr dJ8_newLength_cabcc_20 (by decide) (by decide)
theorem t_j8_newLength_cabcc {l : Launch} {G : GG} {b0 : Int32} {b1 : Int32} {b2 : Int32} {g : AH} {r : Int32} {g1 : AH} (E : j8_newLength_cabcc b0 b1 b2 g = some (r, g1)) : Ct l G yJ8_newLength_cabcc cJ8_newLength_cabcc 4 (some .int) ⟨3, 0, 0, 150⟩ [.int b0, .int b1, .int b2] g (some (.int r)) g1 :=
  ct_of (L0 := [(0, .int b0), (1, .int b1), (2, .int b2)]) y_J8_newLength_cabcc rfl (Nat.le_of_ble_eq_true rfl) fun M hl0 X hr hnm => t_j8_newLength_cabcc_b X hl0 hr hnm E
set_option maxHeartbeats 4000000 in
set_option maxRecDepth 100000 in
theorem t_j5_newCapacity_0f7a4_b {l : Launch} {G : GG} {M : MC} (X : CX M G cJ5_newCapacity_0f7a4 6 RJ5 ⟨4, 0, 0, 173⟩) (hl0 : M.2.1 = l) (hr : (mM M).sig.returnType = (some .int)) (hnm : (mM M).name = yJ5_newCapacity_0f7a4.name) {p : Nat} {b0 : Int32} {g : AH} {r : Int32} {g1 : AH} (E : j5_newCapacity_0f7a4 p b0 g = some (r, g1)) : WW M G 6 (RQ M G (some (.int r)) g1 0 0) 0 0 g 0 [(0, .ref p), (1, .int b0)] [] := by
  unfold j5_newCapacity_0f7a4 at E
  refine r_aload_n X 0 dJ5_newCapacity_0f7a4_0 rfl rfl ?_
  obtain ⟨x1, e2, E⟩ := gb_some E
  refine r_getR X dJ5_newCapacity_0f7a4_1 f_J5_15 e2 ?_
  obtain ⟨x3, e4, E⟩ := gb_some E
  refine r_alen X 1 (by decide) dJ5_newCapacity_0f7a4_4 e4 ?_
  refine r_istore_n X 2 (L1 := [(2, .int x3), (0, .ref p), (1, .int b0)]) dJ5_newCapacity_0f7a4_5 rfl (by decide) rfl ?_
  refine r_iload_n X 1 dJ5_newCapacity_0f7a4_6 rfl rfl ?_
  refine r_aload_n X 0 dJ5_newCapacity_0f7a4_7 rfl rfl ?_
  obtain ⟨x5, e6, E⟩ := gb_some E
  refine r_getI X dJ5_newCapacity_0f7a4_8 f_J5_22 e6 ?_
  refine r_ishl X dJ5_newCapacity_0f7a4_11 ?_
  refine r_istore_n X 3 (L1 := [(3, .int (b0 <<< (x5 &&& 31))), (2, .int x3), (0, .ref p), (1, .int b0)]) dJ5_newCapacity_0f7a4_12 rfl (by decide) rfl ?_
  refine r_iload_n X 3 dJ5_newCapacity_0f7a4_13 rfl rfl ?_
  refine r_iload_n X 2 dJ5_newCapacity_0f7a4_14 rfl rfl ?_
  refine r_isub X dJ5_newCapacity_0f7a4_15 ?_
  refine r_istore X (L1 := [(4, .int ((b0 <<< (x5 &&& 31)) - x3)), (3, .int (b0 <<< (x5 &&& 31))), (2, .int x3), (0, .ref p), (1, .int b0)]) dJ5_newCapacity_0f7a4_16 (by decide) rfl ?_
  refine r_iload_n X 2 dJ5_newCapacity_0f7a4_18 rfl rfl ?_
  refine r_iload X dJ5_newCapacity_0f7a4_19 rfl ?_
  refine r_iload_n X 2 dJ5_newCapacity_0f7a4_21 rfl rfl ?_
  refine r_iconst X (v := 2) dJ5_newCapacity_0f7a4_22 (by decide) ?_
  refine r_aload_n X 0 dJ5_newCapacity_0f7a4_23 rfl rfl ?_
  obtain ⟨x7, e8, E⟩ := gb_some E
  refine r_getI X dJ5_newCapacity_0f7a4_24 f_J5_22 e8 ?_
  refine r_ishl X dJ5_newCapacity_0f7a4_27 ?_
  refine r_iadd X dJ5_newCapacity_0f7a4_28 ?_
  obtain ⟨r9, g10, e11, E⟩ := cb_some E
  refine r_callS0 X hl0 dJ5_newCapacity_0f7a4_29 y_J8_newLength_cabcc m_J5_114 (t_j8_newLength_cabcc (l := l) (G := G) e11) rfl rfl (Nat.le_of_ble_eq_true rfl) (by decide) ?_
  refine r_istore X (L1 := [(5, .int r9), (4, .int ((b0 <<< (x5 &&& 31)) - x3)), (3, .int (b0 <<< (x5 &&& 31))), (2, .int x3), (0, .ref p), (1, .int b0)]) dJ5_newCapacity_0f7a4_32 (by decide) rfl ?_
  refine r_iload X dJ5_newCapacity_0f7a4_34 rfl ?_
  refine r_ldcI X dJ5_newCapacity_0f7a4_36 q_J5_39 ?_
  refine r_icmp_ne X 51 dJ5_newCapacity_0f7a4_38 (by decide) (fun c12 => ?_) (fun c12 => ?_)
  · rw [if_neg c12] at E
    refine r_iload X dJ5_newCapacity_0f7a4_51 rfl ?_
    refine r_aload_n X 0 dJ5_newCapacity_0f7a4_53 rfl rfl ?_
    obtain ⟨x13, e14, E⟩ := gb_some E
    refine r_getI X dJ5_newCapacity_0f7a4_54 f_J5_22 e14 ?_
    refine r_ishr X dJ5_newCapacity_0f7a4_57 ?_
    cases E
    exact r_iret X hr dJ5_newCapacity_0f7a4_58 (by decide) (by decide)
  · rw [if_pos c12] at E
    cases E
theorem t_j5_newCapacity_0f7a4 {l : Launch} {G : GG} {p : Nat} {b0 : Int32} {g : AH} {r : Int32} {g1 : AH} (E : j5_newCapacity_0f7a4 p b0 g = some (r, g1)) : Ct l G yJ5_newCapacity_0f7a4 cJ5_newCapacity_0f7a4 6 (some .int) ⟨4, 0, 0, 173⟩ [.ref p, .int b0] g (some (.int r)) g1 :=
  ct_of9 (L0 := [(0, .ref p), (1, .int b0)]) (by decide +kernel) rfl (Nat.le_of_ble_eq_true rfl) fun M hl0 X hr hnm => t_j5_newCapacity_0f7a4_b X hl0 hr hnm E
set_option maxHeartbeats 4000000 in
set_option maxRecDepth 100000 in
theorem t_j7_copyOf_9075b_b {l : Launch} {G : GG} {M : MC} (X : CX M G cJ7_copyOf_9075b 3 RJ7 ⟨3, 1, 400, 150⟩) (hl0 : M.2.1 = l) (hr : (mM M).sig.returnType = (some (.array .byte))) (hnm : (mM M).name = yJ7_copyOf_9075b.name) {b0 : Nat} {b1 : Int32} {g : AH} {r : Nat} {g1 : AH} (E : j7_copyOf_9075b b0 b1 g = some (r, g1)) : WW M G 3 (RQ M G (some (.ref r)) g1 1 400) 0 0 g 0 [(0, .ref b0), (1, .int b1)] [] := by
  unfold j7_copyOf_9075b at E
  refine r_iload_n X 1 dJ7_copyOf_9075b_0 rfl rfl ?_
  refine r_aload_n X 0 dJ7_copyOf_9075b_1 rfl rfl ?_
  obtain ⟨x1, e2, E⟩ := gb_some E
  refine r_alen X 1 (by decide) dJ7_copyOf_9075b_2 e2 ?_
  refine r_icmp_ne X 14 dJ7_copyOf_9075b_3 (by decide) (fun c3 => ?_) (fun c3 => ?_)
  · rw [if_neg c3] at E
    refine r_iload_n X 1 dJ7_copyOf_9075b_14 rfl rfl ?_
    by_cases c6 : 400 < (b1).toNatClampNeg
    · rw [if_pos c6] at E; cases E
    rw [if_neg c6] at E
    obtain ⟨x4, g5, e7, E⟩ := cb_some E
    refine r_newarr X 1 400 dJ7_copyOf_9075b_15 (by decide) rfl a_byte (fun _ _ => rfl) (by decide) (Nat.not_lt.mp c6) (by decide) e7 ?_
    refine r_astore_n X 2 (L1 := [(2, .ref x4), (0, .ref b0), (1, .int b1)]) dJ7_copyOf_9075b_17 rfl (by decide) rfl ?_
    refine r_aload_n X 0 dJ7_copyOf_9075b_18 rfl rfl ?_
    refine r_iconst X (v := 0) dJ7_copyOf_9075b_19 (by decide) ?_
    refine r_aload_n X 2 dJ7_copyOf_9075b_20 rfl rfl ?_
    refine r_iconst X (v := 0) dJ7_copyOf_9075b_21 (by decide) ?_
    refine r_aload_n X 0 dJ7_copyOf_9075b_22 rfl rfl ?_
    obtain ⟨x8, e9, E⟩ := gb_some E
    refine r_alen X 1 (by decide) dJ7_copyOf_9075b_23 e9 ?_
    refine r_iload_n X 1 dJ7_copyOf_9075b_24 rfl rfl ?_
    refine r_min X dJ7_copyOf_9075b_25 m_J7_304m (by decide) (Nat.le_of_ble_eq_true rfl) ?_
    obtain ⟨g10, e11, E⟩ := gb_some E
    refine r_copyB X dJ7_copyOf_9075b_28 m_J7_150c (by decide) (Nat.le_of_ble_eq_true rfl) e11 ?_
    refine r_aload_n X 2 dJ7_copyOf_9075b_31 rfl rfl ?_
    cases E
    exact r_aret X hr (Or.inr ⟨_, rfl⟩) dJ7_copyOf_9075b_32 (by decide) (by decide)
  · rw [if_pos c3] at E
    cases E
theorem t_j7_copyOf_9075b {l : Launch} {G : GG} {b0 : Nat} {b1 : Int32} {g : AH} {r : Nat} {g1 : AH} (E : j7_copyOf_9075b b0 b1 g = some (r, g1)) : Ct l G yJ7_copyOf_9075b cJ7_copyOf_9075b 3 (some (.array .byte)) ⟨3, 1, 400, 150⟩ [.ref b0, .int b1] g (some (.ref r)) g1 :=
  ct_of (L0 := [(0, .ref b0), (1, .int b1)]) y_J7_copyOf_9075b rfl (Nat.le_of_ble_eq_true rfl) fun M hl0 X hr hnm => t_j7_copyOf_9075b_b X hl0 hr hnm E
set_option maxHeartbeats 4000000 in
set_option maxRecDepth 100000 in
theorem t_j5_ensureCapacityInternal_d00df_b {l : Launch} {G : GG} {M : MC} (X : CX M G cJ5_ensureCapacityInternal_d00df 3 RJ5 ⟨5, 1, 400, 198⟩) (hl0 : M.2.1 = l) (hr : (mM M).sig.returnType = none) (hnm : (mM M).name = yJ5_ensureCapacityInternal_d00df.name) {p : Nat} {b0 : Int32} {g : AH} {r : Unit} {g1 : AH} (E : j5_ensureCapacityInternal_d00df p b0 g = some (r, g1)) : WW M G 3 (RQ M G none g1 1 400) 0 0 g 0 [(0, .ref p), (1, .int b0)] [] := by
  unfold j5_ensureCapacityInternal_d00df at E
  refine r_aload_n X 0 dJ5_ensureCapacityInternal_d00df_0 rfl rfl ?_
  obtain ⟨x1, e2, E⟩ := gb_some E
  refine r_getR X dJ5_ensureCapacityInternal_d00df_1 f_J5_15 e2 ?_
  obtain ⟨x3, e4, E⟩ := gb_some E
  refine r_alen X 1 (by decide) dJ5_ensureCapacityInternal_d00df_4 e4 ?_
  refine r_aload_n X 0 dJ5_ensureCapacityInternal_d00df_5 rfl rfl ?_
  obtain ⟨x5, e6, E⟩ := gb_some E
  refine r_getI X dJ5_ensureCapacityInternal_d00df_6 f_J5_22 e6 ?_
  refine r_ishr X dJ5_ensureCapacityInternal_d00df_9 ?_
  refine r_istore_n X 2 (L1 := [(2, .int (x3 >>> (x5 &&& 31))), (0, .ref p), (1, .int b0)]) dJ5_ensureCapacityInternal_d00df_10 rfl (by decide) rfl ?_
  refine r_iload_n X 1 dJ5_ensureCapacityInternal_d00df_11 rfl rfl ?_
  refine r_iload_n X 2 dJ5_ensureCapacityInternal_d00df_12 rfl rfl ?_
  refine r_isub X dJ5_ensureCapacityInternal_d00df_13 ?_
  refine r_if_le X 38 dJ5_ensureCapacityInternal_d00df_14 (by decide) (fun c7 => ?_) (fun c7 => ?_)
  · rw [if_pos c7] at E
    cases E
    exact r_vret X hr dJ5_ensureCapacityInternal_d00df_38 (by decide) (by decide)
  · rw [if_neg c7] at E
    refine r_aload_n X 0 dJ5_ensureCapacityInternal_d00df_17 rfl rfl ?_
    refine r_aload_n X 0 dJ5_ensureCapacityInternal_d00df_18 rfl rfl ?_
    obtain ⟨x8, e9, E⟩ := gb_some E
    refine r_getR X dJ5_ensureCapacityInternal_d00df_19 f_J5_15 e9 ?_
    refine r_aload_n X 0 dJ5_ensureCapacityInternal_d00df_22 rfl rfl ?_
    refine r_iload_n X 1 dJ5_ensureCapacityInternal_d00df_23 rfl rfl ?_
    obtain ⟨u13, e14, E⟩ := gb_some E
    obtain ⟨r10, g11, e12, E⟩ := cb_some E
    refine r_callU X hl0 (ci := 11) (rc := (RJ4, TJ4, 4)) dJ5_ensureCapacityInternal_d00df_24 yu_J5_newCapacity_0f7a4 m_J5_104 rfl e14 (t_j5_newCapacity_0f7a4 (l := l) (G := G) e12) rfl rfl (Nat.le_of_ble_eq_true rfl) (by decide) ?_
    refine r_aload_n X 0 dJ5_ensureCapacityInternal_d00df_27 rfl rfl ?_
    obtain ⟨x15, e16, E⟩ := gb_some E
    refine r_getI X dJ5_ensureCapacityInternal_d00df_28 f_J5_22 e16 ?_
    refine r_ishl X dJ5_ensureCapacityInternal_d00df_31 ?_
    obtain ⟨r17, g18, e19, E⟩ := cb_some E
    refine r_callS X hl0 dJ5_ensureCapacityInternal_d00df_32 y_J7_copyOf_9075b m_J5_108 (t_j7_copyOf_9075b (l := l) (G := G) e19) rfl rfl (Nat.le_of_ble_eq_true rfl) (by decide) ?_
    obtain ⟨g20, e21, E⟩ := gb_some E
    refine r_put X dJ5_ensureCapacityInternal_d00df_35 f_J5_15 rfl rfl e21 ?_
    cases E
    exact r_vret X hr dJ5_ensureCapacityInternal_d00df_38 (by decide) (by decide)
theorem t_j5_ensureCapacityInternal_d00df {l : Launch} {G : GG} {p : Nat} {b0 : Int32} {g : AH} {r : Unit} {g1 : AH} (E : j5_ensureCapacityInternal_d00df p b0 g = some (r, g1)) : Ct l G yJ5_ensureCapacityInternal_d00df cJ5_ensureCapacityInternal_d00df 3 none ⟨5, 1, 400, 198⟩ [.ref p, .int b0] g none g1 :=
  ct_of9 (L0 := [(0, .ref p), (1, .int b0)]) (by decide +kernel) rfl (Nat.le_of_ble_eq_true rfl) fun M hl0 X hr hnm => t_j5_ensureCapacityInternal_d00df_b X hl0 hr hnm E
set_option maxHeartbeats 4000000 in
set_option maxRecDepth 100000 in
theorem t_j5_inflateIfNeededFor_a7421_b {l : Launch} {G : GG} {M : MC} (X : CX M G cJ5_inflateIfNeededFor_a7421 2 RJ5 ⟨6, 0, 0, 200⟩) (hl0 : M.2.1 = l) (hr : (mM M).sig.returnType = none) (hnm : (mM M).name = yJ5_inflateIfNeededFor_a7421.name) {p : Nat} {b0 : Nat} {g : AH} {r : Unit} {g1 : AH} (E : j5_inflateIfNeededFor_a7421 p b0 g = some (r, g1)) : WW M G 2 (RQ M G none g1 0 0) 0 0 g 0 [(0, .ref p), (1, .ref (G.2.2.1 b0))] [] := by
  unfold j5_inflateIfNeededFor_a7421 at E
  refine r_gets0 X dJ5_inflateIfNeededFor_a7421_0 g_J5_18 X.2.2.2.2.1.2.2.2.2.2.1.1 ?_
  refine r_if_eq X 21 dJ5_inflateIfNeededFor_a7421_3 (by decide) (fun c1 => ?_) (fun c1 => ?_)
  · rw [if_pos c1] at E
    cases E
    exact r_vret X hr dJ5_inflateIfNeededFor_a7421_21 (by decide) (by decide)
  · rw [if_neg c1] at E
    refine r_aload_n X 0 dJ5_inflateIfNeededFor_a7421_6 rfl rfl ?_
    obtain ⟨x2, e3, E⟩ := gb_some E
    refine r_getI X dJ5_inflateIfNeededFor_a7421_7 f_J5_22 e3 ?_
    refine r_aload_n X 1 dJ5_inflateIfNeededFor_a7421_10 rfl rfl ?_
    by_cases c4 : b0 < nST
    rotate_left
    · rw [if_neg c4] at E; cases E
    rw [if_pos c4] at E
    refine r_callVs X hl0 dJ5_inflateIfNeededFor_a7421_11 y_J0_coder_7d493 m_J5_40 c4 rfl (t_coder c4) rfl rfl (Nat.le_of_ble_eq_true rfl) (by decide) ?_
    refine r_icmp_eq X 21 dJ5_inflateIfNeededFor_a7421_14 (by decide) (fun c5 => ?_) (fun c5 => ?_)
    · rw [if_pos c5] at E
      cases E
      exact r_vret X hr dJ5_inflateIfNeededFor_a7421_21 (by decide) (by decide)
    · rw [if_neg c5] at E
      cases E
theorem t_j5_inflateIfNeededFor_a7421 {l : Launch} {G : GG} {p : Nat} {b0 : Nat} {g : AH} {r : Unit} {g1 : AH} (E : j5_inflateIfNeededFor_a7421 p b0 g = some (r, g1)) : Ct l G yJ5_inflateIfNeededFor_a7421 cJ5_inflateIfNeededFor_a7421 2 none ⟨6, 0, 0, 200⟩ [.ref p, .ref (G.2.2.1 b0)] g none g1 :=
  ct_of9 (L0 := [(0, .ref p), (1, .ref (G.2.2.1 b0))]) (by decide +kernel) rfl (Nat.le_of_ble_eq_true rfl) fun M hl0 X hr hnm => t_j5_inflateIfNeededFor_a7421_b X hl0 hr hnm E
set_option maxHeartbeats 4000000 in
set_option maxRecDepth 100000 in
theorem t_j0_getBytes_840e7_b {l : Launch} {G : GG} {M : MC} (X : CX M G cJ0_getBytes_840e7 4 RJ0 ⟨6, 0, 0, 200⟩) (hl0 : M.2.1 = l) (hr : (mM M).sig.returnType = none) (hnm : (mM M).name = yJ0_getBytes_840e7.name) {p : Nat} {b0 : Nat} {b1 : Int32} {b2 : Int32} {g : AH} {r : Unit} {g1 : AH} (E : j0_getBytes_840e7 p b0 b1 b2 g = some (r, g1)) : WW M G 4 (RQ M G none g1 0 0) 0 0 g 0 [(0, .ref (G.2.2.1 p)), (1, .ref b0), (2, .int b1), (3, .int b2)] [] := by
  unfold j0_getBytes_840e7 at E
  refine r_aload_n X 0 dJ0_getBytes_840e7_0 rfl rfl ?_
  by_cases c1 : p < nST
  rotate_left
  · rw [if_neg c1] at E; cases E
  rw [if_pos c1] at E
  refine r_callVs X hl0 dJ0_getBytes_840e7_1 y_J0_coder_7d493 m_J0_335 c1 rfl (t_coder c1) rfl rfl (Nat.le_of_ble_eq_true rfl) (by decide) ?_
  refine r_iload_n X 3 dJ0_getBytes_840e7_4 rfl rfl ?_
  refine r_icmp_ne X 28 dJ0_getBytes_840e7_5 (by decide) (fun c2 => ?_) (fun c2 => ?_)
  · rw [if_neg c2] at E
    cases E
  · rw [if_pos c2] at E
    refine r_aload_n X 0 dJ0_getBytes_840e7_8 rfl rfl ?_
    refine r_sgetf X dJ0_getBytes_840e7_9 j_9 (X.str (by assumption)).2.2.1 ?_
    refine r_iconst X (v := 0) dJ0_getBytes_840e7_12 (by decide) ?_
    refine r_aload_n X 1 dJ0_getBytes_840e7_13 rfl rfl ?_
    refine r_iload_n X 2 dJ0_getBytes_840e7_14 rfl rfl ?_
    refine r_iload_n X 3 dJ0_getBytes_840e7_15 rfl rfl ?_
    refine r_ishl X dJ0_getBytes_840e7_16 ?_
    refine r_aload_n X 0 dJ0_getBytes_840e7_17 rfl rfl ?_
    refine r_sgetf X dJ0_getBytes_840e7_18 j_9 (X.str (by assumption)).2.2.1 ?_
    refine r_tlen X dJ0_getBytes_840e7_21 (X.str (by assumption)).2.2.2 ?_
    obtain ⟨g4, e5, E⟩ := gb_some E
    refine r_copyC X dJ0_getBytes_840e7_22 m_J0_212c (by decide) (Nat.le_of_ble_eq_true rfl) e5 ?_
    refine r_goto X 43 dJ0_getBytes_840e7_25 (by decide) ?_
    cases E
    exact r_vret X hr dJ0_getBytes_840e7_43 (by decide) (by decide)
theorem t_j0_getBytes_840e7 {l : Launch} {G : GG} {p : Nat} {b0 : Nat} {b1 : Int32} {b2 : Int32} {g : AH} {r : Unit} {g1 : AH} (E : j0_getBytes_840e7 p b0 b1 b2 g = some (r, g1)) : Ct l G yJ0_getBytes_840e7 cJ0_getBytes_840e7 4 none ⟨6, 0, 0, 200⟩ [.ref (G.2.2.1 p), .ref b0, .int b1, .int b2] g none g1 :=
  ct_of (L0 := [(0, .ref (G.2.2.1 p)), (1, .ref b0), (2, .int b1), (3, .int b2)]) y_J0_getBytes_840e7 rfl (Nat.le_of_ble_eq_true rfl) fun M hl0 X hr hnm => t_j0_getBytes_840e7_b X hl0 hr hnm E
set_option maxHeartbeats 4000000 in
set_option maxRecDepth 100000 in
theorem t_j5_putStringAt_47b60_b {l : Launch} {G : GG} {M : MC} (X : CX M G cJ5_putStringAt_47b60 3 RJ5 ⟨7, 0, 0, 223⟩) (hl0 : M.2.1 = l) (hr : (mM M).sig.returnType = none) (hnm : (mM M).name = yJ5_putStringAt_47b60.name) {p : Nat} {b0 : Int32} {b1 : Nat} {g : AH} {r : Unit} {g1 : AH} (E : j5_putStringAt_47b60 p b0 b1 g = some (r, g1)) : WW M G 3 (RQ M G none g1 0 0) 0 0 g 0 [(0, .ref p), (1, .int b0), (2, .ref (G.2.2.1 b1))] [] := by
  unfold j5_putStringAt_47b60 at E
  refine r_aload_n X 0 dJ5_putStringAt_47b60_0 rfl rfl ?_
  refine r_aload_n X 2 dJ5_putStringAt_47b60_1 rfl rfl ?_
  obtain ⟨u4, e5, E⟩ := gb_some E
  obtain ⟨r1, g2, e3, E⟩ := cb_some E
  refine r_callU X hl0 (ci := 11) (rc := (RJ4, TJ4, 4)) dJ5_putStringAt_47b60_2 yu_J5_inflateIfNeededFor_a7421 m_J5_397 rfl e5 (t_j5_inflateIfNeededFor_a7421 (l := l) (G := G) e3) rfl rfl (Nat.le_of_ble_eq_true rfl) (by decide) ?_
  refine r_aload_n X 2 dJ5_putStringAt_47b60_5 rfl rfl ?_
  refine r_aload_n X 0 dJ5_putStringAt_47b60_6 rfl rfl ?_
  obtain ⟨x6, e7, E⟩ := gb_some E
  refine r_getR X dJ5_putStringAt_47b60_7 f_J5_15 e7 ?_
  refine r_iload_n X 1 dJ5_putStringAt_47b60_10 rfl rfl ?_
  refine r_aload_n X 0 dJ5_putStringAt_47b60_11 rfl rfl ?_
  obtain ⟨x8, e9, E⟩ := gb_some E
  refine r_getI X dJ5_putStringAt_47b60_12 f_J5_22 e9 ?_
  by_cases c13 : b1 < nST
  rotate_left
  · rw [if_neg c13] at E; cases E
  rw [if_pos c13] at E
  obtain ⟨r10, g11, e12, E⟩ := cb_some E
  refine r_callVsg X hl0 dJ5_putStringAt_47b60_15 y_J0_getBytes_840e7 m_J5_399 c13 rfl (t_j0_getBytes_840e7 (l := l) (G := G) e12) rfl rfl (Nat.le_of_ble_eq_true rfl) (by decide) ?_
  cases E
  exact r_vret X hr dJ5_putStringAt_47b60_18 (by decide) (by decide)
theorem t_j5_putStringAt_47b60 {l : Launch} {G : GG} {p : Nat} {b0 : Int32} {b1 : Nat} {g : AH} {r : Unit} {g1 : AH} (E : j5_putStringAt_47b60 p b0 b1 g = some (r, g1)) : Ct l G yJ5_putStringAt_47b60 cJ5_putStringAt_47b60 3 none ⟨7, 0, 0, 223⟩ [.ref p, .int b0, .ref (G.2.2.1 b1)] g none g1 :=
  ct_of9 (L0 := [(0, .ref p), (1, .int b0), (2, .ref (G.2.2.1 b1))]) (by decide +kernel) rfl (Nat.le_of_ble_eq_true rfl) fun M hl0 X hr hnm => t_j5_putStringAt_47b60_b X hl0 hr hnm E
set_option maxHeartbeats 4000000 in
set_option maxRecDepth 100000 in
theorem t_j5_append_cf1ce_b {l : Launch} {G : GG} {M : MC} (X : CX M G cJ5_append_cf1ce 3 RJ5 ⟨8, 1, 400, 245⟩) (hl0 : M.2.1 = l) (hr : (mM M).sig.returnType = (some (.object "java/lang/AbstractStringBuilder"))) (hnm : (mM M).name = yJ5_append_cf1ce.name) {p : Nat} {b0 : Nat} {g : AH} {r : Nat} {g1 : AH} (E : j5_append_cf1ce p b0 g = some (r, g1)) : WW M G 3 (RQ M G (some (.ref r)) g1 1 400) 0 0 g 0 [(0, .ref p), (1, .ref (G.2.2.1 b0))] [] := by
  unfold j5_append_cf1ce at E
  refine r_aload_n X 1 dJ5_append_cf1ce_0 rfl rfl ?_
  refine r_ifnonnull1 X 9 dJ5_append_cf1ce_1 (by decide) ?_
  refine r_aload_n X 1 dJ5_append_cf1ce_9 rfl rfl ?_
  obtain ⟨x1, e2, E⟩ := gb_some E
  refine r_strLen X hl0 dJ5_append_cf1ce_10 m_J5_32 e2 (Nat.le_of_ble_eq_true rfl) (by decide) ?_
  refine r_istore_n X 2 (L1 := [(2, .int x1), (0, .ref p), (1, .ref (G.2.2.1 b0))]) dJ5_append_cf1ce_13 rfl (by decide) rfl ?_
  refine r_aload_n X 0 dJ5_append_cf1ce_14 rfl rfl ?_
  refine r_aload_n X 0 dJ5_append_cf1ce_15 rfl rfl ?_
  obtain ⟨x3, e4, E⟩ := gb_some E
  refine r_getI X dJ5_append_cf1ce_16 f_J5_79 e4 ?_
  refine r_iload_n X 2 dJ5_append_cf1ce_19 rfl rfl ?_
  refine r_iadd X dJ5_append_cf1ce_20 ?_
  obtain ⟨u8, e9, E⟩ := gb_some E
  obtain ⟨r5, g6, e7, E⟩ := cb_some E
  refine r_callU X hl0 (ci := 11) (rc := (RJ4, TJ4, 4)) dJ5_append_cf1ce_21 yu_J5_ensureCapacityInternal_d00df m_J5_100 rfl e9 (t_j5_ensureCapacityInternal_d00df (l := l) (G := G) e7) rfl rfl (Nat.le_of_ble_eq_true rfl) (by decide) ?_
  refine r_aload_n X 0 dJ5_append_cf1ce_24 rfl rfl ?_
  refine r_aload_n X 0 dJ5_append_cf1ce_25 rfl rfl ?_
  obtain ⟨x10, e11, E⟩ := gb_some E
  refine r_getI X dJ5_append_cf1ce_26 f_J5_79 e11 ?_
  refine r_aload_n X 1 dJ5_append_cf1ce_29 rfl rfl ?_
  obtain ⟨u15, e16, E⟩ := gb_some E
  obtain ⟨r12, g13, e14, E⟩ := cb_some E
  refine r_callU X hl0 (ci := 11) (rc := (RJ4, TJ4, 4)) dJ5_append_cf1ce_30 yu_J5_putStringAt_47b60 m_J5_208 rfl e16 (t_j5_putStringAt_47b60 (l := l) (G := G) e14) rfl rfl (Nat.le_of_ble_eq_true rfl) (by decide) ?_
  refine r_aload_n X 0 dJ5_append_cf1ce_33 rfl rfl ?_
  refine r_dup X dJ5_append_cf1ce_34 rfl ?_
  obtain ⟨x17, e18, E⟩ := gb_some E
  refine r_getI X dJ5_append_cf1ce_35 f_J5_79 e18 ?_
  refine r_iload_n X 2 dJ5_append_cf1ce_38 rfl rfl ?_
  refine r_iadd X dJ5_append_cf1ce_39 ?_
  obtain ⟨g19, e20, E⟩ := gb_some E
  refine r_put X dJ5_append_cf1ce_40 f_J5_79 rfl rfl e20 ?_
  refine r_aload_n X 0 dJ5_append_cf1ce_43 rfl rfl ?_
  cases E
  exact r_aret X hr (Or.inl ⟨_, rfl⟩) dJ5_append_cf1ce_44 (by decide) (by decide)
theorem t_j5_append_cf1ce {l : Launch} {G : GG} {p : Nat} {b0 : Nat} {g : AH} {r : Nat} {g1 : AH} (E : j5_append_cf1ce p b0 g = some (r, g1)) : Ct l G yJ5_append_cf1ce cJ5_append_cf1ce 3 (some (.object "java/lang/AbstractStringBuilder")) ⟨8, 1, 400, 245⟩ [.ref p, .ref (G.2.2.1 b0)] g (some (.ref r)) g1 :=
  ct_of9 (L0 := [(0, .ref p), (1, .ref (G.2.2.1 b0))]) (by decide +kernel) rfl (Nat.le_of_ble_eq_true rfl) fun M hl0 X hr hnm => t_j5_append_cf1ce_b X hl0 hr hnm E
set_option maxHeartbeats 4000000 in
set_option maxRecDepth 100000 in
theorem t_j4_append_15ec4_b {l : Launch} {G : GG} {M : MC} (X : CX M G cJ4_append_15ec4 2 RJ4 ⟨9, 1, 400, 267⟩) (hl0 : M.2.1 = l) (hr : (mM M).sig.returnType = (some (.object "java/lang/StringBuilder"))) (hnm : (mM M).name = yJ4_append_15ec4.name) {p : Nat} {b0 : Nat} {g : AH} {r : Nat} {g1 : AH} (E : j4_append_15ec4 p b0 g = some (r, g1)) : WW M G 2 (RQ M G (some (.ref r)) g1 1 400) 0 0 g 0 [(0, .ref p), (1, .ref (G.2.2.1 b0))] [] := by
  unfold j4_append_15ec4 at E
  refine r_aload_n X 0 dJ4_append_15ec4_0 rfl rfl ?_
  refine r_aload_n X 1 dJ4_append_15ec4_1 rfl rfl ?_
  obtain ⟨u4, e5, E⟩ := gb_some E
  obtain ⟨r1, g2, e3, E⟩ := cb_some E
  refine r_callSU X hl0 dJ4_append_15ec4_2 ys_J5_append_cf1ce m_J4_29 e5 (t_j5_append_cf1ce (l := l) (G := G) e3) rfl rfl (Nat.le_of_ble_eq_true rfl) (by decide) ?_
  refine r_pop X dJ4_append_15ec4_5 rfl ?_
  refine r_aload_n X 0 dJ4_append_15ec4_6 rfl rfl ?_
  cases E
  exact r_aret X hr (Or.inl ⟨_, rfl⟩) dJ4_append_15ec4_7 (by decide) (by decide)
theorem t_j4_append_15ec4 {l : Launch} {G : GG} {p : Nat} {b0 : Nat} {g : AH} {r : Nat} {g1 : AH} (E : j4_append_15ec4 p b0 g = some (r, g1)) : Ct l G yJ4_append_15ec4 cJ4_append_15ec4 2 (some (.object "java/lang/StringBuilder")) ⟨9, 1, 400, 267⟩ [.ref p, .ref (G.2.2.1 b0)] g (some (.ref r)) g1 :=
  ct_of (L0 := [(0, .ref p), (1, .ref (G.2.2.1 b0))]) y_J4_append_15ec4 rfl (Nat.le_of_ble_eq_true rfl) fun M hl0 X hr hnm => t_j4_append_15ec4_b X hl0 hr hnm E
set_option maxHeartbeats 4000000 in
set_option maxRecDepth 100000 in
theorem t_j4_append_cf1ce_b {l : Launch} {G : GG} {M : MC} (X : CX M G cJ4_append_cf1ce 2 RJ4 ⟨10, 1, 400, 288⟩) (hl0 : M.2.1 = l) (hr : (mM M).sig.returnType = (some (.object "java/lang/AbstractStringBuilder"))) (hnm : (mM M).name = yJ4_append_cf1ce.name) {p : Nat} {b0 : Nat} {g : AH} {r : Nat} {g1 : AH} (E : j4_append_cf1ce p b0 g = some (r, g1)) : WW M G 2 (RQ M G (some (.ref r)) g1 1 400) 0 0 g 0 [(0, .ref p), (1, .ref (G.2.2.1 b0))] [] := by
  unfold j4_append_cf1ce at E
  refine r_aload_n X 0 dJ4_append_cf1ce_0 rfl rfl ?_
  refine r_aload_n X 1 dJ4_append_cf1ce_1 rfl rfl ?_
  obtain ⟨u4, e5, E⟩ := gb_some E
  obtain ⟨r1, g2, e3, E⟩ := cb_some E
  refine r_callV X hl0 (ci := 11) dJ4_append_cf1ce_2 y_J4_append_15ec4 m_J4_23 rfl rfl e5 (t_j4_append_15ec4 (l := l) (G := G) e3) rfl rfl (Nat.le_of_ble_eq_true rfl) (by decide) ?_
  cases E
  exact r_aret X hr (Or.inl ⟨_, rfl⟩) dJ4_append_cf1ce_5 (by decide) (by decide)
theorem t_j4_append_cf1ce {l : Launch} {G : GG} {p : Nat} {b0 : Nat} {g : AH} {r : Nat} {g1 : AH} (E : j4_append_cf1ce p b0 g = some (r, g1)) : Ct l G yJ4_append_cf1ce cJ4_append_cf1ce 2 (some (.object "java/lang/AbstractStringBuilder")) ⟨10, 1, 400, 288⟩ [.ref p, .ref (G.2.2.1 b0)] g (some (.ref r)) g1 :=
  ct_of9 (L0 := [(0, .ref p), (1, .ref (G.2.2.1 b0))]) (by decide +kernel) rfl (Nat.le_of_ble_eq_true rfl) fun M hl0 X hr hnm => t_j4_append_cf1ce_b X hl0 hr hnm E
set_option maxHeartbeats 4000000 in
set_option maxRecDepth 100000 in
theorem t_j5_init_a7421_b {l : Launch} {G : GG} {M : MC} (X : CX M G cJ5_init_a7421 5 RJ5 ⟨11, 2, 800, 309⟩) (hl0 : M.2.1 = l) (hr : (mM M).sig.returnType = none) (hnm : (mM M).name = yJ5_init_a7421.name) {p : Nat} {b0 : Nat} {g : AH} {r : Unit} {g1 : AH} (E : j5_init_a7421 p b0 g = some (r, g1)) : WW M G 5 (RQ M G none g1 2 800) 0 0 g 0 [(0, .ref p), (1, .ref (G.2.2.1 b0))] [] := by
  unfold j5_init_a7421 at E
  refine r_aload_n X 0 dJ5_init_a7421_0 rfl rfl ?_
  refine r_objInit X dJ5_init_a7421_1 m_J5_3 (by decide) (Nat.le_of_ble_eq_true rfl) ?_
  refine r_aload_n X 1 dJ5_init_a7421_4 rfl rfl ?_
  obtain ⟨x1, e2, E⟩ := gb_some E
  refine r_strLen X hl0 dJ5_init_a7421_5 m_J5_32 e2 (Nat.le_of_ble_eq_true rfl) (by decide) ?_
  refine r_istore_n X 2 (L1 := [(2, .int x1), (0, .ref p), (1, .ref (G.2.2.1 b0))]) dJ5_init_a7421_8 rfl (by decide) rfl ?_
  refine r_iload_n X 2 dJ5_init_a7421_9 rfl rfl ?_
  refine r_ldcI X dJ5_init_a7421_10 q_J5_38 ?_
  refine r_icmp_ge X 22 dJ5_init_a7421_12 (by decide) (fun c3 => ?_) (fun c3 => ?_)
  · rw [if_pos c3] at E
    cases E
  · rw [if_neg c3] at E
    refine r_iload_n X 2 dJ5_init_a7421_15 rfl rfl ?_
    refine r_bipush X (v := 16) dJ5_init_a7421_16 (by decide) ?_
    refine r_iadd X dJ5_init_a7421_18 ?_
    refine r_goto X 24 dJ5_init_a7421_19 (by decide) ?_
    refine r_istore_n X 3 (L1 := [(3, .int (x1 + 16)), (2, .int x1), (0, .ref p), (1, .ref (G.2.2.1 b0))]) dJ5_init_a7421_24 rfl (by decide) rfl ?_
    refine r_aload_n X 1 dJ5_init_a7421_25 rfl rfl ?_
    by_cases c4 : b0 < nST
    rotate_left
    · rw [if_neg c4] at E; cases E
    rw [if_pos c4] at E
    refine r_callVs X hl0 dJ5_init_a7421_26 y_J0_coder_7d493 m_J5_40 c4 rfl (t_coder c4) rfl rfl (Nat.le_of_ble_eq_true rfl) (by decide) ?_
    refine r_istore X (L1 := [(4, .int 0), (3, .int (x1 + 16)), (2, .int x1), (0, .ref p), (1, .ref (G.2.2.1 b0))]) dJ5_init_a7421_29 (by decide) rfl ?_
    refine r_aload_n X 0 dJ5_init_a7421_31 rfl rfl ?_
    refine r_iload X dJ5_init_a7421_32 rfl ?_
    obtain ⟨g5, e6, E⟩ := gb_some E
    refine r_put X dJ5_init_a7421_34 f_J5_22 rfl rfl e6 ?_
    refine r_aload_n X 0 dJ5_init_a7421_37 rfl rfl ?_
    refine r_iload X dJ5_init_a7421_38 rfl ?_
    refine r_if_ne X 49 dJ5_init_a7421_40 (by decide) (fun c7 => ?_) (fun c7 => ?_)
    · rw [if_neg c7] at E
      cases E
    · rw [if_pos c7] at E
      refine r_iload_n X 3 dJ5_init_a7421_43 rfl rfl ?_
      by_cases c10 : 400 < ((x1 + 16)).toNatClampNeg
      · rw [if_pos c10] at E; cases E
      rw [if_neg c10] at E
      obtain ⟨x8, g9, e11, E⟩ := cb_some E
      refine r_newarr X 1 400 dJ5_init_a7421_44 (by decide) rfl a_byte (fun _ _ => rfl) (by decide) (Nat.not_lt.mp c10) (by decide) e11 ?_
      refine r_goto X 53 dJ5_init_a7421_46 (by decide) ?_
      obtain ⟨g12, e13, E⟩ := gb_some E
      refine r_put X dJ5_init_a7421_53 f_J5_15 rfl rfl e13 ?_
      refine r_aload_n X 0 dJ5_init_a7421_56 rfl rfl ?_
      refine r_aload_n X 1 dJ5_init_a7421_57 rfl rfl ?_
      obtain ⟨u17, e18, E⟩ := gb_some E
      obtain ⟨r14, g15, e16, E⟩ := cb_some E
      refine r_callO X hl0 (ci := 11) (rc := (RJ4, TJ4, 4)) dJ5_init_a7421_58 yo_J4_append_cf1ce m_J5_43 rfl e18 (t_j4_append_cf1ce (l := l) (G := G) e16) rfl rfl (Nat.le_of_ble_eq_true rfl) (by decide) ?_
      refine r_pop X dJ5_init_a7421_61 rfl ?_
      cases E
      exact r_vret X hr dJ5_init_a7421_62 (by decide) (by decide)
theorem t_j5_init_a7421 {l : Launch} {G : GG} {p : Nat} {b0 : Nat} {g : AH} {r : Unit} {g1 : AH} (E : j5_init_a7421 p b0 g = some (r, g1)) : Ct l G yJ5_init_a7421 cJ5_init_a7421 5 none ⟨11, 2, 800, 309⟩ [.ref p, .ref (G.2.2.1 b0)] g none g1 :=
  ct_of (L0 := [(0, .ref p), (1, .ref (G.2.2.1 b0))]) y_J5_init_a7421 rfl (Nat.le_of_ble_eq_true rfl) fun M hl0 X hr hnm => t_j5_init_a7421_b X hl0 hr hnm E
set_option maxHeartbeats 4000000 in
set_option maxRecDepth 100000 in
theorem t_j4_init_a7421_b {l : Launch} {G : GG} {M : MC} (X : CX M G cJ4_init_a7421 2 RJ4 ⟨12, 2, 800, 333⟩) (hl0 : M.2.1 = l) (hr : (mM M).sig.returnType = none) (hnm : (mM M).name = yJ4_init_a7421.name) {p : Nat} {b0 : Nat} {g : AH} {r : Unit} {g1 : AH} (E : j4_init_a7421 p b0 g = some (r, g1)) : WW M G 2 (RQ M G none g1 2 800) 0 0 g 0 [(0, .ref p), (1, .ref (G.2.2.1 b0))] [] := by
  unfold j4_init_a7421 at E
  refine r_aload_n X 0 dJ4_init_a7421_0 rfl rfl ?_
  refine r_aload_n X 1 dJ4_init_a7421_1 rfl rfl ?_
  obtain ⟨r1, g2, e3, E⟩ := cb_some E
  refine r_callI X hl0 dJ4_init_a7421_2 y_J5_init_a7421 m_J4_7 (t_j5_init_a7421 (l := l) (G := G) e3) rfl rfl (Nat.le_of_ble_eq_true rfl) (by decide) ?_
  cases E
  exact r_vret X hr dJ4_init_a7421_5 (by decide) (by decide)
theorem t_j4_init_a7421 {l : Launch} {G : GG} {p : Nat} {b0 : Nat} {g : AH} {r : Unit} {g1 : AH} (E : j4_init_a7421 p b0 g = some (r, g1)) : Ct l G yJ4_init_a7421 cJ4_init_a7421 2 none ⟨12, 2, 800, 333⟩ [.ref p, .ref (G.2.2.1 b0)] g none g1 :=
  ct_of (L0 := [(0, .ref p), (1, .ref (G.2.2.1 b0))]) y_J4_init_a7421 rfl (Nat.le_of_ble_eq_true rfl) fun M hl0 X hr hnm => t_j4_init_a7421_b X hl0 hr hnm E
set_option maxHeartbeats 4000000 in
set_option maxRecDepth 100000 in
theorem t_j6_stringSize_0f7a4_l16 {l : Launch} {G : GG} {M : MC} (X : CX M G cJ6_stringSize_0f7a4 4 RJ6 ⟨1, 0, 0, 60⟩) (hl0 : M.2.1 = l) (hr : (mM M).sig.returnType = (some .int)) (hnm : (mM M).name = yJ6_stringSize_0f7a4.name) {Q : State → Prop} {kc ks : Nat} {s9 : ((Int32 × Int32) ⊕ ((Unit) ⊕ Int32))} {g1 : AH} {a0 : Int32} {a1 : Int32} {s0 : Int32 × Int32} (hc : ∀ s1, s9 = .inl s1 → WW M G 4 Q kc ks g1 16 [(0, .int a0), (1, .int a1), (2, .int s1.1), (3, .int s1.2)] []) (hx : ∀ t, s9 = .inr t → Sum.elim (fun t1 => WW M G 4 Q kc ks g1 42 [(1, .int a1)] []) (fun t2 => ∃ mc ms : Nat, kc ≤ mc ∧ ks ≤ ms ∧ Q = RQ M G (some (.int t2)) g1 mc ms) t) {g : AH} (E : j6_stringSize_0f7a4_l16 a0 a1 s0 g = some (s9, g1)) : WW M G 4 Q kc ks g 16 [(0, .int a0), (1, .int a1), (2, .int s0.1), (3, .int s0.2)] [] := by
  unfold j6_stringSize_0f7a4_l16 at E
  refine r_iload_n X 3 dJ6_stringSize_0f7a4_16 rfl rfl ?_
  refine r_bipush X (v := 10) dJ6_stringSize_0f7a4_17 (by decide) ?_
  refine r_icmp_ge X 42 dJ6_stringSize_0f7a4_19 (by decide) (fun c1 => ?_) (fun c1 => ?_)
  · rw [if_pos c1] at E
    cases E
    exact r_pick (by rfl : lpick [(0, .int a0), (1, .int a1), (2, .int s0.1), (3, .int s0.2)] [1] = _) (hx _ rfl)
  · rw [if_neg c1] at E
    refine r_iload_n X 0 dJ6_stringSize_0f7a4_22 rfl rfl ?_
    refine r_iload_n X 2 dJ6_stringSize_0f7a4_23 rfl rfl ?_
    refine r_icmp_le X 31 dJ6_stringSize_0f7a4_24 (by decide) (fun c2 => ?_) (fun c2 => ?_)
    · rw [if_pos c2] at E
      refine r_bipush X (v := 10) dJ6_stringSize_0f7a4_31 (by decide) ?_
      refine r_iload_n X 2 dJ6_stringSize_0f7a4_33 rfl rfl ?_
      refine r_imul X dJ6_stringSize_0f7a4_34 ?_
      refine r_istore_n X 2 (L1 := [(2, .int (10 * s0.1)), (0, .int a0), (1, .int a1), (3, .int s0.2)]) dJ6_stringSize_0f7a4_35 rfl (by decide) rfl ?_
      refine r_iinc X (v := (s0.2 + 1)) (L1 := [(3, .int (s0.2 + 1)), (2, .int (10 * s0.1)), (0, .int a0), (1, .int a1)]) dJ6_stringSize_0f7a4_36 rfl rfl (by decide) rfl ?_
      refine r_goto X 16 dJ6_stringSize_0f7a4_39 (by decide) ?_
      cases E
      exact r_pick (by rfl : lpick [(3, .int (s0.2 + 1)), (2, .int (10 * s0.1)), (0, .int a0), (1, .int a1)] [2, 3, 1, 0] = _) (hc _ rfl)
    · rw [if_neg c2] at E
      refine r_iload_n X 3 dJ6_stringSize_0f7a4_27 rfl rfl ?_
      refine r_iload_n X 1 dJ6_stringSize_0f7a4_28 rfl rfl ?_
      refine r_iadd X dJ6_stringSize_0f7a4_29 ?_
      cases E
      obtain ⟨mc9, ms9, h91, h92, rfl⟩ := hx _ rfl
      exact r_iret X hr dJ6_stringSize_0f7a4_30 h91 h92
set_option maxHeartbeats 4000000 in
theorem t_j6_stringSize_0f7a4_l16_r {l : Launch} {G : GG} {M : MC} (X : CX M G cJ6_stringSize_0f7a4 4 RJ6 ⟨1, 0, 0, 60⟩) (hl0 : M.2.1 = l) (hr : (mM M).sig.returnType = (some .int)) (hnm : (mM M).name = yJ6_stringSize_0f7a4.name) {Q : State → Prop} {kc ks : Nat} {a0 : Int32} {a1 : Int32} : ∀ (n : Nat) (s0 : Int32 × Int32) (g : AH) (t : ((Unit) ⊕ Int32)) (g1 : AH), loopX (j6_stringSize_0f7a4_l16 a0 a1) n s0 g = some (t, g1) → Sum.elim (fun t1 => WW M G 4 Q kc ks g1 42 [(1, .int a1)] []) (fun t2 => ∃ mc ms : Nat, kc ≤ mc ∧ ks ≤ ms ∧ Q = RQ M G (some (.int t2)) g1 mc ms) t → WW M G 4 Q kc ks g 16 [(0, .int a0), (1, .int a1), (2, .int s0.1), (3, .int s0.2)] [] :=
  loop_cps (K := fun (t : ((Unit) ⊕ Int32)) g1 => Sum.elim (fun t1 => WW M G 4 Q kc ks g1 42 [(1, .int a1)] []) (fun t2 => ∃ mc ms : Nat, kc ≤ mc ∧ ks ≤ ms ∧ Q = RQ M G (some (.int t2)) g1 mc ms) t) (fun _ (s0 : Int32 × Int32) g => WW M G 4 Q kc ks g 16 [(0, .int a0), (1, .int a1), (2, .int s0.1), (3, .int s0.2)] []) (fun n s0 g st g1 E hc hx => t_j6_stringSize_0f7a4_l16 X hl0 hr hnm hc hx E)
set_option maxHeartbeats 4000000 in
set_option maxRecDepth 100000 in
theorem t_j6_stringSize_0f7a4_j11 {l : Launch} {G : GG} {M : MC} (X : CX M G cJ6_stringSize_0f7a4 4 RJ6 ⟨1, 0, 0, 60⟩) (hl0 : M.2.1 = l) (hr : (mM M).sig.returnType = (some .int)) (hnm : (mM M).name = yJ6_stringSize_0f7a4.name) {a0 : Int32} {a1 : Int32} {g : AH} {r : Int32} {g1 : AH} (E : j6_stringSize_0f7a4_j11 a0 a1 g = some (r, g1)) : WW M G 4 (RQ M G (some (.int r)) g1 0 0) 0 0 g 11 [(0, .int a0), (1, .int a1)] [] := by
  unfold j6_stringSize_0f7a4_j11 at E
  refine r_bipush X (v := (-10)) dJ6_stringSize_0f7a4_11 (by decide) ?_
  refine r_istore_n X 2 (L1 := [(2, .int (-10)), (0, .int a0), (1, .int a1)]) dJ6_stringSize_0f7a4_13 rfl (by decide) rfl ?_
  refine r_iconst X (v := 1) dJ6_stringSize_0f7a4_14 (by decide) ?_
  refine r_istore_n X 3 (L1 := [(3, .int 1), (2, .int (-10)), (0, .int a0), (1, .int a1)]) dJ6_stringSize_0f7a4_15 rfl (by decide) rfl ?_
  obtain ⟨t1, g2, e3, E⟩ := cb_some E
  rcases t1 with t4 | t5
  · rw [Sum.elim_inl] at E
    refine r_pick (by rfl : lpick [(3, .int 1), (2, .int (-10)), (0, .int a0), (1, .int a1)] [2, 3, 1, 0] = _) (t_j6_stringSize_0f7a4_l16_r X hl0 hr hnm _ _ _ _ _ e3 ?_)
    refine r_bipush X (v := 10) dJ6_stringSize_0f7a4_42 (by decide) ?_
    refine r_iload_n X 1 dJ6_stringSize_0f7a4_44 rfl rfl ?_
    refine r_iadd X dJ6_stringSize_0f7a4_45 ?_
    cases E
    exact r_iret X hr dJ6_stringSize_0f7a4_46 (by decide) (by decide)
  · rw [Sum.elim_inr] at E
    cases E
    exact r_pick (by rfl : lpick [(3, .int 1), (2, .int (-10)), (0, .int a0), (1, .int a1)] [2, 3, 1, 0] = _) (t_j6_stringSize_0f7a4_l16_r X hl0 hr hnm _ _ _ _ _ e3 ⟨_, _, by decide, by decide, rfl⟩)
set_option maxHeartbeats 4000000 in
set_option maxRecDepth 100000 in
theorem t_j6_stringSize_0f7a4_b {l : Launch} {G : GG} {M : MC} (X : CX M G cJ6_stringSize_0f7a4 4 RJ6 ⟨1, 0, 0, 60⟩) (hl0 : M.2.1 = l) (hr : (mM M).sig.returnType = (some .int)) (hnm : (mM M).name = yJ6_stringSize_0f7a4.name) {b0 : Int32} {g : AH} {r : Int32} {g1 : AH} (E : j6_stringSize_0f7a4 b0 g = some (r, g1)) : WW M G 4 (RQ M G (some (.int r)) g1 0 0) 0 0 g 0 [(0, .int b0)] [] := by
  unfold j6_stringSize_0f7a4 at E
  refine r_iconst X (v := 1) dJ6_stringSize_0f7a4_0 (by decide) ?_
  refine r_istore_n X 1 (L1 := [(1, .int 1), (0, .int b0)]) dJ6_stringSize_0f7a4_1 rfl (by decide) rfl ?_
  refine r_iload_n X 0 dJ6_stringSize_0f7a4_2 rfl rfl ?_
  refine r_if_lt X 11 dJ6_stringSize_0f7a4_3 (by decide) (fun c1 => ?_) (fun c1 => ?_)
  · rw [if_pos c1] at E
    exact r_pick (by rfl : lpick [(1, .int 1), (0, .int b0)] [1, 0] = _) (t_j6_stringSize_0f7a4_j11 X hl0 hr hnm E)
  · rw [if_neg c1] at E
    refine r_iconst X (v := 0) dJ6_stringSize_0f7a4_6 (by decide) ?_
    refine r_istore_n X 1 (L1 := [(1, .int 0), (0, .int b0)]) dJ6_stringSize_0f7a4_7 rfl (by decide) rfl ?_
    refine r_iload_n X 0 dJ6_stringSize_0f7a4_8 rfl rfl ?_
    refine r_ineg X dJ6_stringSize_0f7a4_9 ?_
    refine r_istore_n X 0 (L1 := [(0, .int (-b0)), (1, .int 0)]) dJ6_stringSize_0f7a4_10 rfl (by decide) rfl ?_
    exact r_pick (by rfl : lpick [(0, .int (-b0)), (1, .int 0)] [0, 1] = _) (t_j6_stringSize_0f7a4_j11 X hl0 hr hnm E)
theorem t_j6_stringSize_0f7a4 {l : Launch} {G : GG} {b0 : Int32} {g : AH} {r : Int32} {g1 : AH} (E : j6_stringSize_0f7a4 b0 g = some (r, g1)) : Ct l G yJ6_stringSize_0f7a4 cJ6_stringSize_0f7a4 4 (some .int) ⟨1, 0, 0, 60⟩ [.int b0] g (some (.int r)) g1 :=
  ct_of (L0 := [(0, .int b0)]) y_J6_stringSize_0f7a4 rfl (Nat.le_of_ble_eq_true rfl) fun M hl0 X hr hnm => t_j6_stringSize_0f7a4_b X hl0 hr hnm E
set_option maxHeartbeats 4000000 in
set_option maxRecDepth 100000 in
theorem t_j5_isLatin1_aae02_b {l : Launch} {G : GG} {M : MC} (X : CX M G cJ5_isLatin1_aae02 1 RJ5 ⟨1, 0, 0, 60⟩) (hl0 : M.2.1 = l) (hr : (mM M).sig.returnType = (some .boolean)) (hnm : (mM M).name = yJ5_isLatin1_aae02.name) {p : Nat} {g : AH} {r : Int32} {g1 : AH} (E : j5_isLatin1_aae02 p g = some (r, g1)) : WW M G 1 (RQ M G (some (.int r)) g1 0 0) 0 0 g 0 [(0, .ref p)] [] := by
  unfold j5_isLatin1_aae02 at E
  refine r_gets0 X dJ5_isLatin1_aae02_0 g_J5_18 X.2.2.2.2.1.2.2.2.2.2.1.1 ?_
  refine r_if_eq X 17 dJ5_isLatin1_aae02_3 (by decide) (fun c1 => ?_) (fun c1 => ?_)
  · rw [if_pos c1] at E
    refine r_iconst X (v := 0) dJ5_isLatin1_aae02_17 (by decide) ?_
    cases E
    exact r_zret X hr (Or.inl rfl) dJ5_isLatin1_aae02_18 (by decide) (by decide)
  · rw [if_neg c1] at E
    refine r_aload_n X 0 dJ5_isLatin1_aae02_6 rfl rfl ?_
    obtain ⟨x2, e3, E⟩ := gb_some E
    refine r_getI X dJ5_isLatin1_aae02_7 f_J5_22 e3 ?_
    refine r_if_ne X 17 dJ5_isLatin1_aae02_10 (by decide) (fun c4 => ?_) (fun c4 => ?_)
    · rw [if_neg c4] at E
      refine r_iconst X (v := 0) dJ5_isLatin1_aae02_17 (by decide) ?_
      cases E
      exact r_zret X hr (Or.inl rfl) dJ5_isLatin1_aae02_18 (by decide) (by decide)
    · rw [if_pos c4] at E
      refine r_iconst X (v := 1) dJ5_isLatin1_aae02_13 (by decide) ?_
      refine r_goto X 18 dJ5_isLatin1_aae02_14 (by decide) ?_
      cases E
      exact r_zret X hr (Or.inr rfl) dJ5_isLatin1_aae02_18 (by decide) (by decide)
theorem t_j5_isLatin1_aae02 {l : Launch} {G : GG} {p : Nat} {g : AH} {r : Int32} {g1 : AH} (E : j5_isLatin1_aae02 p g = some (r, g1)) : Ct l G yJ5_isLatin1_aae02 cJ5_isLatin1_aae02 1 (some .boolean) ⟨1, 0, 0, 60⟩ [.ref p] g (some (.int r)) g1 :=
  ct_of9 (L0 := [(0, .ref p)]) (by decide +kernel) rfl (Nat.le_of_ble_eq_true rfl) fun M hl0 X hr hnm => t_j5_isLatin1_aae02_b X hl0 hr hnm E
set_option maxHeartbeats 4000000 in
set_option maxRecDepth 100000 in
theorem t_j6_getChars_ba4f3_l22 {l : Launch} {G : GG} {M : MC} (X : CX M G cJ6_getChars_ba4f3 7 RJ6 ⟨1, 0, 0, 60⟩) (hl0 : M.2.1 = l) (hr : (mM M).sig.returnType = (some .int)) (hnm : (mM M).name = yJ6_getChars_ba4f3.name) {Q : State → Prop} {kc ks : Nat} {s9 : ((Int32 × Int32) ⊕ (Int32 × Int32))} {g1 : AH} {a2 : Nat} {a6 : Int32} {s0 : Int32 × Int32} (hc : ∀ s1, s9 = .inl s1 → WW M G 7 Q kc ks g1 22 [(0, .int s1.1), (2, .ref a2), (5, .int s1.2), (6, .int a6)] []) (hx : ∀ t, s9 = .inr t → WW M G 7 Q kc ks g1 72 [(0, .int t.1), (2, .ref a2), (5, .int t.2), (6, .int a6)] []) {g : AH} (E : j6_getChars_ba4f3_l22 a2 a6 s0 g = some (s9, g1)) : WW M G 7 Q kc ks g 22 [(0, .int s0.1), (2, .ref a2), (5, .int s0.2), (6, .int a6)] [] := by
  unfold j6_getChars_ba4f3_l22 at E
  refine r_iload_n X 0 dJ6_getChars_ba4f3_22 rfl rfl ?_
  refine r_bipush X (v := (-100)) dJ6_getChars_ba4f3_23 (by decide) ?_
  refine r_icmp_gt X 72 dJ6_getChars_ba4f3_25 (by decide) (fun c1 => ?_) (fun c1 => ?_)
  · rw [if_pos c1] at E
    cases E
    exact r_pick (by rfl : lpick [(0, .int s0.1), (2, .ref a2), (5, .int s0.2), (6, .int a6)] [0, 1, 2, 3] = _) (hx _ rfl)
  · rw [if_neg c1] at E
    refine r_iload_n X 0 dJ6_getChars_ba4f3_28 rfl rfl ?_
    refine r_bipush X (v := 100) dJ6_getChars_ba4f3_29 (by decide) ?_
    refine r_idiv X dJ6_getChars_ba4f3_31 (by decide) ?_
    refine r_istore_n X 3 (L1 := [(3, .int (s0.1 / 100)), (0, .int s0.1), (2, .ref a2), (5, .int s0.2), (6, .int a6)]) dJ6_getChars_ba4f3_32 rfl (by decide) rfl ?_
    refine r_iload_n X 3 dJ6_getChars_ba4f3_33 rfl rfl ?_
    refine r_bipush X (v := 100) dJ6_getChars_ba4f3_34 (by decide) ?_
    refine r_imul X dJ6_getChars_ba4f3_36 ?_
    refine r_iload_n X 0 dJ6_getChars_ba4f3_37 rfl rfl ?_
    refine r_isub X dJ6_getChars_ba4f3_38 ?_
    refine r_istore X (L1 := [(4, .int (((s0.1 / 100) * 100) - s0.1)), (3, .int (s0.1 / 100)), (0, .int s0.1), (2, .ref a2), (5, .int s0.2), (6, .int a6)]) dJ6_getChars_ba4f3_39 (by decide) rfl ?_
    refine r_iload_n X 3 dJ6_getChars_ba4f3_41 rfl rfl ?_
    refine r_istore_n X 0 (L1 := [(0, .int (s0.1 / 100)), (4, .int (((s0.1 / 100) * 100) - s0.1)), (3, .int (s0.1 / 100)), (2, .ref a2), (5, .int s0.2), (6, .int a6)]) dJ6_getChars_ba4f3_42 rfl (by decide) rfl ?_
    refine r_aload_n X 2 dJ6_getChars_ba4f3_43 rfl rfl ?_
    refine r_iinc X (v := (s0.2 + (-1))) (L1 := [(5, .int (s0.2 + (-1))), (0, .int (s0.1 / 100)), (4, .int (((s0.1 / 100) * 100) - s0.1)), (3, .int (s0.1 / 100)), (2, .ref a2), (6, .int a6)]) dJ6_getChars_ba4f3_44 rfl rfl (by decide) rfl ?_
    refine r_iload X dJ6_getChars_ba4f3_47 rfl ?_
    refine r_gets0 X dJ6_getChars_ba4f3_49 g_J6_83 X.sx.2.2.2.2.1.1 ?_
    refine r_iload X dJ6_getChars_ba4f3_52 rfl ?_
    obtain ⟨x3, e4, E⟩ := gb_some E
    refine r_digB X (k := 0) (by decide) dJ6_getChars_ba4f3_54 e4 ?_
    obtain ⟨g5, e6, E⟩ := gb_some E
    refine r_bast X dJ6_getChars_ba4f3_55 e6 ?_
    refine r_aload_n X 2 dJ6_getChars_ba4f3_56 rfl rfl ?_
    refine r_iinc X (v := ((s0.2 + (-1)) + (-1))) (L1 := [(5, .int ((s0.2 + (-1)) + (-1))), (0, .int (s0.1 / 100)), (4, .int (((s0.1 / 100) * 100) - s0.1)), (3, .int (s0.1 / 100)), (2, .ref a2), (6, .int a6)]) dJ6_getChars_ba4f3_57 rfl rfl (by decide) rfl ?_
    refine r_iload X dJ6_getChars_ba4f3_60 rfl ?_
    refine r_gets0 X dJ6_getChars_ba4f3_62 g_J6_87 X.sx.2.2.2.2.2.1.1 ?_
    refine r_iload X dJ6_getChars_ba4f3_65 rfl ?_
    obtain ⟨x7, e8, E⟩ := gb_some E
    refine r_digB X (k := 1) (by decide) dJ6_getChars_ba4f3_67 e8 ?_
    obtain ⟨g9, e10, E⟩ := gb_some E
    refine r_bast X dJ6_getChars_ba4f3_68 e10 ?_
    refine r_goto X 22 dJ6_getChars_ba4f3_69 (by decide) ?_
    cases E
    exact r_pick (by rfl : lpick [(5, .int ((s0.2 + (-1)) + (-1))), (0, .int (s0.1 / 100)), (4, .int (((s0.1 / 100) * 100) - s0.1)), (3, .int (s0.1 / 100)), (2, .ref a2), (6, .int a6)] [1, 4, 0, 5] = _) (hc _ rfl)
set_option maxHeartbeats 4000000 in
theorem t_j6_getChars_ba4f3_l22_r {l : Launch} {G : GG} {M : MC} (X : CX M G cJ6_getChars_ba4f3 7 RJ6 ⟨1, 0, 0, 60⟩) (hl0 : M.2.1 = l) (hr : (mM M).sig.returnType = (some .int)) (hnm : (mM M).name = yJ6_getChars_ba4f3.name) {Q : State → Prop} {kc ks : Nat} {a2 : Nat} {a6 : Int32} : ∀ (n : Nat) (s0 : Int32 × Int32) (g : AH) (t : (Int32 × Int32)) (g1 : AH), loopX (j6_getChars_ba4f3_l22 a2 a6) n s0 g = some (t, g1) → WW M G 7 Q kc ks g1 72 [(0, .int t.1), (2, .ref a2), (5, .int t.2), (6, .int a6)] [] → WW M G 7 Q kc ks g 22 [(0, .int s0.1), (2, .ref a2), (5, .int s0.2), (6, .int a6)] [] :=
  loop_cps (K := fun (t : (Int32 × Int32)) g1 => WW M G 7 Q kc ks g1 72 [(0, .int t.1), (2, .ref a2), (5, .int t.2), (6, .int a6)] []) (fun _ (s0 : Int32 × Int32) g => WW M G 7 Q kc ks g 22 [(0, .int s0.1), (2, .ref a2), (5, .int s0.2), (6, .int a6)] []) (fun n s0 g st g1 E hc hx => t_j6_getChars_ba4f3_l22 X hl0 hr hnm hc hx E)
set_option maxHeartbeats 4000000 in
set_option maxRecDepth 100000 in
theorem t_j6_getChars_ba4f3_j104 {l : Launch} {G : GG} {M : MC} (X : CX M G cJ6_getChars_ba4f3 7 RJ6 ⟨1, 0, 0, 60⟩) (hl0 : M.2.1 = l) (hr : (mM M).sig.returnType = (some .int)) (hnm : (mM M).name = yJ6_getChars_ba4f3.name) {a2 : Nat} {a5 : Int32} {a6 : Int32} {g : AH} {r : Int32} {g1 : AH} (E : j6_getChars_ba4f3_j104 a2 a5 a6 g = some (r, g1)) : WW M G 7 (RQ M G (some (.int r)) g1 0 0) 0 0 g 104 [(2, .ref a2), (5, .int a5), (6, .int a6)] [] := by
  unfold j6_getChars_ba4f3_j104 at E
  refine r_iload X dJ6_getChars_ba4f3_104 rfl ?_
  refine r_if_eq X 118 dJ6_getChars_ba4f3_106 (by decide) (fun c1 => ?_) (fun c1 => ?_)
  · rw [if_pos c1] at E
    refine r_iload X dJ6_getChars_ba4f3_118 rfl ?_
    cases E
    exact r_iret X hr dJ6_getChars_ba4f3_120 (by decide) (by decide)
  · rw [if_neg c1] at E
    cases E
set_option maxHeartbeats 4000000 in
set_option maxRecDepth 100000 in
theorem t_j6_getChars_ba4f3_b {l : Launch} {G : GG} {M : MC} (X : CX M G cJ6_getChars_ba4f3 7 RJ6 ⟨1, 0, 0, 60⟩) (hl0 : M.2.1 = l) (hr : (mM M).sig.returnType = (some .int)) (hnm : (mM M).name = yJ6_getChars_ba4f3.name) {b0 : Int32} {b1 : Int32} {b2 : Nat} {g : AH} {r : Int32} {g1 : AH} (E : j6_getChars_ba4f3 b0 b1 b2 g = some (r, g1)) : WW M G 7 (RQ M G (some (.int r)) g1 0 0) 0 0 g 0 [(0, .int b0), (1, .int b1), (2, .ref b2)] [] := by
  unfold j6_getChars_ba4f3 at E
  refine r_iload_n X 1 dJ6_getChars_ba4f3_0 rfl rfl ?_
  refine r_istore X (L1 := [(5, .int b1), (0, .int b0), (1, .int b1), (2, .ref b2)]) dJ6_getChars_ba4f3_1 (by decide) rfl ?_
  refine r_iload_n X 0 dJ6_getChars_ba4f3_3 rfl rfl ?_
  refine r_if_ge X 11 dJ6_getChars_ba4f3_4 (by decide) (fun c1 => ?_) (fun c1 => ?_)
  · rw [if_pos c1] at E
    refine r_iconst X (v := 0) dJ6_getChars_ba4f3_11 (by decide) ?_
    refine r_istore X (L1 := [(6, .int 0), (5, .int b1), (0, .int b0), (1, .int b1), (2, .ref b2)]) dJ6_getChars_ba4f3_12 (by decide) rfl ?_
    refine r_iload X dJ6_getChars_ba4f3_14 rfl ?_
    refine r_if_ne X 22 dJ6_getChars_ba4f3_16 (by decide) (fun c2 => ?_) (fun c2 => ?_)
    · rw [if_neg c2] at E
      obtain ⟨t3, g4, e5, E⟩ := cb_some E
      refine r_pick (by rfl : lpick [(6, .int 0), (5, .int b1), (0, .int b0), (1, .int b1), (2, .ref b2)] [2, 4, 1, 0] = _) (t_j6_getChars_ba4f3_l22_r X hl0 hr hnm _ _ _ _ _ e5 ?_)
      refine r_aload_n X 2 dJ6_getChars_ba4f3_72 rfl rfl ?_
      refine r_iinc X (v := (t3.2 + (-1))) (L1 := [(5, .int (t3.2 + (-1))), (0, .int t3.1), (2, .ref b2), (6, .int 0)]) dJ6_getChars_ba4f3_73 rfl rfl (by decide) rfl ?_
      refine r_iload X dJ6_getChars_ba4f3_76 rfl ?_
      refine r_gets0 X dJ6_getChars_ba4f3_78 g_J6_83 X.sx.2.2.2.2.1.1 ?_
      refine r_iload_n X 0 dJ6_getChars_ba4f3_81 rfl rfl ?_
      refine r_ineg X dJ6_getChars_ba4f3_82 ?_
      obtain ⟨x6, e7, E⟩ := gb_some E
      refine r_digB X (k := 0) (by decide) dJ6_getChars_ba4f3_83 e7 ?_
      obtain ⟨g8, e9, E⟩ := gb_some E
      refine r_bast X dJ6_getChars_ba4f3_84 e9 ?_
      refine r_iload_n X 0 dJ6_getChars_ba4f3_85 rfl rfl ?_
      refine r_bipush X (v := (-9)) dJ6_getChars_ba4f3_86 (by decide) ?_
      refine r_icmp_ge X 104 dJ6_getChars_ba4f3_88 (by decide) (fun c10 => ?_) (fun c10 => ?_)
      · rw [if_pos c10] at E
        exact r_pick (by rfl : lpick [(5, .int (t3.2 + (-1))), (0, .int t3.1), (2, .ref b2), (6, .int 0)] [2, 0, 3] = _) (t_j6_getChars_ba4f3_j104 X hl0 hr hnm E)
      · rw [if_neg c10] at E
        refine r_aload_n X 2 dJ6_getChars_ba4f3_91 rfl rfl ?_
        refine r_iinc X (v := ((t3.2 + (-1)) + (-1))) (L1 := [(5, .int ((t3.2 + (-1)) + (-1))), (0, .int t3.1), (2, .ref b2), (6, .int 0)]) dJ6_getChars_ba4f3_92 rfl rfl (by decide) rfl ?_
        refine r_iload X dJ6_getChars_ba4f3_95 rfl ?_
        refine r_gets0 X dJ6_getChars_ba4f3_97 g_J6_87 X.sx.2.2.2.2.2.1.1 ?_
        refine r_iload_n X 0 dJ6_getChars_ba4f3_100 rfl rfl ?_
        refine r_ineg X dJ6_getChars_ba4f3_101 ?_
        obtain ⟨x11, e12, E⟩ := gb_some E
        refine r_digB X (k := 1) (by decide) dJ6_getChars_ba4f3_102 e12 ?_
        obtain ⟨g13, e14, E⟩ := gb_some E
        refine r_bast X dJ6_getChars_ba4f3_103 e14 ?_
        exact r_pick (by rfl : lpick [(5, .int ((t3.2 + (-1)) + (-1))), (0, .int t3.1), (2, .ref b2), (6, .int 0)] [2, 0, 3] = _) (t_j6_getChars_ba4f3_j104 X hl0 hr hnm E)
    · rw [if_pos c2] at E
      refine r_iload_n X 0 dJ6_getChars_ba4f3_19 rfl rfl ?_
      refine r_ineg X dJ6_getChars_ba4f3_20 ?_
      refine r_istore_n X 0 (L1 := [(0, .int (-b0)), (6, .int 0), (5, .int b1), (1, .int b1), (2, .ref b2)]) dJ6_getChars_ba4f3_21 rfl (by decide) rfl ?_
      obtain ⟨t15, g16, e17, E⟩ := cb_some E
      refine r_pick (by rfl : lpick [(0, .int (-b0)), (6, .int 0), (5, .int b1), (1, .int b1), (2, .ref b2)] [0, 4, 2, 1] = _) (t_j6_getChars_ba4f3_l22_r X hl0 hr hnm _ _ _ _ _ e17 ?_)
      refine r_aload_n X 2 dJ6_getChars_ba4f3_72 rfl rfl ?_
      refine r_iinc X (v := (t15.2 + (-1))) (L1 := [(5, .int (t15.2 + (-1))), (0, .int t15.1), (2, .ref b2), (6, .int 0)]) dJ6_getChars_ba4f3_73 rfl rfl (by decide) rfl ?_
      refine r_iload X dJ6_getChars_ba4f3_76 rfl ?_
      refine r_gets0 X dJ6_getChars_ba4f3_78 g_J6_83 X.sx.2.2.2.2.1.1 ?_
      refine r_iload_n X 0 dJ6_getChars_ba4f3_81 rfl rfl ?_
      refine r_ineg X dJ6_getChars_ba4f3_82 ?_
      obtain ⟨x18, e19, E⟩ := gb_some E
      refine r_digB X (k := 0) (by decide) dJ6_getChars_ba4f3_83 e19 ?_
      obtain ⟨g20, e21, E⟩ := gb_some E
      refine r_bast X dJ6_getChars_ba4f3_84 e21 ?_
      refine r_iload_n X 0 dJ6_getChars_ba4f3_85 rfl rfl ?_
      refine r_bipush X (v := (-9)) dJ6_getChars_ba4f3_86 (by decide) ?_
      refine r_icmp_ge X 104 dJ6_getChars_ba4f3_88 (by decide) (fun c22 => ?_) (fun c22 => ?_)
      · rw [if_pos c22] at E
        exact r_pick (by rfl : lpick [(5, .int (t15.2 + (-1))), (0, .int t15.1), (2, .ref b2), (6, .int 0)] [2, 0, 3] = _) (t_j6_getChars_ba4f3_j104 X hl0 hr hnm E)
      · rw [if_neg c22] at E
        refine r_aload_n X 2 dJ6_getChars_ba4f3_91 rfl rfl ?_
        refine r_iinc X (v := ((t15.2 + (-1)) + (-1))) (L1 := [(5, .int ((t15.2 + (-1)) + (-1))), (0, .int t15.1), (2, .ref b2), (6, .int 0)]) dJ6_getChars_ba4f3_92 rfl rfl (by decide) rfl ?_
        refine r_iload X dJ6_getChars_ba4f3_95 rfl ?_
        refine r_gets0 X dJ6_getChars_ba4f3_97 g_J6_87 X.sx.2.2.2.2.2.1.1 ?_
        refine r_iload_n X 0 dJ6_getChars_ba4f3_100 rfl rfl ?_
        refine r_ineg X dJ6_getChars_ba4f3_101 ?_
        obtain ⟨x23, e24, E⟩ := gb_some E
        refine r_digB X (k := 1) (by decide) dJ6_getChars_ba4f3_102 e24 ?_
        obtain ⟨g25, e26, E⟩ := gb_some E
        refine r_bast X dJ6_getChars_ba4f3_103 e26 ?_
        exact r_pick (by rfl : lpick [(5, .int ((t15.2 + (-1)) + (-1))), (0, .int t15.1), (2, .ref b2), (6, .int 0)] [2, 0, 3] = _) (t_j6_getChars_ba4f3_j104 X hl0 hr hnm E)
  · rw [if_neg c1] at E
    cases E
theorem t_j6_getChars_ba4f3 {l : Launch} {G : GG} {b0 : Int32} {b1 : Int32} {b2 : Nat} {g : AH} {r : Int32} {g1 : AH} (E : j6_getChars_ba4f3 b0 b1 b2 g = some (r, g1)) : Ct l G yJ6_getChars_ba4f3 cJ6_getChars_ba4f3 7 (some .int) ⟨1, 0, 0, 60⟩ [.int b0, .int b1, .ref b2] g (some (.int r)) g1 :=
  ct_of (L0 := [(0, .int b0), (1, .int b1), (2, .ref b2)]) y_J6_getChars_ba4f3 rfl (Nat.le_of_ble_eq_true rfl) fun M hl0 X hr hnm => t_j6_getChars_ba4f3_b X hl0 hr hnm E
set_option maxHeartbeats 4000000 in
set_option maxRecDepth 100000 in
theorem t_j5_append_c97b9_b {l : Launch} {G : GG} {M : MC} (X : CX M G cJ5_append_c97b9 4 RJ5 ⟨6, 1, 400, 220⟩) (hl0 : M.2.1 = l) (hr : (mM M).sig.returnType = (some (.object "java/lang/AbstractStringBuilder"))) (hnm : (mM M).name = yJ5_append_c97b9.name) {p : Nat} {b0 : Int32} {g : AH} {r : Nat} {g1 : AH} (E : j5_append_c97b9 p b0 g = some (r, g1)) : WW M G 4 (RQ M G (some (.ref r)) g1 1 400) 0 0 g 0 [(0, .ref p), (1, .int b0)] [] := by
  unfold j5_append_c97b9 at E
  refine r_aload_n X 0 dJ5_append_c97b9_0 rfl rfl ?_
  obtain ⟨x1, e2, E⟩ := gb_some E
  refine r_getI X dJ5_append_c97b9_1 f_J5_79 e2 ?_
  refine r_istore_n X 2 (L1 := [(2, .int x1), (0, .ref p), (1, .int b0)]) dJ5_append_c97b9_4 rfl (by decide) rfl ?_
  refine r_iload_n X 2 dJ5_append_c97b9_5 rfl rfl ?_
  refine r_iload_n X 1 dJ5_append_c97b9_6 rfl rfl ?_
  obtain ⟨r3, g4, e5, E⟩ := cb_some E
  refine r_callS0 X hl0 dJ5_append_c97b9_7 y_J6_stringSize_0f7a4 m_J5_245 (t_j6_stringSize_0f7a4 (l := l) (G := G) e5) rfl rfl (Nat.le_of_ble_eq_true rfl) (by decide) ?_
  refine r_iadd X dJ5_append_c97b9_10 ?_
  refine r_istore_n X 3 (L1 := [(3, .int (x1 + r3)), (2, .int x1), (0, .ref p), (1, .int b0)]) dJ5_append_c97b9_11 rfl (by decide) rfl ?_
  refine r_aload_n X 0 dJ5_append_c97b9_12 rfl rfl ?_
  refine r_iload_n X 3 dJ5_append_c97b9_13 rfl rfl ?_
  obtain ⟨u9, e10, E⟩ := gb_some E
  obtain ⟨r6, g7, e8, E⟩ := cb_some E
  refine r_callU X hl0 (ci := 11) (rc := (RJ4, TJ4, 4)) dJ5_append_c97b9_14 yu_J5_ensureCapacityInternal_d00df m_J5_100 rfl e10 (t_j5_ensureCapacityInternal_d00df (l := l) (G := G) e8) rfl rfl (Nat.le_of_ble_eq_true rfl) (by decide) ?_
  refine r_aload_n X 0 dJ5_append_c97b9_17 rfl rfl ?_
  obtain ⟨u14, e15, E⟩ := gb_some E
  obtain ⟨r11, g12, e13, E⟩ := cb_some E
  refine r_callU X hl0 (ci := 11) (rc := (RJ4, TJ4, 4)) dJ5_append_c97b9_18 yu_J5_isLatin1_aae02 m_J5_83 rfl e15 (t_j5_isLatin1_aae02 (l := l) (G := G) e13) rfl rfl (Nat.le_of_ble_eq_true rfl) (by decide) ?_
  refine r_if_eq X 37 dJ5_append_c97b9_21 (by decide) (fun c16 => ?_) (fun c16 => ?_)
  · rw [if_pos c16] at E
    cases E
  · rw [if_neg c16] at E
    refine r_iload_n X 1 dJ5_append_c97b9_24 rfl rfl ?_
    refine r_iload_n X 3 dJ5_append_c97b9_25 rfl rfl ?_
    refine r_aload_n X 0 dJ5_append_c97b9_26 rfl rfl ?_
    obtain ⟨x17, e18, E⟩ := gb_some E
    refine r_getR X dJ5_append_c97b9_27 f_J5_15 e18 ?_
    obtain ⟨r19, g20, e21, E⟩ := cb_some E
    refine r_callS0 X hl0 dJ5_append_c97b9_30 y_J6_getChars_ba4f3 m_J5_248 (t_j6_getChars_ba4f3 (l := l) (G := G) e21) rfl rfl (Nat.le_of_ble_eq_true rfl) (by decide) ?_
    refine r_pop X dJ5_append_c97b9_33 rfl ?_
    refine r_goto X 48 dJ5_append_c97b9_34 (by decide) ?_
    refine r_aload_n X 0 dJ5_append_c97b9_48 rfl rfl ?_
    refine r_iload_n X 3 dJ5_append_c97b9_49 rfl rfl ?_
    obtain ⟨g22, e23, E⟩ := gb_some E
    refine r_put X dJ5_append_c97b9_50 f_J5_79 rfl rfl e23 ?_
    refine r_aload_n X 0 dJ5_append_c97b9_53 rfl rfl ?_
    cases E
    exact r_aret X hr (Or.inl ⟨_, rfl⟩) dJ5_append_c97b9_54 (by decide) (by decide)
theorem t_j5_append_c97b9 {l : Launch} {G : GG} {p : Nat} {b0 : Int32} {g : AH} {r : Nat} {g1 : AH} (E : j5_append_c97b9 p b0 g = some (r, g1)) : Ct l G yJ5_append_c97b9 cJ5_append_c97b9 4 (some (.object "java/lang/AbstractStringBuilder")) ⟨6, 1, 400, 220⟩ [.ref p, .int b0] g (some (.ref r)) g1 :=
  ct_of9 (L0 := [(0, .ref p), (1, .int b0)]) (by decide +kernel) rfl (Nat.le_of_ble_eq_true rfl) fun M hl0 X hr hnm => t_j5_append_c97b9_b X hl0 hr hnm E
set_option maxHeartbeats 4000000 in
set_option maxRecDepth 100000 in
theorem t_j4_append_bf812_b {l : Launch} {G : GG} {M : MC} (X : CX M G cJ4_append_bf812 2 RJ4 ⟨7, 1, 400, 243⟩) (hl0 : M.2.1 = l) (hr : (mM M).sig.returnType = (some (.object "java/lang/StringBuilder"))) (hnm : (mM M).name = yJ4_append_bf812.name) {p : Nat} {b0 : Int32} {g : AH} {r : Nat} {g1 : AH} (E : j4_append_bf812 p b0 g = some (r, g1)) : WW M G 2 (RQ M G (some (.ref r)) g1 1 400) 0 0 g 0 [(0, .ref p), (1, .int b0)] [] := by
  unfold j4_append_bf812 at E
  refine r_aload_n X 0 dJ4_append_bf812_0 rfl rfl ?_
  refine r_iload_n X 1 dJ4_append_bf812_1 rfl rfl ?_
  obtain ⟨u4, e5, E⟩ := gb_some E
  obtain ⟨r1, g2, e3, E⟩ := cb_some E
  refine r_callSU X hl0 dJ4_append_bf812_2 ys_J5_append_c97b9 m_J4_53 e5 (t_j5_append_c97b9 (l := l) (G := G) e3) rfl rfl (Nat.le_of_ble_eq_true rfl) (by decide) ?_
  refine r_pop X dJ4_append_bf812_5 rfl ?_
  refine r_aload_n X 0 dJ4_append_bf812_6 rfl rfl ?_
  cases E
  exact r_aret X hr (Or.inl ⟨_, rfl⟩) dJ4_append_bf812_7 (by decide) (by decide)
theorem t_j4_append_bf812 {l : Launch} {G : GG} {p : Nat} {b0 : Int32} {g : AH} {r : Nat} {g1 : AH} (E : j4_append_bf812 p b0 g = some (r, g1)) : Ct l G yJ4_append_bf812 cJ4_append_bf812 2 (some (.object "java/lang/StringBuilder")) ⟨7, 1, 400, 243⟩ [.ref p, .int b0] g (some (.ref r)) g1 :=
  ct_of (L0 := [(0, .ref p), (1, .int b0)]) y_J4_append_bf812 rfl (Nat.le_of_ble_eq_true rfl) fun M hl0 X hr hnm => t_j4_append_bf812_b X hl0 hr hnm E
set_option maxHeartbeats 4000000 in
set_option maxRecDepth 100000 in
theorem t_j1_canEncode_fc78d_b {l : Launch} {G : GG} {M : MC} (X : CX M G cJ1_canEncode_fc78d 1 RJ1 ⟨1, 0, 0, 60⟩) (hl0 : M.2.1 = l) (hr : (mM M).sig.returnType = (some .boolean)) (hnm : (mM M).name = yJ1_canEncode_fc78d.name) {b0 : Int32} {g : AH} {r : Int32} {g1 : AH} (E : j1_canEncode_fc78d b0 g = some (r, g1)) : WW M G 1 (RQ M G (some (.int r)) g1 0 0) 0 0 g 0 [(0, .int b0)] [] := by
  unfold j1_canEncode_fc78d at E
  refine r_iload_n X 0 dJ1_canEncode_fc78d_0 rfl rfl ?_
  refine r_sipush X (v := 255) dJ1_canEncode_fc78d_1 (by decide) ?_
  refine r_icmp_gt X 11 dJ1_canEncode_fc78d_4 (by decide) (fun c1 => ?_) (fun c1 => ?_)
  · rw [if_pos c1] at E
    refine r_iconst X (v := 0) dJ1_canEncode_fc78d_11 (by decide) ?_
    cases E
    exact r_zret X hr (Or.inl rfl) dJ1_canEncode_fc78d_12 (by decide) (by decide)
  · rw [if_neg c1] at E
    refine r_iconst X (v := 1) dJ1_canEncode_fc78d_7 (by decide) ?_
    refine r_goto X 12 dJ1_canEncode_fc78d_8 (by decide) ?_
    cases E
    exact r_zret X hr (Or.inr rfl) dJ1_canEncode_fc78d_12 (by decide) (by decide)
theorem t_j1_canEncode_fc78d {l : Launch} {G : GG} {b0 : Int32} {g : AH} {r : Int32} {g1 : AH} (E : j1_canEncode_fc78d b0 g = some (r, g1)) : Ct l G yJ1_canEncode_fc78d cJ1_canEncode_fc78d 1 (some .boolean) ⟨1, 0, 0, 60⟩ [.int b0] g (some (.int r)) g1 :=
  ct_of (L0 := [(0, .int b0)]) y_J1_canEncode_fc78d rfl (Nat.le_of_ble_eq_true rfl) fun M hl0 X hr hnm => t_j1_canEncode_fc78d_b X hl0 hr hnm E
set_option maxHeartbeats 4000000 in
set_option maxRecDepth 100000 in
theorem t_j5_append_3fe6f_b {l : Launch} {G : GG} {M : MC} (X : CX M G cJ5_append_3fe6f 2 RJ5 ⟨6, 1, 400, 220⟩) (hl0 : M.2.1 = l) (hr : (mM M).sig.returnType = (some (.object "java/lang/AbstractStringBuilder"))) (hnm : (mM M).name = yJ5_append_3fe6f.name) {p : Nat} {b0 : Int32} {g : AH} {r : Nat} {g1 : AH} (E : j5_append_3fe6f p b0 g = some (r, g1)) : WW M G 2 (RQ M G (some (.ref r)) g1 1 400) 0 0 g 0 [(0, .ref p), (1, .int b0)] [] := by
  unfold j5_append_3fe6f at E
  refine r_aload_n X 0 dJ5_append_3fe6f_0 rfl rfl ?_
  refine r_aload_n X 0 dJ5_append_3fe6f_1 rfl rfl ?_
  obtain ⟨x1, e2, E⟩ := gb_some E
  refine r_getI X dJ5_append_3fe6f_2 f_J5_79 e2 ?_
  refine r_iconst X (v := 1) dJ5_append_3fe6f_5 (by decide) ?_
  refine r_iadd X dJ5_append_3fe6f_6 ?_
  obtain ⟨u6, e7, E⟩ := gb_some E
  obtain ⟨r3, g4, e5, E⟩ := cb_some E
  refine r_callU X hl0 (ci := 11) (rc := (RJ4, TJ4, 4)) dJ5_append_3fe6f_7 yu_J5_ensureCapacityInternal_d00df m_J5_100 rfl e7 (t_j5_ensureCapacityInternal_d00df (l := l) (G := G) e5) rfl rfl (Nat.le_of_ble_eq_true rfl) (by decide) ?_
  refine r_aload_n X 0 dJ5_append_3fe6f_10 rfl rfl ?_
  obtain ⟨u11, e12, E⟩ := gb_some E
  obtain ⟨r8, g9, e10, E⟩ := cb_some E
  refine r_callU X hl0 (ci := 11) (rc := (RJ4, TJ4, 4)) dJ5_append_3fe6f_11 yu_J5_isLatin1_aae02 m_J5_83 rfl e12 (t_j5_isLatin1_aae02 (l := l) (G := G) e10) rfl rfl (Nat.le_of_ble_eq_true rfl) (by decide) ?_
  refine r_if_eq X 45 dJ5_append_3fe6f_14 (by decide) (fun c13 => ?_) (fun c13 => ?_)
  · rw [if_pos c13] at E
    cases E
  · rw [if_neg c13] at E
    refine r_iload_n X 1 dJ5_append_3fe6f_17 rfl rfl ?_
    obtain ⟨r14, g15, e16, E⟩ := cb_some E
    refine r_callS0 X hl0 dJ5_append_3fe6f_18 y_J1_canEncode_fc78d m_J5_191 (t_j1_canEncode_fc78d (l := l) (G := G) e16) rfl rfl (Nat.le_of_ble_eq_true rfl) (by decide) ?_
    refine r_if_eq X 45 dJ5_append_3fe6f_21 (by decide) (fun c17 => ?_) (fun c17 => ?_)
    · rw [if_pos c17] at E
      cases E
    · rw [if_neg c17] at E
      refine r_aload_n X 0 dJ5_append_3fe6f_24 rfl rfl ?_
      obtain ⟨x18, e19, E⟩ := gb_some E
      refine r_getR X dJ5_append_3fe6f_25 f_J5_15 e19 ?_
      refine r_aload_n X 0 dJ5_append_3fe6f_28 rfl rfl ?_
      refine r_dup X dJ5_append_3fe6f_29 rfl ?_
      obtain ⟨x20, e21, E⟩ := gb_some E
      refine r_getI X dJ5_append_3fe6f_30 f_J5_79 e21 ?_
      refine r_dup_x1 X dJ5_append_3fe6f_33 rfl rfl ?_
      refine r_iconst X (v := 1) dJ5_append_3fe6f_34 (by decide) ?_
      refine r_iadd X dJ5_append_3fe6f_35 ?_
      obtain ⟨g22, e23, E⟩ := gb_some E
      refine r_put X dJ5_append_3fe6f_36 f_J5_79 rfl rfl e23 ?_
      refine r_iload_n X 1 dJ5_append_3fe6f_39 rfl rfl ?_
      refine r_i2b X dJ5_append_3fe6f_40 ?_
      obtain ⟨g24, e25, E⟩ := gb_some E
      refine r_bast X dJ5_append_3fe6f_41 e25 ?_
      refine r_goto X 75 dJ5_append_3fe6f_42 (by decide) ?_
      refine r_aload_n X 0 dJ5_append_3fe6f_75 rfl rfl ?_
      cases E
      exact r_aret X hr (Or.inl ⟨_, rfl⟩) dJ5_append_3fe6f_76 (by decide) (by decide)
theorem t_j5_append_3fe6f {l : Launch} {G : GG} {p : Nat} {b0 : Int32} {g : AH} {r : Nat} {g1 : AH} (E : j5_append_3fe6f p b0 g = some (r, g1)) : Ct l G yJ5_append_3fe6f cJ5_append_3fe6f 2 (some (.object "java/lang/AbstractStringBuilder")) ⟨6, 1, 400, 220⟩ [.ref p, .int b0] g (some (.ref r)) g1 :=
  ct_of9 (L0 := [(0, .ref p), (1, .int b0)]) (by decide +kernel) rfl (Nat.le_of_ble_eq_true rfl) fun M hl0 X hr hnm => t_j5_append_3fe6f_b X hl0 hr hnm E
set_option maxHeartbeats 4000000 in
set_option maxRecDepth 100000 in
theorem t_j4_append_cf468_b {l : Launch} {G : GG} {M : MC} (X : CX M G cJ4_append_cf468 2 RJ4 ⟨7, 1, 400, 241⟩) (hl0 : M.2.1 = l) (hr : (mM M).sig.returnType = (some (.object "java/lang/StringBuilder"))) (hnm : (mM M).name = yJ4_append_cf468.name) {p : Nat} {b0 : Int32} {g : AH} {r : Nat} {g1 : AH} (E : j4_append_cf468 p b0 g = some (r, g1)) : WW M G 2 (RQ M G (some (.ref r)) g1 1 400) 0 0 g 0 [(0, .ref p), (1, .int b0)] [] := by
  unfold j4_append_cf468 at E
  refine r_aload_n X 0 dJ4_append_cf468_0 rfl rfl ?_
  refine r_iload_n X 1 dJ4_append_cf468_1 rfl rfl ?_
  obtain ⟨u4, e5, E⟩ := gb_some E
  obtain ⟨r1, g2, e3, E⟩ := cb_some E
  refine r_callSU X hl0 dJ4_append_cf468_2 ys_J5_append_3fe6f m_J4_50 e5 (t_j5_append_3fe6f (l := l) (G := G) e3) rfl rfl (Nat.le_of_ble_eq_true rfl) (by decide) ?_
  refine r_pop X dJ4_append_cf468_5 rfl ?_
  refine r_aload_n X 0 dJ4_append_cf468_6 rfl rfl ?_
  cases E
  exact r_aret X hr (Or.inl ⟨_, rfl⟩) dJ4_append_cf468_7 (by decide) (by decide)
theorem t_j4_append_cf468 {l : Launch} {G : GG} {p : Nat} {b0 : Int32} {g : AH} {r : Nat} {g1 : AH} (E : j4_append_cf468 p b0 g = some (r, g1)) : Ct l G yJ4_append_cf468 cJ4_append_cf468 2 (some (.object "java/lang/StringBuilder")) ⟨7, 1, 400, 241⟩ [.ref p, .int b0] g (some (.ref r)) g1 :=
  ct_of (L0 := [(0, .ref p), (1, .int b0)]) y_J4_append_cf468 rfl (Nat.le_of_ble_eq_true rfl) fun M hl0 X hr hnm => t_j4_append_cf468_b X hl0 hr hnm E
set_option maxHeartbeats 4000000 in
set_option maxRecDepth 100000 in
theorem t_jx4a65c_size_8abf5_b {l : Launch} {G : GG} {M : MC} (X : CX M G cJx4a65c_size_8abf5 1 RJx4a65c ⟨1, 0, 0, 60⟩) (hl0 : M.2.1 = l) (hr : (mM M).sig.returnType = (some .int)) (hnm : (mM M).name = yJx4a65c_size_8abf5.name) {p : Nat} {g : AH} {r : Int32} {g1 : AH} (E : jx4a65c_size_8abf5 p g = some (r, g1)) : WW M G 1 (RQ M G (some (.int r)) g1 0 0) 0 0 g 0 [(0, .ref p)] [] := by
  unfold jx4a65c_size_8abf5 at E
  refine r_aload_n X 0 dJx4a65c_size_8abf5_0 rfl rfl ?_
  obtain ⟨x1, e2, E⟩ := gb_some E
  refine r_getI X dJx4a65c_size_8abf5_1 f_Jx4a65c_48 e2 ?_
  cases E
  exact r_iret X hr dJx4a65c_size_8abf5_4 (by decide) (by decide)
theorem t_jx4a65c_size_8abf5 {l : Launch} {G : GG} {p : Nat} {g : AH} {r : Int32} {g1 : AH} (E : jx4a65c_size_8abf5 p g = some (r, g1)) : Ct l G yJx4a65c_size_8abf5 cJx4a65c_size_8abf5 1 (some .int) ⟨1, 0, 0, 60⟩ [.ref p] g (some (.int r)) g1 :=
  ct_of (L0 := [(0, .ref p)]) y_Jx4a65c_size_8abf5 rfl (Nat.le_of_ble_eq_true rfl) fun M hl0 X hr hnm => t_jx4a65c_size_8abf5_b X hl0 hr hnm E
set_option maxHeartbeats 4000000 in
set_option maxRecDepth 100000 in
theorem t_jx4a65c_grow_92f84_b {l : Launch} {G : GG} {M : MC} (X : CX M G cJx4a65c_grow_92f84 4 RJx4a65c ⟨3, 1, 10, 150⟩) (hl0 : M.2.1 = l) (hr : (mM M).sig.returnType = (some (.array (.object "java/lang/Object")))) (hnm : (mM M).name = yJx4a65c_grow_92f84.name) {p : Nat} {b0 : Int32} {g : AH} {r : Nat} {g1 : AH} (E : jx4a65c_grow_92f84 (GK G) p b0 g = some (r, g1)) : WW M G 4 (RQ M G (some (.ref r)) g1 1 10) 0 0 g 0 [(0, .ref p), (1, .int b0)] [] := by
  unfold jx4a65c_grow_92f84 at E
  refine r_aload_n X 0 dJx4a65c_grow_92f84_0 rfl rfl ?_
  obtain ⟨x1, e2, E⟩ := gb_some E
  refine r_getR X dJx4a65c_grow_92f84_1 f_Jx4a65c_9 e2 ?_
  obtain ⟨x3, e4, E⟩ := gb_some E
  refine r_alenQ X dJx4a65c_grow_92f84_4 e4 ?_
  refine r_istore_n X 2 (L1 := [(2, .int x3), (0, .ref p), (1, .int b0)]) dJx4a65c_grow_92f84_5 rfl (by decide) rfl ?_
  refine r_iload_n X 2 dJx4a65c_grow_92f84_6 rfl rfl ?_
  refine r_if_gt X 20 dJx4a65c_grow_92f84_7 (by decide) (fun c5 => ?_) (fun c5 => ?_)
  · rw [if_pos c5] at E
    cases E
  · rw [if_neg c5] at E
    refine r_aload_n X 0 dJx4a65c_grow_92f84_10 rfl rfl ?_
    obtain ⟨x6, e7, E⟩ := gb_some E
    refine r_getR X dJx4a65c_grow_92f84_11 f_Jx4a65c_9 e7 ?_
    refine r_gets0 X dJx4a65c_grow_92f84_14 g_Jx4a65c_39 X.sx.2.2.2.1.1 ?_
    refine r_acmp_eq X 45 dJx4a65c_grow_92f84_17 (by decide) (fun c8 => ?_) (fun c8 => ?_)
    · rw [if_pos c8] at E
      refine r_aload_n X 0 dJx4a65c_grow_92f84_45 rfl rfl ?_
      refine r_bipush X (v := 10) dJx4a65c_grow_92f84_46 (by decide) ?_
      refine r_iload_n X 1 dJx4a65c_grow_92f84_48 rfl rfl ?_
      refine r_max X dJx4a65c_grow_92f84_49 m_Jx4a65c_79m (by decide) (Nat.le_of_ble_eq_true rfl) ?_
      by_cases c12 : 10 < ((if 10 < b0 then b0 else 10)).toNatClampNeg
      · rw [if_pos c12] at E; cases E
      rw [if_neg c12] at E
      obtain ⟨x9, g10, e11, E⟩ := cb_some E
      refine r_anew X 6 10 dJx4a65c_grow_92f84_52 (by decide) rfl k_Jx4a65c_7 X.2.2.2.2.1.2.2.2.1.2.2.1.1 (Nat.not_lt.mp c12) (by decide) e11 ?_
      refine r_dup_x1 X dJx4a65c_grow_92f84_55 rfl rfl ?_
      obtain ⟨g13, e14, E⟩ := gb_some E
      refine r_put X dJx4a65c_grow_92f84_56 f_Jx4a65c_9 rfl rfl e14 ?_
      cases E
      exact r_aret X hr (Or.inr ⟨_, rfl⟩) dJx4a65c_grow_92f84_59 (by decide) (by decide)
    · rw [if_neg c8] at E
      cases E
theorem t_jx4a65c_grow_92f84 {l : Launch} {G : GG} {p : Nat} {b0 : Int32} {g : AH} {r : Nat} {g1 : AH} (E : jx4a65c_grow_92f84 (GK G) p b0 g = some (r, g1)) : Ct l G yJx4a65c_grow_92f84 cJx4a65c_grow_92f84 4 (some (.array (.object "java/lang/Object"))) ⟨3, 1, 10, 150⟩ [.ref p, .int b0] g (some (.ref r)) g1 :=
  ct_of (L0 := [(0, .ref p), (1, .int b0)]) y_Jx4a65c_grow_92f84 rfl (Nat.le_of_ble_eq_true rfl) fun M hl0 X hr hnm => t_jx4a65c_grow_92f84_b X hl0 hr hnm E
set_option maxHeartbeats 4000000 in
set_option maxRecDepth 100000 in
theorem t_jx4a65c_grow_d5877_b {l : Launch} {G : GG} {M : MC} (X : CX M G cJx4a65c_grow_d5877 1 RJx4a65c ⟨4, 1, 10, 173⟩) (hl0 : M.2.1 = l) (hr : (mM M).sig.returnType = (some (.array (.object "java/lang/Object")))) (hnm : (mM M).name = yJx4a65c_grow_d5877.name) {p : Nat} {g : AH} {r : Nat} {g1 : AH} (E : jx4a65c_grow_d5877 (GK G) p g = some (r, g1)) : WW M G 1 (RQ M G (some (.ref r)) g1 1 10) 0 0 g 0 [(0, .ref p)] [] := by
  unfold jx4a65c_grow_d5877 at E
  refine r_aload_n X 0 dJx4a65c_grow_d5877_0 rfl rfl ?_
  refine r_aload_n X 0 dJx4a65c_grow_d5877_1 rfl rfl ?_
  obtain ⟨x1, e2, E⟩ := gb_some E
  refine r_getI X dJx4a65c_grow_d5877_2 f_Jx4a65c_48 e2 ?_
  refine r_iconst X (v := 1) dJx4a65c_grow_d5877_5 (by decide) ?_
  refine r_iadd X dJx4a65c_grow_d5877_6 ?_
  obtain ⟨u6, e7, E⟩ := gb_some E
  obtain ⟨r3, g4, e5, E⟩ := cb_some E
  refine r_callV X hl0 (ci := 12) dJx4a65c_grow_d5877_7 y_Jx4a65c_grow_92f84 m_Jx4a65c_69 rfl rfl e7 (t_jx4a65c_grow_92f84 (l := l) (G := G) e5) rfl rfl (Nat.le_of_ble_eq_true rfl) (by decide) ?_
  cases E
  exact r_aret X hr (Or.inr ⟨_, rfl⟩) dJx4a65c_grow_d5877_10 (by decide) (by decide)
theorem t_jx4a65c_grow_d5877 {l : Launch} {G : GG} {p : Nat} {g : AH} {r : Nat} {g1 : AH} (E : jx4a65c_grow_d5877 (GK G) p g = some (r, g1)) : Ct l G yJx4a65c_grow_d5877 cJx4a65c_grow_d5877 1 (some (.array (.object "java/lang/Object"))) ⟨4, 1, 10, 173⟩ [.ref p] g (some (.ref r)) g1 :=
  ct_of (L0 := [(0, .ref p)]) y_Jx4a65c_grow_d5877 rfl (Nat.le_of_ble_eq_true rfl) fun M hl0 X hr hnm => t_jx4a65c_grow_d5877_b X hl0 hr hnm E
set_option maxHeartbeats 4000000 in
set_option maxRecDepth 100000 in
theorem t_jx4a65c_add_72be8_j11 {l : Launch} {G : GG} {M : MC} (X : CX M G cJx4a65c_add_72be8 4 RJx4a65c ⟨5, 1, 10, 193⟩) (hl0 : M.2.1 = l) (hr : (mM M).sig.returnType = none) (hnm : (mM M).name = yJx4a65c_add_72be8.name) {a0 : Nat} {a1 : Nat} {a2 : Nat} {a3 : Int32} {g : AH} {r : Unit} {g1 : AH} (E : jx4a65c_add_72be8_j11 (GK G) a0 a1 a2 a3 g = some (r, g1)) : WW M G 4 (RQ M G none g1 1 10) 1 10 g 11 [(0, .ref a0), (1, .ref a1), (2, .ref a2), (3, .int a3)] [] := by
  unfold jx4a65c_add_72be8_j11 at E
  refine r_aload_n X 2 dJx4a65c_add_72be8_11 rfl rfl ?_
  refine r_iload_n X 3 dJx4a65c_add_72be8_12 rfl rfl ?_
  refine r_aload_n X 1 dJx4a65c_add_72be8_13 rfl rfl ?_
  obtain ⟨g1, e2, E⟩ := gb_some E
  refine r_aastO X dJx4a65c_add_72be8_14 e2 ?_
  refine r_aload_n X 0 dJx4a65c_add_72be8_15 rfl rfl ?_
  refine r_iload_n X 3 dJx4a65c_add_72be8_16 rfl rfl ?_
  refine r_iconst X (v := 1) dJx4a65c_add_72be8_17 (by decide) ?_
  refine r_iadd X dJx4a65c_add_72be8_18 ?_
  obtain ⟨g3, e4, E⟩ := gb_some E
  refine r_put X dJx4a65c_add_72be8_19 f_Jx4a65c_48 rfl rfl e4 ?_
  cases E
  exact r_vret X hr dJx4a65c_add_72be8_22 (by decide) (by decide)
set_option maxHeartbeats 4000000 in
set_option maxRecDepth 100000 in
theorem t_jx4a65c_add_72be8_b {l : Launch} {G : GG} {M : MC} (X : CX M G cJx4a65c_add_72be8 4 RJx4a65c ⟨5, 1, 10, 193⟩) (hl0 : M.2.1 = l) (hr : (mM M).sig.returnType = none) (hnm : (mM M).name = yJx4a65c_add_72be8.name) {p : Nat} {b0 : Nat} {b1 : Nat} {b2 : Int32} {g : AH} {r : Unit} {g1 : AH} (E : jx4a65c_add_72be8 (GK G) p b0 b1 b2 g = some (r, g1)) : WW M G 4 (RQ M G none g1 1 10) 0 0 g 0 [(0, .ref p), (1, .ref b0), (2, .ref b1), (3, .int b2)] [] := by
  unfold jx4a65c_add_72be8 at E
  refine r_iload_n X 3 dJx4a65c_add_72be8_0 rfl rfl ?_
  refine r_aload_n X 2 dJx4a65c_add_72be8_1 rfl rfl ?_
  obtain ⟨x1, e2, E⟩ := gb_some E
  refine r_alenQ X dJx4a65c_add_72be8_2 e2 ?_
  refine r_icmp_ne X 11 dJx4a65c_add_72be8_3 (by decide) (fun c3 => ?_) (fun c3 => ?_)
  · rw [if_neg c3] at E
    exact r_widen X (by decide) (by decide) <| r_pick (by rfl : lpick [(0, .ref p), (1, .ref b0), (2, .ref b1), (3, .int b2)] [0, 1, 2, 3] = _) (t_jx4a65c_add_72be8_j11 X hl0 hr hnm E)
  · rw [if_pos c3] at E
    refine r_aload_n X 0 dJx4a65c_add_72be8_6 rfl rfl ?_
    obtain ⟨u7, e8, E⟩ := gb_some E
    obtain ⟨r4, g5, e6, E⟩ := cb_some E
    refine r_callV X hl0 (ci := 12) dJx4a65c_add_72be8_7 y_Jx4a65c_grow_d5877 m_Jx4a65c_129 rfl rfl e8 (t_jx4a65c_grow_d5877 (l := l) (G := G) e6) rfl rfl (Nat.le_of_ble_eq_true rfl) (by decide) ?_
    refine r_astore_n X 2 (L1 := [(2, .ref r4), (0, .ref p), (1, .ref b0), (3, .int b2)]) dJx4a65c_add_72be8_10 rfl (by decide) rfl ?_
    exact r_widen X (by decide) (by decide) <| r_pick (by rfl : lpick [(2, .ref r4), (0, .ref p), (1, .ref b0), (3, .int b2)] [1, 2, 0, 3] = _) (t_jx4a65c_add_72be8_j11 X hl0 hr hnm E)
theorem t_jx4a65c_add_72be8 {l : Launch} {G : GG} {p : Nat} {b0 : Nat} {b1 : Nat} {b2 : Int32} {g : AH} {r : Unit} {g1 : AH} (E : jx4a65c_add_72be8 (GK G) p b0 b1 b2 g = some (r, g1)) : Ct l G yJx4a65c_add_72be8 cJx4a65c_add_72be8 4 none ⟨5, 1, 10, 193⟩ [.ref p, .ref b0, .ref b1, .int b2] g none g1 :=
  ct_of (L0 := [(0, .ref p), (1, .ref b0), (2, .ref b1), (3, .int b2)]) y_Jx4a65c_add_72be8 rfl (Nat.le_of_ble_eq_true rfl) fun M hl0 X hr hnm => t_jx4a65c_add_72be8_b X hl0 hr hnm E
set_option maxHeartbeats 4000000 in
set_option maxRecDepth 100000 in
theorem t_jx4a65c_add_9ea2d_b {l : Launch} {G : GG} {M : MC} (X : CX M G cJx4a65c_add_9ea2d 2 RJx4a65c ⟨6, 1, 10, 216⟩) (hl0 : M.2.1 = l) (hr : (mM M).sig.returnType = (some .boolean)) (hnm : (mM M).name = yJx4a65c_add_9ea2d.name) {p : Nat} {b0 : Nat} {g : AH} {r : Int32} {g1 : AH} (E : jx4a65c_add_9ea2d (GK G) p b0 g = some (r, g1)) : WW M G 2 (RQ M G (some (.int r)) g1 1 10) 0 0 g 0 [(0, .ref p), (1, .ref b0)] [] := by
  unfold jx4a65c_add_9ea2d at E
  refine r_aload_n X 0 dJx4a65c_add_9ea2d_0 rfl rfl ?_
  refine r_dup X dJx4a65c_add_9ea2d_1 rfl ?_
  obtain ⟨x1, e2, E⟩ := gb_some E
  refine r_getI X dJx4a65c_add_9ea2d_2 f_Jx4a65c_63 e2 ?_
  refine r_iconst X (v := 1) dJx4a65c_add_9ea2d_5 (by decide) ?_
  refine r_iadd X dJx4a65c_add_9ea2d_6 ?_
  obtain ⟨g3, e4, E⟩ := gb_some E
  refine r_put X dJx4a65c_add_9ea2d_7 f_Jx4a65c_63 rfl rfl e4 ?_
  refine r_aload_n X 0 dJx4a65c_add_9ea2d_10 rfl rfl ?_
  refine r_aload_n X 1 dJx4a65c_add_9ea2d_11 rfl rfl ?_
  refine r_aload_n X 0 dJx4a65c_add_9ea2d_12 rfl rfl ?_
  obtain ⟨x5, e6, E⟩ := gb_some E
  refine r_getR X dJx4a65c_add_9ea2d_13 f_Jx4a65c_9 e6 ?_
  refine r_aload_n X 0 dJx4a65c_add_9ea2d_16 rfl rfl ?_
  obtain ⟨x7, e8, E⟩ := gb_some E
  refine r_getI X dJx4a65c_add_9ea2d_17 f_Jx4a65c_48 e8 ?_
  obtain ⟨u12, e13, E⟩ := gb_some E
  obtain ⟨r9, g10, e11, E⟩ := cb_some E
  refine r_callV X hl0 (ci := 12) dJx4a65c_add_9ea2d_20 y_Jx4a65c_add_72be8 m_Jx4a65c_131 rfl rfl e13 (t_jx4a65c_add_72be8 (l := l) (G := G) e11) rfl rfl (Nat.le_of_ble_eq_true rfl) (by decide) ?_
  refine r_iconst X (v := 1) dJx4a65c_add_9ea2d_23 (by decide) ?_
  cases E
  exact r_zret X hr (Or.inr rfl) dJx4a65c_add_9ea2d_24 (by decide) (by decide)
theorem t_jx4a65c_add_9ea2d {l : Launch} {G : GG} {p : Nat} {b0 : Nat} {g : AH} {r : Int32} {g1 : AH} (E : jx4a65c_add_9ea2d (GK G) p b0 g = some (r, g1)) : Ct l G yJx4a65c_add_9ea2d cJx4a65c_add_9ea2d 2 (some .boolean) ⟨6, 1, 10, 216⟩ [.ref p, .ref b0] g (some (.int r)) g1 :=
  ct_of (L0 := [(0, .ref p), (1, .ref b0)]) y_Jx4a65c_add_9ea2d rfl (Nat.le_of_ble_eq_true rfl) fun M hl0 X hr hnm => t_jx4a65c_add_9ea2d_b X hl0 hr hnm E
set_option maxHeartbeats 4000000 in
set_option maxRecDepth 100000 in
theorem t_j5_getValue_6d5f1_b {l : Launch} {G : GG} {M : MC} (X : CX M G cJ5_getValue_6d5f1 1 RJ5 ⟨1, 0, 0, 60⟩) (hl0 : M.2.1 = l) (hr : (mM M).sig.returnType = (some (.array .byte))) (hnm : (mM M).name = yJ5_getValue_6d5f1.name) {p : Nat} {g : AH} {r : Nat} {g1 : AH} (E : j5_getValue_6d5f1 p g = some (r, g1)) : WW M G 1 (RQ M G (some (.ref r)) g1 0 0) 0 0 g 0 [(0, .ref p)] [] := by
  unfold j5_getValue_6d5f1 at E
  refine r_aload_n X 0 dJ5_getValue_6d5f1_0 rfl rfl ?_
  obtain ⟨x1, e2, E⟩ := gb_some E
  refine r_getR X dJ5_getValue_6d5f1_1 f_J5_15 e2 ?_
  cases E
  exact r_aret X hr (Or.inr ⟨_, rfl⟩) dJ5_getValue_6d5f1_4 (by decide) (by decide)
theorem t_j5_getValue_6d5f1 {l : Launch} {G : GG} {p : Nat} {g : AH} {r : Nat} {g1 : AH} (E : j5_getValue_6d5f1 p g = some (r, g1)) : Ct l G yJ5_getValue_6d5f1 cJ5_getValue_6d5f1 1 (some (.array .byte)) ⟨1, 0, 0, 60⟩ [.ref p] g (some (.ref r)) g1 :=
  ct_of9 (L0 := [(0, .ref p)]) (by decide +kernel) rfl (Nat.le_of_ble_eq_true rfl) fun M hl0 X hr hnm => t_j5_getValue_6d5f1_b X hl0 hr hnm E
set_option maxHeartbeats 4000000 in
set_option maxRecDepth 100000 in
theorem t_j5_length_8abf5_b {l : Launch} {G : GG} {M : MC} (X : CX M G cJ5_length_8abf5 1 RJ5 ⟨1, 0, 0, 60⟩) (hl0 : M.2.1 = l) (hr : (mM M).sig.returnType = (some .int)) (hnm : (mM M).name = yJ5_length_8abf5.name) {p : Nat} {g : AH} {r : Int32} {g1 : AH} (E : j5_length_8abf5 p g = some (r, g1)) : WW M G 1 (RQ M G (some (.int r)) g1 0 0) 0 0 g 0 [(0, .ref p)] [] := by
  unfold j5_length_8abf5 at E
  refine r_aload_n X 0 dJ5_length_8abf5_0 rfl rfl ?_
  obtain ⟨x1, e2, E⟩ := gb_some E
  refine r_getI X dJ5_length_8abf5_1 f_J5_79 e2 ?_
  cases E
  exact r_iret X hr dJ5_length_8abf5_4 (by decide) (by decide)
theorem t_j5_length_8abf5 {l : Launch} {G : GG} {p : Nat} {g : AH} {r : Int32} {g1 : AH} (E : j5_length_8abf5 p g = some (r, g1)) : Ct l G yJ5_length_8abf5 cJ5_length_8abf5 1 (some .int) ⟨1, 0, 0, 60⟩ [.ref p] g (some (.int r)) g1 :=
  ct_of9 (L0 := [(0, .ref p)]) (by decide +kernel) rfl (Nat.le_of_ble_eq_true rfl) fun M hl0 X hr hnm => t_j5_length_8abf5_b X hl0 hr hnm E
set_option maxHeartbeats 4000000 in
set_option maxRecDepth 100000 in
theorem t_j4_length_8abf5_b {l : Launch} {G : GG} {M : MC} (X : CX M G cJ4_length_8abf5 1 RJ4 ⟨2, 0, 0, 80⟩) (hl0 : M.2.1 = l) (hr : (mM M).sig.returnType = (some .int)) (hnm : (mM M).name = yJ4_length_8abf5.name) {p : Nat} {g : AH} {r : Int32} {g1 : AH} (E : j4_length_8abf5 p g = some (r, g1)) : WW M G 1 (RQ M G (some (.int r)) g1 0 0) 0 0 g 0 [(0, .ref p)] [] := by
  unfold j4_length_8abf5 at E
  refine r_aload_n X 0 dJ4_length_8abf5_0 rfl rfl ?_
  obtain ⟨u4, e5, E⟩ := gb_some E
  obtain ⟨r1, g2, e3, E⟩ := cb_some E
  refine r_callSU X hl0 dJ4_length_8abf5_1 ys_J5_length_8abf5 m_J4_343 e5 (t_j5_length_8abf5 (l := l) (G := G) e3) rfl rfl (Nat.le_of_ble_eq_true rfl) (by decide) ?_
  cases E
  exact r_iret X hr dJ4_length_8abf5_4 (by decide) (by decide)
theorem t_j4_length_8abf5 {l : Launch} {G : GG} {p : Nat} {g : AH} {r : Int32} {g1 : AH} (E : j4_length_8abf5 p g = some (r, g1)) : Ct l G yJ4_length_8abf5 cJ4_length_8abf5 1 (some .int) ⟨2, 0, 0, 80⟩ [.ref p] g (some (.int r)) g1 :=
  ct_of9 (L0 := [(0, .ref p)]) (by decide +kernel) rfl (Nat.le_of_ble_eq_true rfl) fun M hl0 X hr hnm => t_j4_length_8abf5_b X hl0 hr hnm E
set_option maxHeartbeats 4000000 in
set_option maxRecDepth 100000 in
theorem t_j7_checkLength_df160_b {l : Launch} {G : GG} {M : MC} (X : CX M G cJ7_checkLength_df160 2 RJ7 ⟨1, 0, 0, 60⟩) (hl0 : M.2.1 = l) (hr : (mM M).sig.returnType = none) (hnm : (mM M).name = yJ7_checkLength_df160.name) {b0 : Int32} {b1 : Int32} {g : AH} {r : Unit} {g1 : AH} (E : j7_checkLength_df160 b0 b1 g = some (r, g1)) : WW M G 2 (RQ M G none g1 0 0) 0 0 g 0 [(0, .int b0), (1, .int b1)] [] := by
  unfold j7_checkLength_df160 at E
  refine r_iload_n X 1 dJ7_checkLength_df160_0 rfl rfl ?_
  refine r_iload_n X 0 dJ7_checkLength_df160_1 rfl rfl ?_
  refine r_icmp_ge X 37 dJ7_checkLength_df160_2 (by decide) (fun c1 => ?_) (fun c1 => ?_)
  · rw [if_pos c1] at E
    cases E
    exact r_vret X hr dJ7_checkLength_df160_37 (by decide) (by decide)
  · rw [if_neg c1] at E
    cases E
theorem t_j7_checkLength_df160 {l : Launch} {G : GG} {b0 : Int32} {b1 : Int32} {g : AH} {r : Unit} {g1 : AH} (E : j7_checkLength_df160 b0 b1 g = some (r, g1)) : Ct l G yJ7_checkLength_df160 cJ7_checkLength_df160 2 none ⟨1, 0, 0, 60⟩ [.int b0, .int b1] g none g1 :=
  ct_of (L0 := [(0, .int b0), (1, .int b1)]) y_J7_checkLength_df160 rfl (Nat.le_of_ble_eq_true rfl) fun M hl0 X hr hnm => t_j7_checkLength_df160_b X hl0 hr hnm E
set_option maxHeartbeats 4000000 in
set_option maxRecDepth 100000 in
theorem t_j7_copyOfRangeByte_39247_b {l : Launch} {G : GG} {M : MC} (X : CX M G cJ7_copyOfRangeByte_39247 5 RJ7 ⟨3, 1, 400, 150⟩) (hl0 : M.2.1 = l) (hr : (mM M).sig.returnType = (some (.array .byte))) (hnm : (mM M).name = yJ7_copyOfRangeByte_39247.name) {b0 : Nat} {b1 : Int32} {b2 : Int32} {g : AH} {r : Nat} {g1 : AH} (E : j7_copyOfRangeByte_39247 b0 b1 b2 g = some (r, g1)) : WW M G 5 (RQ M G (some (.ref r)) g1 1 400) 0 0 g 0 [(0, .ref b0), (1, .int b1), (2, .int b2)] [] := by
  unfold j7_copyOfRangeByte_39247 at E
  refine r_iload_n X 1 dJ7_copyOfRangeByte_39247_0 rfl rfl ?_
  refine r_iload_n X 2 dJ7_copyOfRangeByte_39247_1 rfl rfl ?_
  obtain ⟨r1, g2, e3, E⟩ := cb_some E
  refine r_callS0 X hl0 dJ7_copyOfRangeByte_39247_2 y_J7_checkLength_df160 m_J7_343 (t_j7_checkLength_df160 (l := l) (G := G) e3) rfl rfl (Nat.le_of_ble_eq_true rfl) (by decide) ?_
  refine r_iload_n X 2 dJ7_copyOfRangeByte_39247_5 rfl rfl ?_
  refine r_iload_n X 1 dJ7_copyOfRangeByte_39247_6 rfl rfl ?_
  refine r_isub X dJ7_copyOfRangeByte_39247_7 ?_
  refine r_istore_n X 3 (L1 := [(3, .int (b2 - b1)), (0, .ref b0), (1, .int b1), (2, .int b2)]) dJ7_copyOfRangeByte_39247_8 rfl (by decide) rfl ?_
  refine r_iload_n X 3 dJ7_copyOfRangeByte_39247_9 rfl rfl ?_
  by_cases c6 : 400 < ((b2 - b1)).toNatClampNeg
  · rw [if_pos c6] at E; cases E
  rw [if_neg c6] at E
  obtain ⟨x4, g5, e7, E⟩ := cb_some E
  refine r_newarr X 1 400 dJ7_copyOfRangeByte_39247_10 (by decide) rfl a_byte (fun _ _ => rfl) (by decide) (Nat.not_lt.mp c6) (by decide) e7 ?_
  refine r_astore X (L1 := [(4, .ref x4), (3, .int (b2 - b1)), (0, .ref b0), (1, .int b1), (2, .int b2)]) dJ7_copyOfRangeByte_39247_12 (by decide) rfl ?_
  refine r_aload_n X 0 dJ7_copyOfRangeByte_39247_14 rfl rfl ?_
  refine r_iload_n X 1 dJ7_copyOfRangeByte_39247_15 rfl rfl ?_
  refine r_aload X dJ7_copyOfRangeByte_39247_16 rfl ?_
  refine r_iconst X (v := 0) dJ7_copyOfRangeByte_39247_18 (by decide) ?_
  refine r_aload_n X 0 dJ7_copyOfRangeByte_39247_19 rfl rfl ?_
  obtain ⟨x8, e9, E⟩ := gb_some E
  refine r_alen X 1 (by decide) dJ7_copyOfRangeByte_39247_20 e9 ?_
  refine r_iload_n X 1 dJ7_copyOfRangeByte_39247_21 rfl rfl ?_
  refine r_isub X dJ7_copyOfRangeByte_39247_22 ?_
  refine r_iload_n X 3 dJ7_copyOfRangeByte_39247_23 rfl rfl ?_
  refine r_min X dJ7_copyOfRangeByte_39247_24 m_J7_304m (by decide) (Nat.le_of_ble_eq_true rfl) ?_
  obtain ⟨g10, e11, E⟩ := gb_some E
  refine r_copyB X dJ7_copyOfRangeByte_39247_27 m_J7_150c (by decide) (Nat.le_of_ble_eq_true rfl) e11 ?_
  refine r_aload X dJ7_copyOfRangeByte_39247_30 rfl ?_
  cases E
  exact r_aret X hr (Or.inr ⟨_, rfl⟩) dJ7_copyOfRangeByte_39247_32 (by decide) (by decide)
theorem t_j7_copyOfRangeByte_39247 {l : Launch} {G : GG} {b0 : Nat} {b1 : Int32} {b2 : Int32} {g : AH} {r : Nat} {g1 : AH} (E : j7_copyOfRangeByte_39247 b0 b1 b2 g = some (r, g1)) : Ct l G yJ7_copyOfRangeByte_39247 cJ7_copyOfRangeByte_39247 5 (some (.array .byte)) ⟨3, 1, 400, 150⟩ [.ref b0, .int b1, .int b2] g (some (.ref r)) g1 :=
  ct_of (L0 := [(0, .ref b0), (1, .int b1), (2, .int b2)]) y_J7_copyOfRangeByte_39247 rfl (Nat.le_of_ble_eq_true rfl) fun M hl0 X hr hnm => t_j7_copyOfRangeByte_39247_b X hl0 hr hnm E
set_option maxHeartbeats 4000000 in
set_option maxRecDepth 100000 in
theorem t_j7_copyOfRange_39247_j10 {l : Launch} {G : GG} {M : MC} (X : CX M G cJ7_copyOfRange_39247 3 RJ7 ⟨4, 2, 800, 174⟩) (hl0 : M.2.1 = l) (hr : (mM M).sig.returnType = (some (.array .byte))) (hnm : (mM M).name = yJ7_copyOfRange_39247.name) {a0 : Nat} {a1 : Int32} {a2 : Int32} {g : AH} {r : Nat} {g1 : AH} (E : j7_copyOfRange_39247_j10 a0 a1 a2 g = some (r, g1)) : WW M G 3 (RQ M G (some (.ref r)) g1 2 800) 0 0 g 10 [(0, .ref a0), (1, .int a1), (2, .int a2)] [] := by
  unfold j7_copyOfRange_39247_j10 at E
  refine r_aload_n X 0 dJ7_copyOfRange_39247_10 rfl rfl ?_
  refine r_iload_n X 1 dJ7_copyOfRange_39247_11 rfl rfl ?_
  refine r_iload_n X 2 dJ7_copyOfRange_39247_12 rfl rfl ?_
  obtain ⟨r1, g2, e3, E⟩ := cb_some E
  refine r_callS X hl0 dJ7_copyOfRange_39247_13 y_J7_copyOfRangeByte_39247 m_J7_339 (t_j7_copyOfRangeByte_39247 (l := l) (G := G) e3) rfl rfl (Nat.le_of_ble_eq_true rfl) (by decide) ?_
  cases E
  exact r_aret X hr (Or.inr ⟨_, rfl⟩) dJ7_copyOfRange_39247_16 (by decide) (by decide)
set_option maxHeartbeats 4000000 in
set_option maxRecDepth 100000 in
theorem t_j7_copyOfRange_39247_b {l : Launch} {G : GG} {M : MC} (X : CX M G cJ7_copyOfRange_39247 3 RJ7 ⟨4, 2, 800, 174⟩) (hl0 : M.2.1 = l) (hr : (mM M).sig.returnType = (some (.array .byte))) (hnm : (mM M).name = yJ7_copyOfRange_39247.name) {b0 : Nat} {b1 : Int32} {b2 : Int32} {g : AH} {r : Nat} {g1 : AH} (E : j7_copyOfRange_39247 b0 b1 b2 g = some (r, g1)) : WW M G 3 (RQ M G (some (.ref r)) g1 2 800) 0 0 g 0 [(0, .ref b0), (1, .int b1), (2, .int b2)] [] := by
  unfold j7_copyOfRange_39247 at E
  refine r_iload_n X 1 dJ7_copyOfRange_39247_0 rfl rfl ?_
  refine r_if_ne X 10 dJ7_copyOfRange_39247_1 (by decide) (fun c1 => ?_) (fun c1 => ?_)
  · rw [if_neg c1] at E
    exact r_widen X (by decide) (by decide) <| r_pick (by rfl : lpick [(0, .ref b0), (1, .int b1), (2, .int b2)] [0, 1, 2] = _) (t_j7_copyOfRange_39247_j10 X hl0 hr hnm E)
  · rw [if_pos c1] at E
    refine r_iload_n X 2 dJ7_copyOfRange_39247_4 rfl rfl ?_
    refine r_aload_n X 0 dJ7_copyOfRange_39247_5 rfl rfl ?_
    obtain ⟨x2, e3, E⟩ := gb_some E
    refine r_alen X 1 (by decide) dJ7_copyOfRange_39247_6 e3 ?_
    refine r_icmp_eq X 17 dJ7_copyOfRange_39247_7 (by decide) (fun c4 => ?_) (fun c4 => ?_)
    · rw [if_pos c4] at E
      refine r_aload_n X 0 dJ7_copyOfRange_39247_17 rfl rfl ?_
      obtain ⟨x5, g6, e7, E⟩ := cb_some E
      refine r_clone X dJ7_copyOfRange_39247_18 m_J7_310l (by decide) (Nat.le_of_ble_eq_true rfl) (by decide) e7 ?_
      obtain ⟨u8, e9, E⟩ := gb_some E
      refine r_castB X dJ7_copyOfRange_39247_21 k_J7_311 e9 ?_
      cases E
      exact r_aret X hr (Or.inr ⟨_, rfl⟩) dJ7_copyOfRange_39247_24 (by decide) (by decide)
    · rw [if_neg c4] at E
      exact r_widen X (by decide) (by decide) <| r_pick (by rfl : lpick [(0, .ref b0), (1, .int b1), (2, .int b2)] [0, 1, 2] = _) (t_j7_copyOfRange_39247_j10 X hl0 hr hnm E)
theorem t_j7_copyOfRange_39247 {l : Launch} {G : GG} {b0 : Nat} {b1 : Int32} {b2 : Int32} {g : AH} {r : Nat} {g1 : AH} (E : j7_copyOfRange_39247 b0 b1 b2 g = some (r, g1)) : Ct l G yJ7_copyOfRange_39247 cJ7_copyOfRange_39247 3 (some (.array .byte)) ⟨4, 2, 800, 174⟩ [.ref b0, .int b1, .int b2] g (some (.ref r)) g1 :=
  ct_of (L0 := [(0, .ref b0), (1, .int b1), (2, .int b2)]) y_J7_copyOfRange_39247 rfl (Nat.le_of_ble_eq_true rfl) fun M hl0 X hr hnm => t_j7_copyOfRange_39247_b X hl0 hr hnm E
set_option maxHeartbeats 4000000 in
set_option maxRecDepth 100000 in
theorem t_j0_init_db425_b {l : Launch} {G : GG} {M : MC} (X : CX M G cJ0_init_db425 5 RJ0 ⟨5, 2, 800, 196⟩) (hl0 : M.2.1 = l) (hr : (mM M).sig.returnType = none) (hnm : (mM M).name = yJ0_init_db425.name) {p : Nat} {b0 : Nat} {g : AH} {r : Unit} {g1 : AH} (E : j0_init_db425 p b0 g = some (r, g1)) : WW M G 5 (RQ M G none g1 2 800) 0 0 g 0 [(0, .ref p), (1, .ref b0), (2, va_rf (none))] [] := by
  unfold j0_init_db425 at E
  refine r_aload_n X 0 dJ0_init_db425_0 rfl rfl ?_
  refine r_objInit X dJ0_init_db425_1 m_J0_1 (by decide) (Nat.le_of_ble_eq_true rfl) ?_
  refine r_aload_n X 1 dJ0_init_db425_4 rfl rfl ?_
  obtain ⟨u4, e5, E⟩ := gb_some E
  obtain ⟨r1, g2, e3, E⟩ := cb_some E
  refine r_callU X hl0 (ci := 11) (rc := (RJ4, TJ4, 4)) dJ0_init_db425_5 yu_J5_getValue_6d5f1 m_J0_552 rfl e5 (t_j5_getValue_6d5f1 (l := l) (G := G) e3) rfl rfl (Nat.le_of_ble_eq_true rfl) (by decide) ?_
  refine r_astore_n X 3 (L1 := [(3, .ref r1), (0, .ref p), (1, .ref b0), (2, va_rf (none))]) dJ0_init_db425_8 rfl (by decide) rfl ?_
  refine r_aload_n X 1 dJ0_init_db425_9 rfl rfl ?_
  obtain ⟨u9, e10, E⟩ := gb_some E
  obtain ⟨r6, g7, e8, E⟩ := cb_some E
  refine r_callO X hl0 (ci := 11) (rc := (RJ4, TJ4, 4)) dJ0_init_db425_10 yo_J4_length_8abf5 m_J0_549 rfl e10 (t_j4_length_8abf5 (l := l) (G := G) e8) rfl rfl (Nat.le_of_ble_eq_true rfl) (by decide) ?_
  refine r_istore X (L1 := [(4, .int r6), (3, .ref r1), (0, .ref p), (1, .ref b0), (2, va_rf (none))]) dJ0_init_db425_13 (by decide) rfl ?_
  refine r_aload_n X 1 dJ0_init_db425_15 rfl rfl ?_
  obtain ⟨u14, e15, E⟩ := gb_some E
  obtain ⟨r11, g12, e13, E⟩ := cb_some E
  refine r_callU X hl0 (ci := 11) (rc := (RJ4, TJ4, 4)) dJ0_init_db425_16 yu_J5_isLatin1_aae02 m_J0_1047 rfl e15 (t_j5_isLatin1_aae02 (l := l) (G := G) e13) rfl rfl (Nat.le_of_ble_eq_true rfl) (by decide) ?_
  refine r_if_eq X 41 dJ0_init_db425_19 (by decide) (fun c16 => ?_) (fun c16 => ?_)
  · rw [if_pos c16] at E
    cases E
  · rw [if_neg c16] at E
    refine r_aload_n X 0 dJ0_init_db425_22 rfl rfl ?_
    refine r_iconst X (v := 0) dJ0_init_db425_23 (by decide) ?_
    obtain ⟨g17, e18, E⟩ := gb_some E
    refine r_putF X dJ0_init_db425_24 f_J0_15 hnm (by intro C T N h; cases h; rfl) rfl rfl e18 ?_
    refine r_aload_n X 0 dJ0_init_db425_27 rfl rfl ?_
    refine r_aload_n X 3 dJ0_init_db425_28 rfl rfl ?_
    refine r_iconst X (v := 0) dJ0_init_db425_29 (by decide) ?_
    refine r_iload X dJ0_init_db425_30 rfl ?_
    obtain ⟨r19, g20, e21, E⟩ := cb_some E
    refine r_callS X hl0 dJ0_init_db425_32 y_J7_copyOfRange_39247 m_J0_54 (t_j7_copyOfRange_39247 (l := l) (G := G) e21) rfl rfl (Nat.le_of_ble_eq_true rfl) (by decide) ?_
    obtain ⟨g22, e23, E⟩ := gb_some E
    refine r_putF X dJ0_init_db425_35 f_J0_9 hnm (by intro C T N h; cases h; rfl) rfl rfl e23 ?_
    refine r_goto X 97 dJ0_init_db425_38 (by decide) ?_
    cases E
    exact r_vret X hr dJ0_init_db425_97 (by decide) (by decide)
theorem t_j0_init_db425 {l : Launch} {G : GG} {p : Nat} {b0 : Nat} {g : AH} {r : Unit} {g1 : AH} (E : j0_init_db425 p b0 g = some (r, g1)) : Ct l G yJ0_init_db425 cJ0_init_db425 5 none ⟨5, 2, 800, 196⟩ [.ref p, .ref b0, va_rf (none)] g none g1 :=
  ct_of (L0 := [(0, .ref p), (1, .ref b0), (2, va_rf (none))]) y_J0_init_db425 rfl (Nat.le_of_ble_eq_true rfl) fun M hl0 X hr hnm => t_j0_init_db425_b X hl0 hr hnm E
set_option maxHeartbeats 4000000 in
set_option maxRecDepth 100000 in
theorem t_j0_init_81219_b {l : Launch} {G : GG} {M : MC} (X : CX M G cJ0_init_81219 2 RJ0 ⟨6, 2, 800, 220⟩) (hl0 : M.2.1 = l) (hr : (mM M).sig.returnType = none) (hnm : (mM M).name = yJ0_init_81219.name) {p : Nat} {b0 : Nat} {g : AH} {r : Unit} {g1 : AH} (E : j0_init_81219 p b0 g = some (r, g1)) : WW M G 2 (RQ M G none g1 2 800) 0 0 g 0 [(0, .ref p), (1, .ref b0)] [] := by
  unfold j0_init_81219 at E
  refine r_aload_n X 0 dJ0_init_81219_0 rfl rfl ?_
  refine r_aload_n X 1 dJ0_init_81219_1 rfl rfl ?_
  refine r_null X dJ0_init_81219_2 ?_
  obtain ⟨r1, g2, e3, E⟩ := cb_some E
  refine r_callI X hl0 dJ0_init_81219_3 y_J0_init_db425 m_J0_489 (t_j0_init_db425 (l := l) (G := G) e3) rfl rfl (Nat.le_of_ble_eq_true rfl) (by decide) ?_
  cases E
  exact r_vret X hr dJ0_init_81219_6 (by decide) (by decide)
theorem t_j0_init_81219 {l : Launch} {G : GG} {p : Nat} {b0 : Nat} {g : AH} {r : Unit} {g1 : AH} (E : j0_init_81219 p b0 g = some (r, g1)) : Ct l G yJ0_init_81219 cJ0_init_81219 2 none ⟨6, 2, 800, 220⟩ [.ref p, .ref b0] g none g1 :=
  ct_of (L0 := [(0, .ref p), (1, .ref b0)]) y_J0_init_81219 rfl (Nat.le_of_ble_eq_true rfl) fun M hl0 X hr hnm => t_j0_init_81219_b X hl0 hr hnm E
set_option maxHeartbeats 4000000 in
set_option maxRecDepth 100000 in
theorem t_j4_toString_0e30d_b {l : Launch} {G : GG} {M : MC} (X : CX M G cJ4_toString_0e30d 1 RJ4 ⟨7, 3, 804, 241⟩) (hl0 : M.2.1 = l) (hr : (mM M).sig.returnType = (some (.object "java/lang/String"))) (hnm : (mM M).name = yJ4_toString_0e30d.name) {p : Nat} {g : AH} {r : Nat} {g1 : AH} (E : j4_toString_0e30d p g = some (r, g1)) : WW M G 1 (RQ M G (some (.ref r)) g1 3 804) 0 0 g 0 [(0, .ref p)] [] := by
  unfold j4_toString_0e30d at E
  obtain ⟨x1, g2, e3, E⟩ := cb_some E
  refine r_new X (ci := 13) dJ4_toString_0e30d_0 rfl tyJ0_ok flc13 k_J4_18 n_J0 (by decide) e3 ?_
  refine r_dup X dJ4_toString_0e30d_3 rfl ?_
  refine r_aload_n X 0 dJ4_toString_0e30d_4 rfl rfl ?_
  obtain ⟨r4, g5, e6, E⟩ := cb_some E
  refine r_callI X hl0 dJ4_toString_0e30d_5 y_J0_init_81219 m_J4_137 (t_j0_init_81219 (l := l) (G := G) e6) rfl rfl (Nat.le_of_ble_eq_true rfl) (by decide) ?_
  cases E
  exact r_aret X hr (Or.inl ⟨_, rfl⟩) dJ4_toString_0e30d_8 (by decide) (by decide)
theorem t_j4_toString_0e30d {l : Launch} {G : GG} {p : Nat} {g : AH} {r : Nat} {g1 : AH} (E : j4_toString_0e30d p g = some (r, g1)) : Ct l G yJ4_toString_0e30d cJ4_toString_0e30d 1 (some (.object "java/lang/String")) ⟨7, 3, 804, 241⟩ [.ref p] g (some (.ref r)) g1 :=
  ct_of (L0 := [(0, .ref p)]) y_J4_toString_0e30d rfl (Nat.le_of_ble_eq_true rfl) fun M hl0 X hr hnm => t_j4_toString_0e30d_b X hl0 hr hnm E
set_option maxHeartbeats 4000000 in
set_option maxRecDepth 100000 in
theorem t_j0_isLatin1_aae02_b {l : Launch} {G : GG} {M : MC} (X : CX M G cJ0_isLatin1_aae02 1 RJ0 ⟨1, 0, 0, 60⟩) (hl0 : M.2.1 = l) (hr : (mM M).sig.returnType = (some .boolean)) (hnm : (mM M).name = yJ0_isLatin1_aae02.name) {p : Nat} {g : AH} {r : Int32} {g1 : AH} (E : j0_isLatin1_aae02 p g = some (r, g1)) : WW M G 1 (RQ M G (some (.int r)) g1 0 0) 0 0 g 0 [(0, .ref p)] [] := by
  unfold j0_isLatin1_aae02 at E
  refine r_gets0 X dJ0_isLatin1_aae02_0 g_J0_38 X.2.2.2.2.1.2.2.2.2.2.1.1 ?_
  refine r_if_eq X 17 dJ0_isLatin1_aae02_3 (by decide) (fun c1 => ?_) (fun c1 => ?_)
  · rw [if_pos c1] at E
    refine r_iconst X (v := 0) dJ0_isLatin1_aae02_17 (by decide) ?_
    cases E
    exact r_zret X hr (Or.inl rfl) dJ0_isLatin1_aae02_18 (by decide) (by decide)
  · rw [if_neg c1] at E
    refine r_aload_n X 0 dJ0_isLatin1_aae02_6 rfl rfl ?_
    obtain ⟨x2, e3, E⟩ := gb_some E
    refine r_getI X dJ0_isLatin1_aae02_7 f_J0_15 e3 ?_
    refine r_if_ne X 17 dJ0_isLatin1_aae02_10 (by decide) (fun c4 => ?_) (fun c4 => ?_)
    · rw [if_neg c4] at E
      refine r_iconst X (v := 0) dJ0_isLatin1_aae02_17 (by decide) ?_
      cases E
      exact r_zret X hr (Or.inl rfl) dJ0_isLatin1_aae02_18 (by decide) (by decide)
    · rw [if_pos c4] at E
      refine r_iconst X (v := 1) dJ0_isLatin1_aae02_13 (by decide) ?_
      refine r_goto X 18 dJ0_isLatin1_aae02_14 (by decide) ?_
      cases E
      exact r_zret X hr (Or.inr rfl) dJ0_isLatin1_aae02_18 (by decide) (by decide)
theorem t_j0_isLatin1_aae02 {l : Launch} {G : GG} {p : Nat} {g : AH} {r : Int32} {g1 : AH} (E : j0_isLatin1_aae02 p g = some (r, g1)) : Ct l G yJ0_isLatin1_aae02 cJ0_isLatin1_aae02 1 (some .boolean) ⟨1, 0, 0, 60⟩ [.ref p] g (some (.int r)) g1 :=
  ct_of (L0 := [(0, .ref p)]) y_J0_isLatin1_aae02 rfl (Nat.le_of_ble_eq_true rfl) fun M hl0 X hr hnm => t_j0_isLatin1_aae02_b X hl0 hr hnm E
set_option maxHeartbeats 4000000 in
set_option maxRecDepth 100000 in
theorem t_j1_charAt_3b067_b {l : Launch} {G : GG} {M : MC} (X : CX M G cJ1_charAt_3b067 2 RJ1 ⟨6, 0, 0, 200⟩) (hl0 : M.2.1 = l) (hr : (mM M).sig.returnType = (some .char)) (hnm : (mM M).name = yJ1_charAt_3b067.name) {b0 : Nat} {b1 : Int32} {g : AH} {r : Int32} {g1 : AH} (E : j1_charAt_3b067 b0 b1 g = some (r, g1)) : WW M G 2 (RQ M G (some (.int r)) g1 0 0) 0 0 g 0 [(0, .ref b0), (1, .int b1)] [] := by
  unfold j1_charAt_3b067 at E
  refine r_iload_n X 1 dJ1_charAt_3b067_0 rfl rfl ?_
  refine r_aload_n X 0 dJ1_charAt_3b067_1 rfl rfl ?_
  obtain ⟨x1, e2, E⟩ := gb_some E
  refine r_alen X 1 (by decide) dJ1_charAt_3b067_2 e2 ?_
  obtain ⟨u4, e3, E⟩ := gb_some E
  refine r_chkS X hl0 dJ1_charAt_3b067_3 m_J1_9 e3 (Nat.le_of_ble_eq_true rfl) (by decide) ?_
  refine r_aload_n X 0 dJ1_charAt_3b067_6 rfl rfl ?_
  refine r_iload_n X 1 dJ1_charAt_3b067_7 rfl rfl ?_
  obtain ⟨x5, e6, E⟩ := gb_some E
  refine r_bald X dJ1_charAt_3b067_8 e6 ?_
  refine r_sipush X (v := 255) dJ1_charAt_3b067_9 (by decide) ?_
  refine r_iand X dJ1_charAt_3b067_12 ?_
  refine r_i2c X dJ1_charAt_3b067_13 rfl ?_
  by_cases c7 : narI .char (((x5 &&& 255).toUInt32 % 65536).toInt32) = (((x5 &&& 255).toUInt32 % 65536).toInt32)
  · rw [if_pos c7] at E
    cases E
    exact r_nret X hr (nar_of (Or.inr rfl) c7) dJ1_charAt_3b067_14 (by decide) (by decide)
  · rw [if_neg c7] at E; cases E
theorem t_j1_charAt_3b067 {l : Launch} {G : GG} {b0 : Nat} {b1 : Int32} {g : AH} {r : Int32} {g1 : AH} (E : j1_charAt_3b067 b0 b1 g = some (r, g1)) : Ct l G yJ1_charAt_3b067 cJ1_charAt_3b067 2 (some .char) ⟨6, 0, 0, 200⟩ [.ref b0, .int b1] g (some (.int r)) g1 :=
  ct_of (L0 := [(0, .ref b0), (1, .int b1)]) y_J1_charAt_3b067 rfl (Nat.le_of_ble_eq_true rfl) fun M hl0 X hr hnm => t_j1_charAt_3b067_b X hl0 hr hnm E
set_option maxHeartbeats 4000000 in
set_option maxRecDepth 100000 in
theorem t_j0_charAt_5068e_b {l : Launch} {G : GG} {M : MC} (X : CX M G cJ0_charAt_5068e 2 RJ0 ⟨7, 0, 0, 221⟩) (hl0 : M.2.1 = l) (hr : (mM M).sig.returnType = (some .char)) (hnm : (mM M).name = yJ0_charAt_5068e.name) {p : Nat} {b0 : Int32} {g : AH} {r : Int32} {g1 : AH} (E : j0_charAt_5068e p b0 g = some (r, g1)) : WW M G 2 (RQ M G (some (.int r)) g1 0 0) 0 0 g 0 [(0, .ref p), (1, .int b0)] [] := by
  unfold j0_charAt_5068e at E
  refine r_aload_n X 0 dJ0_charAt_5068e_0 rfl rfl ?_
  obtain ⟨u4, e5, E⟩ := gb_some E
  obtain ⟨r1, g2, e3, E⟩ := cb_some E
  refine r_callV0 X hl0 (ci := 13) dJ0_charAt_5068e_1 y_J0_isLatin1_aae02 m_J0_492 rfl rfl e5 (t_j0_isLatin1_aae02 (l := l) (G := G) e3) rfl rfl (Nat.le_of_ble_eq_true rfl) (by decide) ?_
  refine r_if_eq X 16 dJ0_charAt_5068e_4 (by decide) (fun c6 => ?_) (fun c6 => ?_)
  · rw [if_pos c6] at E
    cases E
  · rw [if_neg c6] at E
    refine r_aload_n X 0 dJ0_charAt_5068e_7 rfl rfl ?_
    obtain ⟨x7, e8, E⟩ := gb_some E
    refine r_getR X dJ0_charAt_5068e_8 f_J0_9 e8 ?_
    refine r_iload_n X 1 dJ0_charAt_5068e_11 rfl rfl ?_
    obtain ⟨r9, g10, e11, E⟩ := cb_some E
    refine r_callS0 X hl0 dJ0_charAt_5068e_12 y_J1_charAt_3b067 m_J0_495 (t_j1_charAt_3b067 (l := l) (G := G) e11) rfl rfl (Nat.le_of_ble_eq_true rfl) (by decide) ?_
    by_cases c12 : narI .char r9 = r9
    · rw [if_pos c12] at E
      cases E
      exact r_nret X hr (nar_of (Or.inr rfl) c12) dJ0_charAt_5068e_15 (by decide) (by decide)
    · rw [if_neg c12] at E; cases E
theorem t_j0_charAt_5068e {l : Launch} {G : GG} {p : Nat} {b0 : Int32} {g : AH} {r : Int32} {g1 : AH} (E : j0_charAt_5068e p b0 g = some (r, g1)) : Ct l G yJ0_charAt_5068e cJ0_charAt_5068e 2 (some .char) ⟨7, 0, 0, 221⟩ [.ref p, .int b0] g (some (.int r)) g1 :=
  ct_of (L0 := [(0, .ref p), (1, .int b0)]) y_J0_charAt_5068e rfl (Nat.le_of_ble_eq_true rfl) fun M hl0 X hr hnm => t_j0_charAt_5068e_b X hl0 hr hnm E
set_option maxHeartbeats 4000000 in
set_option maxRecDepth 100000 in
theorem t_jx4a65c_elementData_915e3_b {l : Launch} {G : GG} {M : MC} (X : CX M G cJx4a65c_elementData_915e3 2 RJx4a65c ⟨1, 0, 0, 60⟩) (hl0 : M.2.1 = l) (hr : (mM M).sig.returnType = (some (.object "java/lang/Object"))) (hnm : (mM M).name = yJx4a65c_elementData_915e3.name) {p : Nat} {b0 : Int32} {g : AH} {r : Nat} {g1 : AH} (E : jx4a65c_elementData_915e3 p b0 g = some (r, g1)) : WW M G 2 (RQ M G (some (.ref r)) g1 0 0) 0 0 g 0 [(0, .ref p), (1, .int b0)] [] := by
  unfold jx4a65c_elementData_915e3 at E
  refine r_aload_n X 0 dJx4a65c_elementData_915e3_0 rfl rfl ?_
  obtain ⟨x1, e2, E⟩ := gb_some E
  refine r_getR X dJx4a65c_elementData_915e3_1 f_Jx4a65c_9 e2 ?_
  refine r_iload_n X 1 dJx4a65c_elementData_915e3_4 rfl rfl ?_
  obtain ⟨x3, e4, E⟩ := gb_some E
  refine r_aald X 6 (by decide) rfl dJx4a65c_elementData_915e3_5 e4 ?_
  cases E
  exact r_aret X hr (Or.inl ⟨_, rfl⟩) dJx4a65c_elementData_915e3_6 (by decide) (by decide)
theorem t_jx4a65c_elementData_915e3 {l : Launch} {G : GG} {p : Nat} {b0 : Int32} {g : AH} {r : Nat} {g1 : AH} (E : jx4a65c_elementData_915e3 p b0 g = some (r, g1)) : Ct l G yJx4a65c_elementData_915e3 cJx4a65c_elementData_915e3 2 (some (.object "java/lang/Object")) ⟨1, 0, 0, 60⟩ [.ref p, .int b0] g (some (.ref r)) g1 :=
  ct_of (L0 := [(0, .ref p), (1, .int b0)]) y_Jx4a65c_elementData_915e3 rfl (Nat.le_of_ble_eq_true rfl) fun M hl0 X hr hnm => t_jx4a65c_elementData_915e3_b X hl0 hr hnm E
set_option maxHeartbeats 4000000 in
set_option maxRecDepth 100000 in
theorem t_jx4a65c_get_915e3_b {l : Launch} {G : GG} {M : MC} (X : CX M G cJx4a65c_get_915e3 2 RJx4a65c ⟨3, 0, 0, 150⟩) (hl0 : M.2.1 = l) (hr : (mM M).sig.returnType = (some (.object "java/lang/Object"))) (hnm : (mM M).name = yJx4a65c_get_915e3.name) {p : Nat} {b0 : Int32} {g : AH} {r : Nat} {g1 : AH} (E : jx4a65c_get_915e3 p b0 g = some (r, g1)) : WW M G 2 (RQ M G (some (.ref r)) g1 0 0) 0 0 g 0 [(0, .ref p), (1, .int b0)] [] := by
  unfold jx4a65c_get_915e3 at E
  refine r_iload_n X 1 dJx4a65c_get_915e3_0 rfl rfl ?_
  refine r_aload_n X 0 dJx4a65c_get_915e3_1 rfl rfl ?_
  obtain ⟨x1, e2, E⟩ := gb_some E
  refine r_getI X dJx4a65c_get_915e3_2 f_Jx4a65c_48 e2 ?_
  obtain ⟨u4, e3, E⟩ := gb_some E
  refine r_chkO X hl0 dJx4a65c_get_915e3_5 m_Jx4a65c_118 e3 (Nat.le_of_ble_eq_true rfl) (by decide) ?_
  refine r_pop X dJx4a65c_get_915e3_8 rfl ?_
  refine r_aload_n X 0 dJx4a65c_get_915e3_9 rfl rfl ?_
  refine r_iload_n X 1 dJx4a65c_get_915e3_10 rfl rfl ?_
  obtain ⟨u8, e9, E⟩ := gb_some E
  obtain ⟨r5, g6, e7, E⟩ := cb_some E
  refine r_callV0 X hl0 (ci := 12) dJx4a65c_get_915e3_11 y_Jx4a65c_elementData_915e3 m_Jx4a65c_123 rfl rfl e9 (t_jx4a65c_elementData_915e3 (l := l) (G := G) e7) rfl rfl (Nat.le_of_ble_eq_true rfl) (by decide) ?_
  cases E
  exact r_aret X hr (Or.inl ⟨_, rfl⟩) dJx4a65c_get_915e3_14 (by decide) (by decide)
theorem t_jx4a65c_get_915e3 {l : Launch} {G : GG} {p : Nat} {b0 : Int32} {g : AH} {r : Nat} {g1 : AH} (E : jx4a65c_get_915e3 p b0 g = some (r, g1)) : Ct l G yJx4a65c_get_915e3 cJx4a65c_get_915e3 2 (some (.object "java/lang/Object")) ⟨3, 0, 0, 150⟩ [.ref p, .int b0] g (some (.ref r)) g1 :=
  ct_of (L0 := [(0, .ref p), (1, .int b0)]) y_Jx4a65c_get_915e3 rfl (Nat.le_of_ble_eq_true rfl) fun M hl0 X hr hnm => t_jx4a65c_get_915e3_b X hl0 hr hnm E
set_option maxHeartbeats 4000000 in
set_option maxRecDepth 100000 in
theorem t_jxa1e45_init_da8c8_b {l : Launch} {G : GG} {M : MC} (X : CX M G cJxa1e45_init_da8c8 1 RJxa1e45 ⟨3, 0, 0, 150⟩) (hl0 : M.2.1 = l) (hr : (mM M).sig.returnType = none) (hnm : (mM M).name = yJxa1e45_init_da8c8.name) {p : Nat} {g : AH} {r : Unit} {g1 : AH} (E : jxa1e45_init_da8c8 p g = some (r, g1)) : WW M G 1 (RQ M G none g1 0 0) 0 0 g 0 [(0, .ref p)] [] := by
  unfold jxa1e45_init_da8c8 at E
  refine r_aload_n X 0 dJxa1e45_init_da8c8_0 rfl rfl ?_
  refine r_objInit X dJxa1e45_init_da8c8_1 m_Jxa1e45_1 (by decide) (Nat.le_of_ble_eq_true rfl) ?_
  cases E
  exact r_vret X hr dJxa1e45_init_da8c8_4 (by decide) (by decide)
theorem t_jxa1e45_init_da8c8 {l : Launch} {G : GG} {p : Nat} {g : AH} {r : Unit} {g1 : AH} (E : jxa1e45_init_da8c8 p g = some (r, g1)) : Ct l G yJxa1e45_init_da8c8 cJxa1e45_init_da8c8 1 none ⟨3, 0, 0, 150⟩ [.ref p] g none g1 :=
  ct_of (L0 := [(0, .ref p)]) y_Jxa1e45_init_da8c8 rfl (Nat.le_of_ble_eq_true rfl) fun M hl0 X hr hnm => t_jxa1e45_init_da8c8_b X hl0 hr hnm E
set_option maxHeartbeats 4000000 in
set_option maxRecDepth 100000 in
theorem t_jxc12de_init_da8c8_b {l : Launch} {G : GG} {M : MC} (X : CX M G cJxc12de_init_da8c8 1 RJxc12de ⟨4, 0, 0, 170⟩) (hl0 : M.2.1 = l) (hr : (mM M).sig.returnType = none) (hnm : (mM M).name = yJxc12de_init_da8c8.name) {p : Nat} {g : AH} {r : Unit} {g1 : AH} (E : jxc12de_init_da8c8 p g = some (r, g1)) : WW M G 1 (RQ M G none g1 0 0) 0 0 g 0 [(0, .ref p)] [] := by
  unfold jxc12de_init_da8c8 at E
  refine r_aload_n X 0 dJxc12de_init_da8c8_0 rfl rfl ?_
  obtain ⟨r1, g2, e3, E⟩ := cb_some E
  refine r_callI0 X hl0 dJxc12de_init_da8c8_1 y_Jxa1e45_init_da8c8 m_Jxc12de_1 (t_jxa1e45_init_da8c8 (l := l) (G := G) e3) rfl rfl (Nat.le_of_ble_eq_true rfl) (by decide) ?_
  refine r_aload_n X 0 dJxc12de_init_da8c8_4 rfl rfl ?_
  refine r_iconst X (v := 0) dJxc12de_init_da8c8_5 (by decide) ?_
  obtain ⟨g4, e5, E⟩ := gb_some E
  refine r_put X dJxc12de_init_da8c8_6 f_Jxc12de_7 rfl rfl e5 ?_
  cases E
  exact r_vret X hr dJxc12de_init_da8c8_9 (by decide) (by decide)
theorem t_jxc12de_init_da8c8 {l : Launch} {G : GG} {p : Nat} {g : AH} {r : Unit} {g1 : AH} (E : jxc12de_init_da8c8 p g = some (r, g1)) : Ct l G yJxc12de_init_da8c8 cJxc12de_init_da8c8 1 none ⟨4, 0, 0, 170⟩ [.ref p] g none g1 :=
  ct_of (L0 := [(0, .ref p)]) y_Jxc12de_init_da8c8 rfl (Nat.le_of_ble_eq_true rfl) fun M hl0 X hr hnm => t_jxc12de_init_da8c8_b X hl0 hr hnm E
set_option maxHeartbeats 4000000 in
set_option maxRecDepth 100000 in
theorem t_jx4a65c_init_da8c8_b {l : Launch} {G : GG} {M : MC} (X : CX M G cJx4a65c_init_da8c8 1 RJx4a65c ⟨5, 0, 0, 190⟩) (hl0 : M.2.1 = l) (hr : (mM M).sig.returnType = none) (hnm : (mM M).name = yJx4a65c_init_da8c8.name) {p : Nat} {g : AH} {r : Unit} {g1 : AH} (E : jx4a65c_init_da8c8 (GK G) p g = some (r, g1)) : WW M G 1 (RQ M G none g1 0 0) 0 0 g 0 [(0, .ref p)] [] := by
  unfold jx4a65c_init_da8c8 at E
  refine r_aload_n X 0 dJx4a65c_init_da8c8_0 rfl rfl ?_
  obtain ⟨r1, g2, e3, E⟩ := cb_some E
  refine r_callI0 X hl0 dJx4a65c_init_da8c8_1 y_Jxc12de_init_da8c8 m_Jx4a65c_1 (t_jxc12de_init_da8c8 (l := l) (G := G) e3) rfl rfl (Nat.le_of_ble_eq_true rfl) (by decide) ?_
  refine r_aload_n X 0 dJx4a65c_init_da8c8_4 rfl rfl ?_
  refine r_gets0 X dJx4a65c_init_da8c8_5 g_Jx4a65c_39 X.sx.2.2.2.1.1 ?_
  obtain ⟨g4, e5, E⟩ := gb_some E
  refine r_put X dJx4a65c_init_da8c8_8 f_Jx4a65c_9 rfl rfl e5 ?_
  cases E
  exact r_vret X hr dJx4a65c_init_da8c8_11 (by decide) (by decide)
theorem t_jx4a65c_init_da8c8 {l : Launch} {G : GG} {p : Nat} {g : AH} {r : Unit} {g1 : AH} (E : jx4a65c_init_da8c8 (GK G) p g = some (r, g1)) : Ct l G yJx4a65c_init_da8c8 cJx4a65c_init_da8c8 1 none ⟨5, 0, 0, 190⟩ [.ref p] g none g1 :=
  ct_of (L0 := [(0, .ref p)]) y_Jx4a65c_init_da8c8 rfl (Nat.le_of_ble_eq_true rfl) fun M hl0 X hr hnm => t_jx4a65c_init_da8c8_b X hl0 hr hnm E
set_option maxHeartbeats 4000000 in
set_option maxRecDepth 100000 in
theorem t_x9_init_b {l : Launch} {G : GG} {M : MC} (X : CX M G cX9_init 1 RX9 ⟨3, 1, 4, 150⟩) (hl0 : M.2.1 = l) (hr : (mM M).sig.returnType = none) (hnm : (mM M).name = yX9_init.name) {p : Nat} {g : AH} {r : Unit} {g1 : AH} (E : x9_init p g = some (r, g1)) : WW M G 1 (RQ M G none g1 1 4) 0 0 g 0 [(0, .ref p)] [] := by
  unfold x9_init at E
  refine r_aload_n X 0 dX9_init_0 rfl rfl ?_
  refine r_objInit X dX9_init_1 m_X9_1 (by decide) (Nat.le_of_ble_eq_true rfl) ?_
  refine r_aload_n X 0 dX9_init_4 rfl rfl ?_
  refine r_iconst X (v := (-1)) dX9_init_5 (by decide) ?_
  obtain ⟨g1, e2, E⟩ := gb_some E
  refine r_put X dX9_init_6 f_X9_7 rfl rfl e2 ?_
  refine r_aload_n X 0 dX9_init_9 rfl rfl ?_
  refine r_iconst X (v := (-1)) dX9_init_10 (by decide) ?_
  obtain ⟨g3, e4, E⟩ := gb_some E
  refine r_put X dX9_init_11 f_X9_13 rfl rfl e4 ?_
  refine r_aload_n X 0 dX9_init_14 rfl rfl ?_
  refine r_iconst X (v := 4) dX9_init_15 (by decide) ?_
  obtain ⟨x5, g6, e7, E⟩ := cb_some E
  refine r_newarr X 0 4 dX9_init_16 (by decide) rfl a_int (fun _ _ => rfl) (by decide) (by decide) (by decide) e7 ?_
  obtain ⟨g8, e9, E⟩ := gb_some E
  refine r_putF X dX9_init_18 f_X9_16 hnm (by intro C T N h; cases h; rfl) rfl rfl e9 ?_
  cases E
  exact r_vret X hr dX9_init_21 (by decide) (by decide)
theorem t_x9_init {l : Launch} {G : GG} {p : Nat} {g : AH} {r : Unit} {g1 : AH} (E : x9_init p g = some (r, g1)) : Ct l G yX9_init cX9_init 1 none ⟨3, 1, 4, 150⟩ [.ref p] g none g1 :=
  ct_of (L0 := [(0, .ref p)]) y_X9_init rfl (Nat.le_of_ble_eq_true rfl) fun M hl0 X hr hnm => t_x9_init_b X hl0 hr hnm E
