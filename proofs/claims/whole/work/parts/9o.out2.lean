/-! the reference writes bytes and numbers -/
theorem bv_byte (b : BitVec 32) : (BitVec.signExtend 32 (BitVec.signExtend 8 b)) &&& 255#32 = b &&& 255#32 := by
  apply BitVec.eq_of_getLsbD_eq
  intro i hi
  rw [BitVec.getLsbD_and, BitVec.getLsbD_and, BitVec.getLsbD_signExtend]
  have e : (255#32).getLsbD i = decide (i < 8) := by
    rw [BitVec.getLsbD_ofNat, show (255 : Nat) = 2 ^ 8 - 1 from rfl, Nat.testBit_two_pow_sub_one]
    simp [hi]
  rw [e]
  by_cases h8 : i < 8
  · rw [if_pos h8, BitVec.getLsbD_signExtend, if_pos hi]
    simp [h8, hi]
  · simp [h8]
theorem byte_and (x : Int32) : ((x.toInt8.toInt32).toInt8.toInt32) &&& 255 = x &&& 255 := by
  have e : (x.toInt8.toInt32).toInt8 = x.toInt8 := by simp
  rw [e]
  apply Int32.toBitVec_inj.mp
  have e2 : (255 : Int32).toBitVec = 255#32 := rfl
  have e3 := bv_byte x.toBitVec
  rw [Int32.toBitVec_and, Int32.toBitVec_and, Int8.toBitVec_toInt32, Int32.toBitVec_toInt8, e2]
  generalize x.toBitVec = b at e3 ⊢
  rw [e3]
theorem I_byte {b : Nat} (hb : b < 256) : I b &&& 255 = I b := by
  apply Int32.toBitVec_inj.mp
  rw [Int32.toBitVec_and]
  apply BitVec.eq_of_toNat_eq
  rw [BitVec.toNat_and]
  have e1 : (I b).toBitVec.toNat = b := by
    show (Int32.ofNat b).toBitVec.toNat = b
    rw [Int32.toBitVec_ofNat', BitVec.toNat_ofNat]
    omega
  have e2 : (255 : Int32).toBitVec.toNat = 2 ^ 8 - 1 := rfl
  rw [e1, e2, Nat.and_two_pow_sub_one_eq_mod]
  omega
section Out2
variable {g : AH} {p m : Nat} {r : RS} {l : List Nat}
theorem s_put {b : Nat} {x : Int32} (h : OR r l) (hl : l.length < 300) (hb : b < 256) (hx : x = I b) : ∃ r1, x9_writeByte m x (putR g m r) = some ((), putR g m r1) ∧ OR r1 (l ++ [b]) ∧ Ro r r1 := by
  obtain ⟨h1, h2⟩ := h
  unfold x9_writeByte
  rw [R_getR (d := 10) rfl, gb_s, R_getI rfl, gb_s, h1, R_astN (d := 10) (t := 1) (by decide) (by decide) rfl hl, gb_s, R_getI rfl, gb_s, show (RS_setA r 10 (upd (r.2 10) l.length ((x.toInt8.toInt32).toInt8.toInt32))).1 20 = I l.length from h1, I_succ, R_putI rfl, gb_s]
  refine ⟨_, rfl, ⟨?_, fun i hi => ?_⟩, fun k hk0 => RSF_ne hk0, fun d hd => RS_ne hd⟩
  · rw [List.length_append, List.length_singleton]
    exact RSF_at _ _ _
  · rw [List.length_append, List.length_singleton] at hi
    show (RS_setA r 10 (upd (r.2 10) l.length ((x.toInt8.toInt32).toInt8.toInt32))).2 10 i &&& 255 = _
    rw [RS_at]
    by_cases hil : i = l.length
    · rw [hil, upd_at, getD_end, byte_and, hx, I_byte hb]
    · rw [upd_ne hil, getD_app (by omega)]
      exact h2 i (by omega)
theorem s_number : ∀ f v r l, OR r l → v < 2 ^ 31 → v < 10 ^ f → 0 < f → l.length + f ≤ 300 → ∃ r1, x9_writeNumber f m (I v) (putR g m r) = some ((), putR g m r1) ∧ OR r1 (l ++ dgs f v) ∧ Ro r r1 := by
  intro f
  induction f with
  | zero => intro v r l _ _ _ h0; omega
  | succ f ih =>
    intro v r l h hv hf _ hl
    have e14 : ∀ r l, OR r l → l.length < 300 → ∃ r1, x9_writeNumber_j14 m (I v) (putR g m r) = some ((), putR g m r1) ∧ OR r1 (l ++ [48 + v % 10]) ∧ Ro r r1 := by
      intro r l h hl
      have ed : (48 : Int32) + (I v - I v / 10 * 10) = I (48 + v % 10) := by
        rw [show (I v / 10 : Int32) = I (v / 10) from I_div hv (by decide), show (I (v / 10) * 10 : Int32) = I (v / 10 * 10) from I_mul _ 10, I_sub (by omega), show (48 : Int32) = I 48 from rfl, I_add]
        congr 1
        omega
      obtain ⟨r1, e1, e2, e3⟩ := s_put (g := g) (m := m) (b := 48 + v % 10) h hl (by omega) rfl
      unfold x9_writeNumber_j14
      rw [R_isO, gb_s, ed, e1, cb_s]
      exact ⟨r1, rfl, e2, e3⟩
    rw [x9_writeNumber, dgs]
    by_cases h9 : v ≤ 9
    · rw [if_pos (show I v ≤ 9 by rw [show (9 : Int32) = I 9 from rfl, I_le hv (by decide)]; exact h9), if_pos h9]
      obtain ⟨r1, e1, e2, e3⟩ := e14 r l h (by omega)
      rw [show v % 10 = v by omega] at e2
      exact ⟨r1, e1, e2, e3⟩
    · rw [if_neg (show ¬ I v ≤ 9 by rw [show (9 : Int32) = I 9 from rfl, I_le hv (by decide)]; exact h9), if_neg h9, R_isO, gb_s, show (I v / 10 : Int32) = I (v / 10) from I_div hv (by decide)]
      have hf0 : 0 < f := by
        rcases Nat.eq_zero_or_pos f with e | e
        · subst e
          simp at hf
          omega
        · exact e
      have hf1 : v / 10 < 10 ^ f := by
        rw [Nat.pow_succ] at hf
        omega
      obtain ⟨r1, e1, e2, e3⟩ := ih (v / 10) r l h (by omega) hf1 hf0 (by omega)
      have hln := dgs_len f (v / 10)
      obtain ⟨r2, f1, f2, f3⟩ := e14 r1 (l ++ dgs f (v / 10)) e2 (by rw [List.length_append]; omega)
      rw [e1, cb_s, f1]
      rw [List.append_assoc] at f2
      exact ⟨r2, rfl, f2, e3.trans f3⟩
end Out2
