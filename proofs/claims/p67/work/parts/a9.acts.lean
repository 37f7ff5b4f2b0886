/-! the law's acts: pieces of the method, one for each kind -/
def ta_0 (k9 : KK) (p r15 r36 : Nat) (x43 r47 r52 : Int32) (g58 : AH) : Option (Int32 × AH) :=
  gb (getI 10 g58 p 8) fun x63 => if x63 = 0 then
  gb (getR 10 g58 p 0) fun x98 => cb (l_takeBlanket x98 x43 0 g58) fun r100 g101 => if r100 = (-101) then
  some (1, g101)
  else
  some (0, g101)
  else
  gb (getI 10 g58 p 8) fun x66 => gb (isO 10 g58 p) fun _ => cb (l_draw k9 p x66 g58) fun r68 g69 => gb (isO 10 g69 p) fun _ => cb (l_under p r68 g69) fun r73 g74 => nb r73 (gb (putV 9 g74 r15 6 (.int r68)) fun g79 => gb (getR 10 g79 p 0) fun x81 => cb (l_takeBlanket x81 x43 r68 g79) fun r83 g84 => gb (isO 10 g84 p) fun _ => cb (l_warm p r15 g84) fun r86 g87 => if r83 = r86 then
  some (1, g87)
  else
  some (0, g87)) (fun y78 =>
  gb (getR 10 g74 p 0) fun x92 => cb (l_takeBlanket x92 x43 r68 g74) fun r94 g95 => if r94 = (-103) then
  some (1, g95)
  else
  some (0, g95))
def ta_1 (k9 : KK) (p r15 r36 : Nat) (x43 r47 r52 : Int32) (g58 : AH) : Option (Int32 × AH) :=
  gb (getI 10 g58 p 8) fun x105 => if x105 = 0 then
  gb (getR 10 g58 p 0) fun x140 => cb (l_takeBlanket x140 x43 0 g58) fun r142 g143 => if r142 = (-101) then
  some (1, g143)
  else
  some (0, g143)
  else
  gb (getI 10 g58 p 8) fun x108 => gb (isO 10 g58 p) fun _ => cb (l_draw k9 p x108 g58) fun r110 g111 => gb (isO 10 g111 p) fun _ => cb (l_under p r110 g111) fun r115 g116 => nb r115 (gb (putV 9 g116 r15 6 (.int r110)) fun g121 => gb (getR 10 g121 p 0) fun x123 => cb (l_takeBlanket x123 x43 r110 g121) fun r125 g126 => gb (isO 10 g126 p) fun _ => cb (l_warm p r15 g126) fun r128 g129 => if r125 = r128 then
  some (1, g129)
  else
  some (0, g129)) (fun y120 =>
  gb (getR 10 g116 p 0) fun x134 => cb (l_takeBlanket x134 x43 r110 g116) fun r136 g137 => if r136 = (-103) then
  some (1, g137)
  else
  some (0, g137))
def ta_2 (k9 : KK) (p r15 r36 : Nat) (x43 r47 r52 : Int32) (g58 : AH) : Option (Int32 × AH) :=
  gb (getI 9 g58 r15 6) fun x147 => gb (putV 9 g58 r15 6 (.int (-1))) fun g149 => gb (getR 10 g149 p 0) fun x151 => cb (l_returnBlanket x151 x43 g149) fun r153 g154 => if 0 ≤ x147 then
  l_act_j264 k9 x147 r153 g154
  else
  l_act_j264 k9 (-103) r153 g154
def ta_3 (k9 : KK) (p r15 r36 : Nat) (x43 r47 r52 : Int32) (g58 : AH) : Option (Int32 × AH) :=
  if r15 = r36 then
  l_act_j292 k9 p r36 x43 g58
  else
  gb (getI 9 g58 r15 6) fun x159 => if 0 ≤ x159 then
  l_act_j315 k9 p r15 r36 x43 g58
  else
  gb (getI 9 g58 r36 6) fun x162 => if 0 ≤ x162 then
  l_act_j315 k9 p r15 r36 x43 g58
  else
  l_act_j292 k9 p r36 x43 g58
def ta_4 (k9 : KK) (p r15 r36 : Nat) (x43 r47 r52 : Int32) (g58 : AH) : Option (Int32 × AH) :=
  gb (isO 10 g58 p) fun _ => cb (l_in p r47 g58) fun r166 g167 => nb r166 (gb (putV 9 g167 r15 5 (.int r47)) fun g172 => gb (getR 10 g172 p 0) fun x174 => cb (l_lieDown x174 x43 r47 g172) fun r176 g177 => gb (isO 10 g177 p) fun _ => cb (l_noise p r47 g177) fun r179 g180 => if r176 = r179 then
  some (1, g180)
  else
  some (0, g180)) (fun y171 =>
  gb (getR 10 g167 p 0) fun x185 => cb (l_lieDown x185 x43 r47 g167) fun r187 g188 => if r187 = (-103) then
  some (1, g188)
  else
  some (0, g188))
def ta_5 (k9 : KK) (p r15 r36 : Nat) (x43 r47 r52 : Int32) (g58 : AH) : Option (Int32 × AH) :=
  gb (isO 10 g58 p) fun _ => cb (l_in p r47 g58) fun r192 g193 => nb r192 (gb (putV 9 g193 r15 5 (.int r47)) fun g198 => gb (getR 10 g198 p 0) fun x200 => cb (l_lieDown x200 x43 r47 g198) fun r202 g203 => gb (isO 10 g203 p) fun _ => cb (l_noise p r47 g203) fun r205 g206 => if r202 = r205 then
  some (1, g206)
  else
  some (0, g206)) (fun y197 =>
  gb (getR 10 g193 p 0) fun x211 => cb (l_lieDown x211 x43 r47 g193) fun r213 g214 => if r213 = (-103) then
  some (1, g214)
  else
  some (0, g214))
def ta_6 (k9 : KK) (p r15 r36 : Nat) (x43 r47 r52 : Int32) (g58 : AH) : Option (Int32 × AH) :=
  gb (isO 10 g58 p) fun _ => cb (l_in p r47 g58) fun r218 g219 => nb r218 (gb (putV 9 g219 r15 5 (.int r47)) fun g224 => gb (getR 10 g224 p 0) fun x226 => cb (l_lieDown x226 x43 r47 g224) fun r228 g229 => gb (isO 10 g229 p) fun _ => cb (l_noise p r47 g229) fun r231 g232 => if r228 = r231 then
  some (1, g232)
  else
  some (0, g232)) (fun y223 =>
  gb (getR 10 g219 p 0) fun x237 => cb (l_lieDown x237 x43 r47 g219) fun r239 g240 => if r239 = (-103) then
  some (1, g240)
  else
  some (0, g240))
def ta_7 (k9 : KK) (p r15 r36 : Nat) (x43 r47 r52 : Int32) (g58 : AH) : Option (Int32 × AH) :=
  gb (getI 9 g58 r15 5) fun x244 => gb (putV 9 g58 r15 5 (.int (-1))) fun g246 => gb (getR 10 g246 p 0) fun x248 => cb (l_getUp x248 x43 g246) fun r250 g251 => if 0 ≤ x244 then
  l_act_j503 k9 x244 r250 g251
  else
  l_act_j503 k9 (-103) r250 g251
def ta_8 (k9 : KK) (p r15 r36 : Nat) (x43 r47 r52 : Int32) (g58 : AH) : Option (Int32 × AH) :=
  gb (getI 10 g58 p 11) fun x255 => gb (isO 10 g58 p) fun _ => cb (l_draw k9 p 4 g58) fun r257 g258 => gb (putV 10 g258 p 11 (.int r257)) fun g262 => gb (getR 10 g262 p 0) fun x264 => gb (getI 10 g262 p 11) fun x266 => cb (l_setRate x264 x266 g262) fun r268 g269 => if r268 = x255 then
  some (1, g269)
  else
  some (0, g269)
def ta_9 (k9 : KK) (p r15 r36 : Nat) (x43 r47 r52 : Int32) (g58 : AH) : Option (Int32 × AH) :=
  gb (getI 10 g58 p 10) fun x273 => if (x273 + (1 + r52)) ≤ 99 then
  gb (getI 10 g58 p 10) fun x276 => gb (putV 10 g58 p 10 (.int (x276 + (1 + r52)))) fun g278 => gb (getR 10 g278 p 0) fun x280 => cb (l_fetchLogs x280 (1 + r52) g278) fun r282 g283 => gb (getI 10 g283 p 10) fun x285 => if r282 = x285 then
  some (1, g283)
  else
  some (0, g283)
  else
  gb (getR 10 g58 p 0) fun x288 => cb (l_fetchLogs x288 (1 + r52) g58) fun r290 g291 => if r290 = (-103) then
  some (1, g291)
  else
  some (0, g291)
def ta_10 (k9 : KK) (p r15 r36 : Nat) (x43 r47 r52 : Int32) (g58 : AH) : Option (Int32 × AH) :=
  gb (getI 9 g58 r15 3) fun x295 => if x295 < (1 + r52) then
  l_act_j632 k9 p x43 (1 + r52) g58
  else
  gb (getI 9 g58 r15 4) fun x298 => if (1 + r52) ≤ x298 then
  gb (getI 9 g58 r15 3) fun x301 => gb (putV 9 g58 r15 3 (.int (x301 - (1 + r52)))) fun g303 => gb (getI 9 g303 r15 4) fun x305 => gb (putV 9 g303 r15 4 (.int (x305 - (1 + r52)))) fun g307 => gb (getI 10 g307 p 16) fun x309 => gb (putV 10 g307 p 16 (.int (x309 + (1 + r52)))) fun g311 => gb (getR 10 g311 p 0) fun x313 => cb (l_payDebt x313 x43 (1 + r52) g311) fun r315 g316 => gb (getI 9 g316 r15 4) fun x318 => if r315 = x318 then
  some (1, g316)
  else
  some (0, g316)
  else
  l_act_j632 k9 p x43 (1 + r52) g58
def ta_11 (k9 : KK) (p r15 r36 : Nat) (x43 r47 r52 : Int32) (g58 : AH) : Option (Int32 × AH) :=
  gb (getR 10 g58 p 0) fun x322 => cb (l_passHours x322 (1 + r52) g58) fun r324 g325 => if r324 < 0 then
  some (0, g325)
  else
  gb (getR 10 g325 p 0) fun x328 => cb (l_back x328 g325) fun r330 g331 => if r330 < 0 then
  some (0, g331)
  else
  some (1, g331)
def ta_12 (k9 : KK) (p r15 r36 : Nat) (x43 r47 r52 : Int32) (g58 : AH) : Option (Int32 × AH) :=
  gb (getI 10 g58 p 16) fun x334 => cb (loopX (l_act_l746 k9 p (1 + r52) x334) 1000 0 g58) fun t336 g337 =>
  gb (getR 10 g337 p 0) fun x339 => cb (l_passHours x339 (1 + r52) g337) fun r341 g342 => gb (getI 10 g342 p 16) fun x344 => if r341 = (x344 - x334) then
  some (1, g342)
  else
  some (0, g342)
def Rn (k9 : KK) (A : Nat → Nat) (n K T : Nat) (g : AH) : Prop := ∃ w r, LQ g A n k9.2.1 (I K) (r.2 1) w ∧ J w r ∧ Au (r.2 1) ∧ nT (r.2 1) ≤ T ∧ Sz (r.2 1) ∧ Kq w
def Fin1 (k9 : KK) (A : Nat → Nat) (n K T : Nat) (e : Option (Int32 × AH)) : Prop := ∃ g1 K1, e = some (1, g1) ∧ K1 ≤ K + 1 ∧ Rn k9 A n K1 T g1
theorem pfS0 {s : St × St} {a b : Int32} : pfS s 0 a b = upd s.1 (49 + 10 * kN a + 5) b := by unfold pfS; rw [if_pos rfl]
theorem pfS1 {s : St × St} {a b : Int32} : pfS s 1 a b = upd s.1 (49 + 10 * kN a + 5) (-1) := by unfold pfS; rw [if_neg (by decide), if_pos rfl]
theorem pfS2 {s : St × St} {a b : Int32} : pfS s 2 a b = exS s.1 (kN a) (kN b) := by unfold pfS; rw [if_neg (by decide), if_neg (by decide), if_pos rfl]
theorem pfS3 {s : St × St} {a b : Int32} : pfS s 3 a b = upd s.1 (49 + 10 * kN a + 4) b := by unfold pfS; rw [if_neg (by decide), if_neg (by decide), if_neg (by decide), if_pos rfl]
theorem pfS4 {s : St × St} {a b : Int32} : pfS s 4 a b = upd s.1 (49 + 10 * kN a + 4) (-1) := by unfold pfS; rw [if_neg (by decide), if_neg (by decide), if_neg (by decide), if_neg (by decide), if_pos rfl]
theorem pfS5 {s : St × St} {a b : Int32} : pfS s 5 a b = upd s.1 1 a := by unfold pfS; rw [if_neg (by decide), if_neg (by decide), if_neg (by decide), if_neg (by decide), if_neg (by decide), if_pos rfl]
theorem pfS6 {s : St × St} {a b : Int32} : pfS s 6 a b = upd (upd s.1 0 (s.1 0 + a)) 8 (s.1 8 + a) := by unfold pfS; rw [if_neg (by decide), if_neg (by decide), if_neg (by decide), if_neg (by decide), if_neg (by decide), if_neg (by decide), if_pos rfl]
theorem pfS7 {s : St × St} {a b : Int32} : pfS s 7 a b = pbS s.1 (kN a) b := by unfold pfS; rw [if_neg (by decide), if_neg (by decide), if_neg (by decide), if_neg (by decide), if_neg (by decide), if_neg (by decide), if_neg (by decide), if_pos rfl]
theorem pfS8 {s : St × St} {a b : Int32} : pfS s 8 a b = (manyS (kN a) s).1 := by unfold pfS; rw [if_neg (by decide), if_neg (by decide), if_neg (by decide), if_neg (by decide), if_neg (by decide), if_neg (by decide), if_neg (by decide), if_neg (by decide)]
theorem pfV0 {s : St × St} {a b : Int32} : pfV s 0 a b = wN (pfS s 0 a b) (kN a) := by unfold pfV; rw [if_pos rfl]
theorem pfV1 {s : St × St} {a b : Int32} : pfV s 1 a b = hk s.1 (kN a) 5 := by unfold pfV; rw [if_neg (by decide), if_pos rfl]
theorem pfV2 {s : St × St} {a b : Int32} : pfV s 2 a b = cntD (pfS s 2 a b) 0 := by unfold pfV; rw [if_neg (by decide), if_neg (by decide), if_pos rfl]
theorem pfV3 {s : St × St} {a b : Int32} : pfV s 3 a b = noi (pfS s 3 a b) b := by unfold pfV; rw [if_neg (by decide), if_neg (by decide), if_neg (by decide), if_pos rfl]
theorem pfV4 {s : St × St} {a b : Int32} : pfV s 4 a b = hk s.1 (kN a) 4 := by unfold pfV; rw [if_neg (by decide), if_neg (by decide), if_neg (by decide), if_neg (by decide), if_pos rfl]
theorem pfV5 {s : St × St} {a b : Int32} : pfV s 5 a b = s.1 1 := by unfold pfV; rw [if_neg (by decide), if_neg (by decide), if_neg (by decide), if_neg (by decide), if_neg (by decide), if_pos rfl]
theorem pfV6 {s : St × St} {a b : Int32} : pfV s 6 a b = s.1 0 + a := by unfold pfV; rw [if_neg (by decide), if_neg (by decide), if_neg (by decide), if_neg (by decide), if_neg (by decide), if_neg (by decide), if_pos rfl]
theorem pfV7 {s : St × St} {a b : Int32} : pfV s 7 a b = hk s.1 (kN a) 3 + -b := by unfold pfV; rw [if_neg (by decide), if_neg (by decide), if_neg (by decide), if_neg (by decide), if_neg (by decide), if_neg (by decide), if_neg (by decide), if_pos rfl]
theorem pfV8 {s : St × St} {a b : Int32} : pfV s 8 a b = (manyS (kN a) s).1 6 - s.1 6 := by unfold pfV; rw [if_neg (by decide), if_neg (by decide), if_neg (by decide), if_neg (by decide), if_neg (by decide), if_neg (by decide), if_neg (by decide), if_neg (by decide)]
theorem ft0 {z : St} {a b : Int32} : ftOf z 0 a b = ftTake z a b := by unfold ftOf; rw [if_pos rfl]
theorem ft1 {z : St} {a b : Int32} : ftOf z 1 a b = ftReturn z a := by unfold ftOf; rw [if_neg (by decide), if_pos rfl]
theorem ft2 {z : St} {a b : Int32} : ftOf z 2 a b = ftSwap z a b := by unfold ftOf; rw [if_neg (by decide), if_neg (by decide), if_pos rfl]
theorem ft3 {z : St} {a b : Int32} : ftOf z 3 a b = ftLie z a b := by unfold ftOf; rw [if_neg (by decide), if_neg (by decide), if_neg (by decide), if_pos rfl]
theorem ft4 {z : St} {a b : Int32} : ftOf z 4 a b = ftRise z a := by unfold ftOf; rw [if_neg (by decide), if_neg (by decide), if_neg (by decide), if_neg (by decide), if_pos rfl]
theorem ft5 {z : St} {a b : Int32} : ftOf z 5 a b = (if bt a 0 3 = true then 0 else 2) := by unfold ftOf; rw [if_neg (by decide), if_neg (by decide), if_neg (by decide), if_neg (by decide), if_neg (by decide), if_pos rfl]
theorem ft6 {z : St} {a b : Int32} : ftOf z 6 a b = ftFetch z a := by unfold ftOf; rw [if_neg (by decide), if_neg (by decide), if_neg (by decide), if_neg (by decide), if_neg (by decide), if_neg (by decide), if_pos rfl]
theorem ft7 {z : St} {a b : Int32} : ftOf z 7 a b = ftPay z a b := by unfold ftOf; rw [if_neg (by decide), if_neg (by decide), if_neg (by decide), if_neg (by decide), if_neg (by decide), if_neg (by decide), if_neg (by decide), if_pos rfl]
theorem ft8 {z : St} {a b : Int32} : ftOf z 8 a b = ftPass z a := by unfold ftOf; rw [if_neg (by decide), if_neg (by decide), if_neg (by decide), if_neg (by decide), if_neg (by decide), if_neg (by decide), if_neg (by decide), if_neg (by decide)]
theorem hw_un (z : St) (b : Int32) : hw z 5 b = oI (unO z b) := by
  unfold hw unO oI
  cases ff (hwp z 5 b) (nH z) <;> rfl
theorem LQ.gh {g : AH} {A : Nat → Nat} {n s9 : Nat} {nx : Int32} {z : St} {w : WS} (H : LQ g A n s9 nx z w) (W : Ws z) {z1 : St} (h : ∀ j, j < 149 → j ≠ 7 → j ≠ 8 → z1 j = z j) : LQ g A n s9 nx z1 w := by
  obtain ⟨h1, h2, h3, h4, h5⟩ := H
  have e12 : nH z1 = nH z := congrArg Int32.toNatClampNeg (h 12 (by decide) (by decide) (by decide))
  refine ⟨h1, by rw [e12]; exact h2, by rw [e12]; exact h3, by rw [e12, h 12 (by decide) (by decide) (by decide)]; exact h4, fun i hi => ?_⟩
  rw [e12] at hi
  obtain ⟨e, q1, q2⟩ := h5 i hi
  refine ⟨e, q1, ?_⟩
  by_cases h0 : i = 0
  · subst h0
    obtain ⟨V, r1, r2, r3, r4, r5, r6⟩ := q2
    exact ⟨V, r1, r2, r3, r4, r5, fun k k1 k2 => by rw [r6 k k1 k2, h (zi k) (by unfold zi; split <;> omega) (by unfold zi; split <;> omega) (by unfold zi; split <;> omega)]⟩
  · exact q2.keep h0 (fun k k1 k2 => h k (by omega) (by omega) (by omega)) (fun h6 f hf => h _ (by omega) (by omega) (by omega)) W.b.2 W.l.2 W.f.2.2
theorem bt_I {x lo hi : Nat} (h1 : lo ≤ x) (h2 : x ≤ hi) (h3 : hi < 2 ^ 31) : bt (I x) (I lo) (I hi) = true := by
  unfold bt
  have e1 : ¬ I x < I lo := by rw [I_lt (by omega) (by omega)]; omega
  have e2 : ¬ I hi < I x := by rw [I_lt (by omega) (by omega)]; omega
  simp [e1, e2]
section Ta
variable {g : AH} {A : Nat → Nat} {n : Nat} {k9 : KK} {K T i j b q : Nat} {w : WS} {r : RS}
theorem fin_no (H : LQ g A n k9.2.1 (I K) (r.2 1) w) (J0 : J w r) (Ad : Au (r.2 1)) (hT : nT (r.2 1) ≤ T) (hB : Sz (r.2 1)) (hQ : Kq w) {K0 : Nat} (hK : K ≤ K0 + 1) : Fin1 k9 A n K0 (T + 6) (some (1, g)) := ⟨g, K, rfl, hK, w, r, H, J0, Ad, by omega, hB, hQ⟩
theorem s_ta0 (H : LQ g A n k9.2.1 (I K) (r.2 1) w) (J0 : J w r) (Ad : Au (r.2 1)) (hT : nT (r.2 1) ≤ T) (hB : Sz (r.2 1)) (hQ : Kq w) (hK : K < 2 ^ 29) (hL : k9.2.2.1 < 2 ^ 30) (hi : i < nH (r.2 1)) : Fin1 k9 A n K (T + 6) (ta_0 k9 (A 0) (A (2 * i + 6)) (A (2 * j + 6)) (I i) (I b) (I q) g) := by
  have Gd0 := J0.1.1
  have W := Gd0.1
  have hh := W.h.2
  have hl := W.l
  have kI : kN (I i) = i := I_nat (by omega)
  unfold ta_0
  rw [H.gI (by decide) (by decide), gb_s, show (r.2 1) (zi 8) = I (nL (r.2 1)) from hl.1]
  by_cases h0 : nL (r.2 1) = 0
  · rw [if_pos (by rw [h0]; rfl), H.gx, gb_s]
    obtain ⟨g1, e, H1⟩ := H.no J0 (c := 0) (a := I i) (b := 0) (f := 1) (F := l_takeBlanket n (I i) 0) (v := -101) (by
      rw [ft0]
      unfold ftTake
      rw [if_pos (isH_lt W hi), if_neg (by
        unfold isL
        rw [hl.1, h0]
        decide)]) (Or.inl rfl) takeBlanket_IO
    rw [e, cb_s, if_pos rfl]
    exact fin_no H1 J0 Ad hT hB hQ (by omega)
  · rw [if_neg (show ¬ I (nL (r.2 1)) = 0 from fun hc => h0 ((I_eq (by omega) (by decide)).mp (show I (nL (r.2 1)) = I 0 from hc))), gb_s, H.iO, gb_s]
    obtain ⟨b1, g1, hb1, e1, H1, -⟩ := s_draw H W (by omega) hL (m := nL (r.2 1)) (by omega) (by omega)
    have hu := hw_un (r.2 1) (I b1)
    rw [e1, cb_s, H1.iO, gb_s, s_under H1, cb_s]
    have hf0 : ftOf (r.2 1) 0 (I i) (I b1) = if hw (r.2 1) 5 (I b1) = -1 then 0 else 3 := by
      rw [ft0]
      unfold ftTake
      rw [if_pos (isH_lt W hi), if_pos (isL_lt W hb1)]
    cases hq0 : unO (r.2 1) (I b1) with
    | some k =>
      have hk1 : k < nH (r.2 1) := (ff_some hq0).1
      rw [Option.map_some, nb_some, H1.gx, gb_s]
      obtain ⟨g2, e2, H2⟩ := H1.no J0 (c := 0) (a := I i) (b := I b1) (f := 3) (F := l_takeBlanket n (I i) (I b1)) (v := -103) (by
        rw [hf0, hu, hq0]
        exact if_neg (I_nm (by omega))) (Or.inr (Or.inr rfl)) takeBlanket_IS
      rw [e2, cb_s, if_pos rfl]
      exact fin_no H2 J0 Ad hT hB hQ (by omega)
    | none =>
      rw [Option.map_none, nb_none]
      obtain ⟨g2, p2, H2⟩ := H1.putK W hi (k := 6) (by decide) (by decide) (I b1)
      obtain ⟨g3, w1, r1, e3, H3, J3, z3, n9, kq⟩ := H2.act J0 (c := 0) (a := I i) (b := I b1) (F := l_takeBlanket n (I i) (I b1)) (by
        rw [hf0, hu, hq0]
        exact if_pos rfl) (by rw [pfS0, kI]) takeBlanket_ok
      rw [p2, gb_s, H2.gx, gb_s, e3, cb_s, H3.iO, gb_s]
      rw [← z3] at H3
      have G3 := J3.1.1
      have hn : nH (r1.2 1) = nH (r.2 1) := by rw [z3]; exact nH_up (by omega)
      rw [s_warm H3 G3.1 (by rw [hn]; exact hi), cb_s, if_pos (by rw [pfV0, pfS0, kI, z3])]
      refine fin_no H3 J3 ?_ ?_ (nB9 n9 hB) (kq hQ) (by omega)
      · rw [z3]
        exact (Cs.refl.up (by omega) (Or.inr (by omega))).au Ad
      · rw [z3]
        unfold nT
        rw [upd_ne (by omega)]
        exact hT
theorem s_ta2 (H : LQ g A n k9.2.1 (I K) (r.2 1) w) (J0 : J w r) (Ad : Au (r.2 1)) (hT : nT (r.2 1) ≤ T) (hB : Sz (r.2 1)) (hQ : Kq w) (hi : i < nH (r.2 1)) : Fin1 k9 A n K (T + 6) (ta_2 k9 (A 0) (A (2 * i + 6)) (A (2 * j + 6)) (I i) (I b) (I q) g) := by
  have Gd0 := J0.1.1
  have W := Gd0.1
  have hh := W.h.2
  have hl := W.l
  have kI : kN (I i) = i := I_nat (by omega)
  have hf0 : ftOf (r.2 1) 1 (I i) 0 = if hk (r.2 1) i 5 = -1 then 3 else 0 := by
    rw [ft1]
    unfold ftReturn
    rw [if_pos (isH_lt W hi), kI]
  obtain ⟨g1, p1, H1⟩ := H.putK W hi (k := 6) (by decide) (by decide) (-1)
  unfold ta_2
  rw [H.k hi (by decide) (by decide), gb_s, p1, gb_s, H1.gx, gb_s, show hk (r.2 1) i (6 - 1) = hk (r.2 1) i 5 from rfl]
  by_cases hm : hk (r.2 1) i 5 = -1
  · obtain ⟨g2, e2, H2⟩ := H1.no J0 (c := 1) (a := I i) (b := 0) (f := 3) (F := l_returnBlanket n (I i)) (v := -103) (by rw [hf0, if_pos hm]) (Or.inr (Or.inr rfl)) returnBlanket_IS
    rw [e2, cb_s, hm, if_neg (by decide)]
    unfold l_act_j264
    rw [if_pos rfl]
    have W1 : Ws (upd (r.2 1) (49 + 10 * i + (6 - 1)) (-1)) := (Gd0.up5 (Or.inl rfl) (Or.inl rfl)).1
    exact fin_no (H2.congr W1 (fun y hy => by
      by_cases hc : y = 49 + 10 * i + 5
      · subst hc
        exact hm.trans upd_at.symm
      · exact (upd_ne hc).symm)) J0 Ad hT hB hQ (by omega)
  · obtain ⟨g3, w1, r1, e3, H3, J3, z3, n9, kq⟩ := H1.act J0 (c := 1) (a := I i) (b := 0) (F := l_returnBlanket n (I i)) (by rw [hf0, if_neg hm]) (by rw [pfS1, kI]) returnBlanket_ok
    rcases W.bl hi with hc | ⟨b1, hb1, hb2⟩
    · exact absurd hc hm
    · rw [e3, cb_s, hb2, if_pos (le_I0 (by omega))]
      unfold l_act_j264
      rw [if_pos (by rw [pfV1, kI]; exact hb2)]
      rw [← z3] at H3
      refine fin_no H3 J3 ?_ ?_ (nB9 n9 hB) (kq hQ) (by omega)
      · rw [z3]
        exact (Cs.refl.up (by omega) (Or.inr (by omega))).au Ad
      · rw [z3]
        unfold nT
        rw [upd_ne (by omega)]
        exact hT
theorem s_ta4 (H : LQ g A n k9.2.1 (I K) (r.2 1) w) (J0 : J w r) (Ad : Au (r.2 1)) (hT : nT (r.2 1) ≤ T) (hB : Sz (r.2 1)) (hQ : Kq w) (hi : i < nH (r.2 1)) (hb : b < nB (r.2 1)) : Fin1 k9 A n K (T + 6) (ta_4 k9 (A 0) (A (2 * i + 6)) (A (2 * j + 6)) (I i) (I b) (I q) g) := by
  have Gd0 := J0.1.1
  have W := Gd0.1
  have hh := W.h.2
  have kI : kN (I i) = i := I_nat (by omega)
  have hf0 : ftOf (r.2 1) 3 (I i) (I b) = if inB (r.2 1) (I b) = -1 then 0 else 3 := by
    rw [ft3]
    unfold ftLie
    rw [if_pos (isH_lt W hi), if_pos (isB_lt W hb)]
  unfold ta_4
  rw [H.iO, gb_s, s_in H, cb_s]
  rcases inO_inB W (I b) with ⟨h1, h2⟩ | ⟨k, hk1, h1, h2⟩
  · rw [h1, Option.map_none, nb_none]
    obtain ⟨g2, p2, H2⟩ := H.putK W hi (k := 5) (by decide) (by decide) (I b)
    obtain ⟨g3, w1, r1, e3, H3, J3, z3, n9, kq⟩ := H2.act J0 (c := 3) (a := I i) (b := I b) (F := l_lieDown n (I i) (I b)) (by rw [hf0, if_pos h2]) (by rw [pfS3, kI]) lieDown_ok
    rw [p2, gb_s, H2.gx, gb_s, e3, cb_s, H3.iO, gb_s]
    rw [← z3] at H3
    rw [s_noise H3 J3.1.1.1, cb_s, if_pos (by rw [pfV3, pfS3, kI, z3])]
    refine fin_no H3 J3 ?_ ?_ (nB9 n9 hB) (kq hQ) (by omega)
    · rw [z3]
      exact (Cs.refl.up (by omega) (Or.inr (by omega))).au Ad
    · rw [z3]
      unfold nT
      rw [upd_ne (by omega)]
      exact hT
  · rw [h1, Option.map_some, nb_some, H.gx, gb_s]
    obtain ⟨g2, e2, H2⟩ := H.no J0 (c := 3) (a := I i) (b := I b) (f := 3) (F := l_lieDown n (I i) (I b)) (v := -103) (by rw [hf0, h2]; exact if_neg (I_nm (by omega))) (Or.inr (Or.inr rfl)) lieDown_IS
    rw [e2, cb_s, if_pos rfl]
    exact fin_no H2 J0 Ad hT hB hQ (by omega)
theorem s_ta7 (H : LQ g A n k9.2.1 (I K) (r.2 1) w) (J0 : J w r) (Ad : Au (r.2 1)) (hT : nT (r.2 1) ≤ T) (hB : Sz (r.2 1)) (hQ : Kq w) (hi : i < nH (r.2 1)) : Fin1 k9 A n K (T + 6) (ta_7 k9 (A 0) (A (2 * i + 6)) (A (2 * j + 6)) (I i) (I b) (I q) g) := by
  have Gd0 := J0.1.1
  have W := Gd0.1
  have hh := W.h.2
  have kI : kN (I i) = i := I_nat (by omega)
  have hf0 : ftOf (r.2 1) 4 (I i) 0 = if hk (r.2 1) i 4 = -1 then 3 else 0 := by
    rw [ft4]
    unfold ftRise
    rw [if_pos (isH_lt W hi), kI]
  obtain ⟨g1, p1, H1⟩ := H.putK W hi (k := 5) (by decide) (by decide) (-1)
  unfold ta_7
  rw [H.k hi (by decide) (by decide), gb_s, p1, gb_s, H1.gx, gb_s, show hk (r.2 1) i (5 - 1) = hk (r.2 1) i 4 from rfl]
  by_cases hm : hk (r.2 1) i 4 = -1
  · obtain ⟨g2, e2, H2⟩ := H1.no J0 (c := 4) (a := I i) (b := 0) (f := 3) (F := l_getUp n (I i)) (v := -103) (by rw [hf0, if_pos hm]) (Or.inr (Or.inr rfl)) getUp_IS
    rw [e2, cb_s, hm, if_neg (by decide)]
    unfold l_act_j503
    rw [if_pos rfl]
    have W1 : Ws (upd (r.2 1) (49 + 10 * i + (5 - 1)) (-1)) := (Gd0.up4 (Or.inl rfl) (Or.inl rfl)).1
    exact fin_no (H2.congr W1 (fun y hy => by
      by_cases hc : y = 49 + 10 * i + 4
      · subst hc
        exact hm.trans upd_at.symm
      · exact (upd_ne hc).symm)) J0 Ad hT hB hQ (by omega)
  · obtain ⟨g3, w1, r1, e3, H3, J3, z3, n9, kq⟩ := H1.act J0 (c := 4) (a := I i) (b := 0) (F := l_getUp n (I i)) (by rw [hf0, if_neg hm]) (by rw [pfS4, kI]) getUp_ok
    obtain ⟨b1, b12, hb1, hb2, -⟩ := W.bunk (by omega) hm
    rw [e3, cb_s, hb2, if_pos (le_I0 (by omega))]
    unfold l_act_j503
    rw [if_pos (by rw [pfV4, kI]; exact hb2)]
    rw [← z3] at H3
    refine fin_no H3 J3 ?_ ?_ (nB9 n9 hB) (kq hQ) (by omega)
    · rw [z3]
      exact (Cs.refl.up (by omega) (Or.inr (by omega))).au Ad
    · rw [z3]
      unfold nT
      rw [upd_ne (by omega)]
      exact hT
theorem s_ta8 (H : LQ g A n k9.2.1 (I K) (r.2 1) w) (J0 : J w r) (Ad : Au (r.2 1)) (hT : nT (r.2 1) ≤ T) (hB : Sz (r.2 1)) (hQ : Kq w) (hK : K < 2 ^ 29) (hL : k9.2.2.1 < 2 ^ 30) : Fin1 k9 A n K (T + 6) (ta_8 k9 (A 0) (A (2 * i + 6)) (A (2 * j + 6)) (I i) (I b) (I q) g) := by
  have Gd0 := J0.1.1
  have W := Gd0.1
  obtain ⟨v, g1, hv, e1, H1, -⟩ := s_draw H W (by omega) hL (m := 4) (by decide) (by decide)
  obtain ⟨g2, p2, H2⟩ := H1.putL W (k := 11) (by decide) (by decide) (I v)
  have H2 : LQ g2 A n k9.2.1 (I (K + 1)) (upd (r.2 1) 1 (I v)) w := H2
  obtain ⟨g3, w1, r1, e3, H3, J3, z3, n9, kq⟩ := H2.act J0 (c := 5) (a := I v) (b := 0) (F := l_setRate n (I v)) (by
    rw [ft5, if_pos (show bt (I v) 0 3 = true from bt_I (x := v) (lo := 0) (hi := 3) (by omega) (by omega) (by decide))]) (by rw [pfS5]) setRate_ok
  unfold ta_8
  rw [H.gI (by decide) (by decide), gb_s, H.iO, gb_s, show (4 : Int32) = I 4 from rfl, e1, cb_s, p2, gb_s, H2.gx, gb_s, H2.gI (by decide) (by decide), gb_s, show upd (r.2 1) 1 (I v) (zi 11) = I v from rfl, e3, cb_s, if_pos (by rw [pfV5]; rfl)]
  rw [← z3] at H3
  refine fin_no H3 J3 ?_ ?_ (nB9 n9 hB) (kq hQ) (by omega)
  · rw [z3]
    exact (Cs.refl.up (by decide) (Or.inl (by decide))).au Ad
  · rw [z3]
    exact hT
theorem s_ta9 (H : LQ g A n k9.2.1 (I K) (r.2 1) w) (J0 : J w r) (Ad : Au (r.2 1)) (hT : nT (r.2 1) ≤ T) (hB : Sz (r.2 1)) (hQ : Kq w) (hq : q < 6) : Fin1 k9 A n K (T + 6) (ta_9 k9 (A 0) (A (2 * i + 6)) (A (2 * j + 6)) (I i) (I b) (I q) g) := by
  have Gd0 := J0.1.1
  have W := Gd0.1
  have e1q : (1 : Int32) + I q = I (1 + q) := I_add 1 q
  have hf0 : ftOf (r.2 1) 6 (I (1 + q)) 0 = if (r.2 1) 0 + I (1 + q) ≤ 99 then 0 else 3 := by
    rw [ft6]
    unfold ftFetch
    rw [if_pos (show bt (I (1 + q)) 1 50 = true from bt_I (x := 1 + q) (lo := 1) (hi := 50) (by omega) (by omega) (by decide))]
  unfold ta_9
  rw [e1q, H.gI (by decide) (by decide), gb_s, show (r.2 1) (zi 10) = (r.2 1) 0 from rfl]
  by_cases hm : (r.2 1) 0 + I (1 + q) ≤ 99
  · rw [if_pos hm, gb_s]
    obtain ⟨g2, p2, H2⟩ := H.putL W (k := 10) (by decide) (by decide) ((r.2 1) 0 + I (1 + q))
    have H2 : LQ g2 A n k9.2.1 (I K) (upd (r.2 1) 0 ((r.2 1) 0 + I (1 + q))) w := H2
    have W2 : Ws (upd (r.2 1) 0 ((r.2 1) 0 + I (1 + q))) := (Kp.refl.up (by decide) (fun j hj => by omega)).ws W
    have H2' : LQ g2 A n k9.2.1 (I K) (upd (upd (r.2 1) 0 ((r.2 1) 0 + I (1 + q))) 8 ((r.2 1) 8 + I (1 + q))) w := H2.gh W2 (fun y hy h7 h8 => upd_ne h8)
    obtain ⟨g3, w1, r1, e3, H3, J3, z3, n9, kq⟩ := H2'.act J0 (c := 6) (a := I (1 + q)) (b := 0) (F := l_fetchLogs n (I (1 + q))) (by rw [hf0, if_pos hm]) (by rw [pfS6]) fetchLogs_ok
    rw [p2, gb_s, H2.gx, gb_s, e3, cb_s, H3.gI (by decide) (by decide), gb_s, if_pos (by rw [pfV6]; rfl)]
    rw [← z3] at H3
    refine fin_no H3 J3 ?_ ?_ (nB9 n9 hB) (kq hQ) (by omega)
    · rw [z3]
      exact Au_logs Ad _
    · rw [z3]
      exact hT
  · rw [if_neg hm, H.gx, gb_s]
    obtain ⟨g2, e2, H2⟩ := H.no J0 (c := 6) (a := I (1 + q)) (b := 0) (f := 3) (F := l_fetchLogs n (I (1 + q))) (v := -103) (by rw [hf0, if_neg hm]) (Or.inr (Or.inr rfl)) fetchLogs_IS
    rw [e2, cb_s, if_pos rfl]
    exact fin_no H2 J0 Ad hT hB hQ (by omega)
theorem s_ta10 (H : LQ g A n k9.2.1 (I K) (r.2 1) w) (J0 : J w r) (Ad : Au (r.2 1)) (hT : nT (r.2 1) ≤ T) (hB : Sz (r.2 1)) (hQ : Kq w) (hi : i < nH (r.2 1)) (hq : q < 6) : Fin1 k9 A n K (T + 6) (ta_10 k9 (A 0) (A (2 * i + 6)) (A (2 * j + 6)) (I i) (I b) (I q) g) := by
  have Gd0 := J0.1.1
  have W := Gd0.1
  have hh := W.h.2
  have kI : kN (I i) = i := I_nat (by omega)
  have e1q : (1 : Int32) + I q = I (1 + q) := I_add 1 q
  have hf0 : ftOf (r.2 1) 7 (I i) (I (1 + q)) = if hk (r.2 1) i 2 < I (1 + q) then 3 else if I (1 + q) ≤ hk (r.2 1) i 3 then 0 else 3 := by
    rw [ft7]
    unfold ftPay
    rw [if_pos (isH_lt W hi), if_pos (show bt (I (1 + q)) 1 99 = true from bt_I (x := 1 + q) (lo := 1) (hi := 99) (by omega) (by omega) (by decide)), kI]
  have no : ¬ ftOf (r.2 1) 7 (I i) (I (1 + q)) = 0 → Fin1 k9 A n K (T + 6) (l_act_j632 k9 (A 0) (I i) (I (1 + q)) g) := fun hne => by
    have h3 : ftOf (r.2 1) 7 (I i) (I (1 + q)) = 3 := by
      rw [hf0] at hne ⊢
      by_cases h1 : hk (r.2 1) i 2 < I (1 + q)
      · rw [if_pos h1]
      · rw [if_neg h1] at hne ⊢
        by_cases h2 : I (1 + q) ≤ hk (r.2 1) i 3
        · rw [if_pos h2] at hne
          exact absurd rfl hne
        · rw [if_neg h2]
    obtain ⟨g2, e2, H2⟩ := H.no J0 (c := 7) (a := I i) (b := I (1 + q)) (f := 3) (F := l_payDebt n (I i) (I (1 + q))) (v := -103) h3 (Or.inr (Or.inr rfl)) payDebt_IS
    unfold l_act_j632
    rw [H.gx, gb_s, e2, cb_s, if_pos rfl]
    exact fin_no H2 J0 Ad hT hB hQ (by omega)
  unfold ta_10
  rw [e1q, H.k hi (by decide) (by decide), gb_s, show hk (r.2 1) i (3 - 1) = hk (r.2 1) i 2 from rfl]
  by_cases h1 : hk (r.2 1) i 2 < I (1 + q)
  · rw [if_pos h1]
    exact no (by rw [hf0, if_pos h1]; decide)
  · rw [if_neg h1, H.k hi (k := 4) (by decide) (by decide), gb_s, show hk (r.2 1) i (4 - 1) = hk (r.2 1) i 3 from rfl]
    by_cases h2 : I (1 + q) ≤ hk (r.2 1) i 3
    · rw [if_pos h2, gb_s]
      obtain ⟨g1, p1, H1⟩ := H.putK W hi (k := 3) (by decide) (by decide) (hk (r.2 1) i 2 + -I (1 + q))
      have H1 : LQ g1 A n k9.2.1 (I K) (upd (r.2 1) (49 + 10 * i + 2) (hk (r.2 1) i 2 + -I (1 + q))) w := H1
      have W1 : Ws (upd (r.2 1) (49 + 10 * i + 2) (hk (r.2 1) i 2 + -I (1 + q))) := (Kp.refl.up (by omega) (fun j hj => by omega)).ws W
      have n1 : nH (upd (r.2 1) (49 + 10 * i + 2) (hk (r.2 1) i 2 + -I (1 + q))) = nH (r.2 1) := nH_up (by omega)
      obtain ⟨g2, p2, H2⟩ := H1.putK W1 (by rw [n1]; exact hi) (k := 4) (by decide) (by decide) (hk (r.2 1) i 3 + -I (1 + q))
      have H2 : LQ g2 A n k9.2.1 (I K) (upd (upd (r.2 1) (49 + 10 * i + 2) (hk (r.2 1) i 2 + -I (1 + q))) (49 + 10 * i + 3) (hk (r.2 1) i 3 + -I (1 + q))) w := H2
      have W2 : Ws (upd (upd (r.2 1) (49 + 10 * i + 2) (hk (r.2 1) i 2 + -I (1 + q))) (49 + 10 * i + 3) (hk (r.2 1) i 3 + -I (1 + q))) := (Kp.refl.up (by omega) (fun j hj => by omega)).ws W1
      obtain ⟨g3, p3, H3⟩ := H2.putL W2 (k := 16) (by decide) (by decide) ((r.2 1) 6 + I (1 + q))
      have H3 : LQ g3 A n k9.2.1 (I K) (pbS (r.2 1) i (I (1 + q))) w := H3
      obtain ⟨g4, w1, r1, e4, H4, J4, z4, n9, kq⟩ := H3.act J0 (c := 7) (a := I i) (b := I (1 + q)) (F := l_payDebt n (I i) (I (1 + q))) (by rw [hf0, if_neg h1, if_pos h2]) (by rw [pfS7, kI]) payDebt_ok
      rw [← z4] at H4
      have n4 : nH (r1.2 1) = nH (r.2 1) := by
        rw [z4]
        unfold pbS
        rw [nH_up (by decide), nH_up (by omega), nH_up (by omega)]
      rw [Int32.sub_eq_add_neg, p1, gb_s, H1.k (by rw [n1]; exact hi) (by decide) (by decide), gb_s, show hk (upd (r.2 1) (49 + 10 * i + 2) (hk (r.2 1) i 2 + -I (1 + q))) i (4 - 1) = hk (r.2 1) i 3 from hk_ne (by omega), Int32.sub_eq_add_neg, p2, gb_s, H2.gI (by decide) (by decide), gb_s, show upd (upd (r.2 1) (49 + 10 * i + 2) (hk (r.2 1) i 2 + -I (1 + q))) (49 + 10 * i + 3) (hk (r.2 1) i 3 + -I (1 + q)) (zi 16) = (r.2 1) 6 from (upd_ne (show zi 16 ≠ _ by show 6 ≠ _; omega)).trans (upd_ne (show zi 16 ≠ _ by show 6 ≠ _; omega)), p3, gb_s, H3.gx, gb_s, e4, cb_s, H4.k (by rw [n4]; exact hi) (by decide) (by decide), gb_s, if_pos (by
        rw [pfV7, kI, z4]
        show _ = upd (upd (upd _ _ _) (49 + 10 * i + 3) _) 6 _ (49 + 10 * i + 3)
        rw [upd_ne (by omega), upd_at])]
      refine fin_no H4 J4 ?_ ?_ (nB9 n9 hB) (kq hQ) (by omega)
      · rw [z4]
        exact Au_pay Ad hi _
      · rw [z4]
        unfold pbS nT
        rw [upd_ne (by decide), upd_ne (by omega), upd_ne (by omega)]
        exact hT
    · rw [if_neg h2]
      exact no (by rw [hf0, if_neg h1, if_neg h2]; decide)
end Ta
