/-! the class answers: rows of the world, queries and actions over J -/
section ClsW
variable {g : AH} {n : Nat} {w : WS} {st : St}
theorem W_kI {i f : Nat} (hi : i < 10) (hf : f < 8) : getI 1 (putW g n w) (n + hp 0 + (7 + 2 * i)) f = some ((w.1 0).2.2.1 i f) := by
  have := K_getI (g := putW g n w) (p := n + hp 0) (h := w.1 0) hi hf
  rw [W_H (by decide)] at this
  exact this
theorem W_kR {i : Nat} (hi : i < 10) : getR 1 (putW g n w) (n + hp 0 + (7 + 2 * i)) 8 = some (n + hp 0 + (8 + 2 * i)) := by
  have := K_getR (g := putW g n w) (p := n + hp 0) (h := w.1 0) hi
  rw [W_H (by decide)] at this
  exact this
theorem W_kA {i j : Nat} {x : Int32} (hi : i < 10) (hx : x = I j) (hj : j < 4) : aldI 0 (putW g n w) (n + hp 0 + (8 + 2 * i)) x = some ((w.1 0).2.2.2 i j) := by
  have := K_ald (g := putW g n w) (p := n + hp 0) (h := w.1 0) hi hx hj
  rw [W_H (by decide)] at this
  exact this
theorem W_hI {k : Nat} (hk0 : k < 13) : getI 3 (putW g n w) (n + hp 0) k = some ((w.1 0).1 k) := by
  have := H_getI (g := putW g n w) (p := n + hp 0) (h := w.1 0) hk0
  rw [W_H (by decide)] at this
  exact this
theorem W_h18 : getR 3 (putW g n w) (n + hp 0) 18 = some (n + hp 0 + 6) := by
  have h1 := H_getR (g := putW g n w) (p := n + hp 0) (h := w.1 0) (k := 18) (d := 6) rfl (by decide) (by decide)
  rw [W_H (by decide)] at h1
  exact h1
theorem W_hik {i : Nat} (hi : i < 10) : aldR 4 (putW g n w) (n + hp 0 + 6) (I i) = some (n + hp 0 + (7 + 2 * i)) := by
  have h2 := H_hik (g := putW g n w) (p := n + hp 0) (h := w.1 0) hi
  rw [W_H (by decide)] at h2
  exact h2
theorem W_80 : getR 8 (putW g n w) n 0 = some (n + hp 0) := W_o8 rfl
theorem W_hasH (G : Gm st (w.1 0)) (v : Int32) : x3_hasHiker (n + hp 0) v (putW g n w) = some (bI (hasN (st 12) v), putW g n w) := by
  have := c_hasHiker (g := putW g n w) (p := n + hp 0) G.2.1 v
  rw [W_H (by decide)] at this
  exact this
theorem W_isO3 : isO 3 (putW g n w) (n + hp 0) = some () := W_isH (by decide)
end ClsW
def sIO : String := "java/lang/IndexOutOfBoundsException"
def sIA : String := "java/lang/IllegalArgumentException"
def sIS : String := "java/lang/IllegalStateException"
def rfS (f : Int32) : String := if f = 1 then sIO else if f = 2 then sIA else sIS
theorem refuse_ok (g : AH) : x8_refuse 0 g = some (.inl (), g) := by
  unfold x8_refuse
  rw [if_neg (by decide), if_neg (by decide), if_neg (by decide)]
theorem refuse_no {f : Int32} (h : f = 1 ∨ f = 2 ∨ f = 3) (g : AH) : x8_refuse f g = some (.inr (rfS f), hcut g) := by
  unfold x8_refuse rfS
  rcases h with h | h | h
  · rw [if_pos h, if_pos h]; rfl
  · have h1 : ¬ f = 1 := by rw [h]; decide
    rw [if_neg h1, if_pos h, if_neg h1, if_pos h]; rfl
  · have h1 : ¬ f = 1 := by rw [h]; decide
    have h2 : ¬ f = 2 := by rw [h]; decide
    rw [if_neg h1, if_neg h2, if_pos h, if_neg h1, if_neg h2]; rfl
theorem fA_take (st : St) (i b : Int32) : ftTake st i b = 0 ∨ ftTake st i b = 1 ∨ ftTake st i b = 3 := by
  unfold ftTake
  repeat' split
  all_goals simp
theorem fA_return (st : St) (i : Int32) : ftReturn st i = 0 ∨ ftReturn st i = 1 ∨ ftReturn st i = 3 := by
  unfold ftReturn
  repeat' split
  all_goals simp
theorem fA_swap (st : St) (i b : Int32) : ftSwap st i b = 0 ∨ ftSwap st i b = 1 ∨ ftSwap st i b = 3 := by
  unfold ftSwap
  repeat' split
  all_goals simp
theorem fA_lie (st : St) (i b : Int32) : ftLie st i b = 0 ∨ ftLie st i b = 1 ∨ ftLie st i b = 3 := by
  unfold ftLie
  repeat' split
  all_goals simp
theorem fA_rise (st : St) (i : Int32) : ftRise st i = 0 ∨ ftRise st i = 1 ∨ ftRise st i = 3 := by
  unfold ftRise
  repeat' split
  all_goals simp
theorem fB_fetch (st : St) (i : Int32) : ftFetch st i = 0 ∨ ftFetch st i = 2 ∨ ftFetch st i = 3 := by
  unfold ftFetch
  repeat' split
  all_goals simp
section ClsD
variable {n : Nat} {w : WS}
theorem demH {st : St} (G : Gm st (w.1 0)) (x : Int32) (g : AH) : x8_demandHiker n x (putW g n w) = if isH st x = true then some (.inl (), putW g n w) else some (.inr sIO, hcut (putW g n w)) := by
  unfold x8_demandHiker
  rw [W_80, gb_s, W_isO3, gb_s, W_hasH G, cb_s, ← isH_has G.1.1]
  by_cases h : isH st x = true
  · rw [if_neg (by rw [bI_z, h]; decide), if_pos h]
  · rw [if_pos ((bI_z _).mpr (by simpa using h)), if_neg h]
    rfl
theorem demB {st : St} (G : Gm st (w.1 0)) (x : Int32) (g : AH) : x8_demandBunk n x (putW g n w) = if isB st x = true then some (.inl (), putW g n w) else some (.inr sIO, hcut (putW g n w)) := by
  have e := c_hasBunk (g := putW g n w) (p := n + hp 0) G.2.1 x
  rw [W_H (by decide), ← isB_has G.1.1] at e
  unfold x8_demandBunk
  rw [W_80, gb_s, W_isO3, gb_s, e, cb_s]
  by_cases h : isB st x = true
  · rw [if_neg (by rw [bI_z, h]; decide), if_pos h]
  · rw [if_pos ((bI_z _).mpr (by simpa using h)), if_neg h]
    rfl
end ClsD
