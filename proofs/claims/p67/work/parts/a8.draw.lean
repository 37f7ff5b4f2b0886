/-! drawing; acting on the class from the law's side -/
theorem and_nn (x : Int32) : (0 : Int32) ≤ x &&& 2147483647 := by
  rw [Int32.le_iff_toInt_le]
  show (0 : Int) ≤ (x.toBitVec &&& 2147483647#32).toInt
  have h : (x.toBitVec &&& 2147483647#32).msb = false := by
    rw [BitVec.msb_and]
    have : (2147483647#32).msb = false := by decide
    rw [this, Bool.and_false]
  rw [BitVec.toInt_eq_msb_cond, h]
  exact Int.natCast_nonneg _
theorem nn_I {x : Int32} (h : (0 : Int32) ≤ x) : x = I x.toNatClampNeg ∧ x.toNatClampNeg < 2 ^ 31 := by
  refine ⟨(Int32.ofNat_toNatClampNeg _ h).symm, ?_⟩
  exact Int32.toNatClampNeg_lt x
theorem mod_m (x : Int32) {m : Nat} (hm : 0 < m) (h2 : m < 2 ^ 31) : ∃ v, v < m ∧ (x &&& 2147483647) - (x &&& 2147483647) / I m * I m = I v := by
  obtain ⟨e, hl⟩ := nn_I (and_nn x)
  refine ⟨(x &&& 2147483647).toNatClampNeg % m, Nat.mod_lt _ hm, ?_⟩
  have := mod_I hl h2 hm
  rw [← e] at this
  exact this
section Draw
variable {g : AH} {A : Nat → Nat} {n : Nat} {k9 : KK} {K : Nat} {z : St} {w : WS}
theorem s_at (i : Nat) (hi : i < 2 ^ 31) (hL : k9.2.2.1 < 2 ^ 31) (g : AH) : ∃ v, l_at k9 k9.2.1 (I i) g = some (v, g) := by
  have J : ∀ x, ∃ v, l_at_j13 k9 (I i) x g = some (v, g) := by
    intro x
    unfold l_at_j13
    by_cases h1 : x ≤ 0
    · rw [if_pos h1]; exact ⟨_, rfl⟩
    · rw [if_neg h1]
      by_cases h2 : 512 ≤ x
      · rw [if_pos h2]; exact ⟨_, rfl⟩
      · rw [if_neg h2]; exact ⟨_, rfl⟩
  unfold l_at slenS
  rw [if_pos rfl, gb_s]
  by_cases h : Int32.ofNat k9.2.2.1 ≤ I i
  · rw [if_pos h]
    exact J _
  · rw [if_neg h]
    unfold saldS
    rw [if_pos rfl, if_neg (fun hc => by
      have hlt : i < k9.2.2.1 := by
        have : ¬ I k9.2.2.1 ≤ I i := h
        rw [I_le hL hi] at this
        omega
      exact absurd hc (I_out hlt hL)), gb_s]
    exact J _
theorem s_draw (H : LQ g A n k9.2.1 (I K) z w) (W : Ws z) (hK : K < 2 ^ 30) (hL : k9.2.2.1 < 2 ^ 30) {m : Nat} (h0 : 0 < m) (h2 : m < 2 ^ 31) : ∃ v g1, v < m ∧ l_draw k9 (A 0) (I m) g = some (I v, g1) ∧ LQ g1 A n k9.2.1 (I (K + 1)) z w ∧ g1.2 = g.2 := by
  obtain ⟨g1, p1, H1, p2⟩ := H.putN W (I (K + 1))
  have hl1 : (if 1 < Int32.ofNat k9.2.2.1 then Int32.ofNat k9.2.2.1 else 1) = I (max 1 k9.2.2.1) := by
    show (if I 1 < I k9.2.2.1 then I k9.2.2.1 else I 1) = _
    by_cases h : 1 < k9.2.2.1
    · rw [if_pos (by rw [I_lt (by decide) (by omega)]; exact h), Nat.max_eq_right (by omega)]
    · rw [if_neg (by rw [I_lt (by decide) (by omega)]; exact h), Nat.max_eq_left (by omega)]
  have hm1 : 0 < max 1 k9.2.2.1 := by omega
  have hm2 : max 1 k9.2.2.1 < 2 ^ 31 := by omega
  obtain ⟨x, ex⟩ := s_at (k9 := k9) (K % max 1 k9.2.2.1) (by have := Nat.mod_lt K hm1; omega) (by omega) g
  have hne : ¬ I m = 0 := fun hc => by
    have := (I_eq h2 (by decide)).mp (show I m = I 0 from hc)
    omega
  unfold l_draw
  rw [H.gs, gb_s, H.gN, gb_s, gb_s]
  unfold slenS
  rw [if_pos rfl, gb_s, hl1, if_neg (fun hc => by
    have := (I_eq hm2 (by decide)).mp (show I (max 1 k9.2.2.1) = I 0 from hc)
    omega), mod_I (by omega) hm2 hm1, ex, cb_s, H.gN, gb_s, gb_s, I_succ, p1, gb_s, if_neg hne]
  obtain ⟨v, v1, v2⟩ := mod_m ((((x + (I K * 668265263)) ^^^ (ushr (x + (I K * 668265263)) 15)) * 739982445) ^^^ (ushr (((x + (I K * 668265263)) ^^^ (ushr (x + (I K * 668265263)) 15)) * 739982445) 13)) h0 h2
  exact ⟨v, g1, v1, by rw [v2], H1, p2⟩
end Draw
theorem hour_9 {s : St × St} (w : Ws s.1) (h : nT s.1 + 1 ≤ 20000) : ∀ k, k = 9 ∨ k = 10 ∨ k = 12 → (hourS s).1 k = s.1 k := by
  intro k hk0
  have kb := burn_kp s.1
  have wb := kb.ws w
  have kn := kb.trans (ntS_kp (s := (burnS s.1, s.2)) wb)
  have wn := kn.ws w
  obtain ⟨wt, -⟩ := tick_ws (s := ntS (burnS s.1, s.2)) wn (by rw [Kp_nT kn]; exact h)
  have et : (tick (ntS (burnS s.1, s.2))).1 k = s.1 k := (show upd (ntS (burnS s.1, s.2)).1 3 ((ntS (burnS s.1, s.2)).1 3 + 1) k = (ntS (burnS s.1, s.2)).1 k from upd_ne (by omega)).trans (kn.1 k (by omega))
  unfold hourS endS
  split
  · exact ((dawnS_kp wt).1 k (by omega)).trans et
  · exact et
theorem many_9 {s : St × St} (w : Ws s.1) : ∀ m, nT s.1 + m ≤ 20000 → ∀ k, k = 9 ∨ k = 10 ∨ k = 12 → (manyS m s).1 k = s.1 k := by
  intro m
  induction m with
  | zero => intro _ k _; rfl
  | succ m ih =>
    intro h k hk0
    obtain ⟨w1, t1⟩ := manyS_ws w m (by omega)
    exact (hour_9 w1 (by omega) k hk0).trans (ih (by omega) k hk0)
theorem pfS_9 {s : St × St} (G : Gd s.1) {c a b : Int32} (hf : ftOf s.1 c a b = 0) : ∀ k, k = 9 ∨ k = 10 ∨ k = 12 → pfS s c a b k = s.1 k := by
  intro k9 hk9
  have w := G.1
  unfold ftOf at hf
  unfold pfS
  by_cases c0 : c = 0
  · rw [if_pos c0]
    exact upd_ne (by omega)
  rw [if_neg c0] at hf ⊢
  by_cases c1 : c = 1
  · rw [if_pos c1]
    exact upd_ne (by omega)
  rw [if_neg c1] at hf ⊢
  by_cases c2 : c = 2
  · rw [if_pos c2]
    exact (upd_ne (by omega)).trans (upd_ne (by omega))
  rw [if_neg c2] at hf ⊢
  by_cases c3 : c = 3
  · rw [if_pos c3]
    exact upd_ne (by omega)
  rw [if_neg c3] at hf ⊢
  by_cases c4 : c = 4
  · rw [if_pos c4]
    exact upd_ne (by omega)
  rw [if_neg c4] at hf ⊢
  by_cases c5 : c = 5
  · rw [if_pos c5]
    exact upd_ne (by omega)
  rw [if_neg c5] at hf ⊢
  by_cases c6 : c = 6
  · rw [if_pos c6]
    exact (upd_ne (by omega)).trans (upd_ne (by omega))
  rw [if_neg c6] at hf ⊢
  by_cases c7 : c = 7
  · rw [if_pos c7]
    exact (upd_ne (by omega)).trans ((upd_ne (by omega)).trans (upd_ne (by omega)))
  rw [if_neg c7] at hf ⊢
  unfold ftPass at hf
  obtain ⟨f1, -⟩ := ft_one hf (by decide)
  obtain ⟨k, k1, k2, k3, k4⟩ := bt_ex (lo := 1) (hi := 48) (by decide) (by decide) f1
  exact many_9 w _ (by have := G.2.2.2; omega) k9 hk9
def Sz (z : St) : Prop := 1 ≤ nB z ∧ nB z ≤ 8 ∧ nL z ≤ 6 ∧ nH z ≤ 7
theorem nB9 {z z1 : St} (h : ∀ k, k = 9 ∨ k = 10 ∨ k = 12 → z1 k = z k) (hB : Sz z) : Sz z1 := by
  unfold Sz nB nL nH at *
  rw [h 9 (by decide), h 10 (by decide), h 12 (by decide)]
  exact hB
/-- what the class's world holds besides the hut and its past -/
def Kq (w : WS) : Prop := Dr (w.1 1) ∧ ∃ L ec ep cnt a b c T, w.2.2.2.1 = (giC ec ep cnt, tiC (I L) a b c, T) ∧ L ≤ 500
theorem Kq.wd {w w1 : WS} (h : Kq w) (d : Wd w w1) : Kq w1 := by
  obtain ⟨h1, h2⟩ := h
  refine ⟨by rw [d.2 1 (Or.inl rfl)]; exact h1, ?_⟩
  rw [d.1]
  exact h2
section Acts
variable {g : AH} {A : Nat → Nat} {n s9 : Nat} {nx : Int32} {z : St} {w : WS} {r : RS}
/-- the law has noted what an action does; the class does it -/
theorem LQ.act (H : LQ g A n s9 nx z w) (J0 : J w r) {c a b : Int32} (hf : ftOf (r.2 1) c a b = 0) (hz : pfS (r.2 1, r.2 6) c a b = z) {F : AH → Option (Int32 × AH)} (hF : ∀ g0 v g2, x8_act n c a b (putW g0 n w) = some (.inl v, g2) → F (putW g0 n w) = some (v, g2)) : ∃ g1 w1 r1, F g = some (pfV (r.2 1, r.2 6) c a b, g1) ∧ LQ g1 A n s9 nx z w1 ∧ J w1 r1 ∧ r1.2 1 = z ∧ (∀ k, k = 9 ∨ k = 10 ∨ k = 12 → (r1.2 1) k = (r.2 1) k) ∧ (Kq w → Kq w1) := by
  obtain ⟨g0, rfl, hw⟩ := H.world
  obtain ⟨w1, e, J1, hd⟩ := act_ok (n := n) J0 (r.2 6) hf g0
  exact ⟨putW g0 n w1, w1, _, hF _ _ _ e, hw w1, J1, hz, pfS_9 (s := (r.2 1, r.2 6)) J0.1.1 hf, fun h => h.wd hd⟩
theorem LQ.no (H : LQ g A n s9 nx z w) (J0 : J w r) {c a b f v : Int32} (hf : ftOf (r.2 1) c a b = f) (h3 : f = 1 ∨ f = 2 ∨ f = 3) {F : AH → Option (Int32 × AH)} (hF : ∀ g0 g2, x8_act n c a b (putW g0 n w) = some (.inr (rfS f), g2) → F (putW g0 n w) = some (v, g2)) : ∃ g1, F g = some (v, g1) ∧ LQ g1 A n s9 nx z w := by
  obtain ⟨g0, rfl, hw⟩ := H.world
  exact ⟨hcut (putW g0 n w), hF _ _ (act_no J0 hf h3 g0), H.cut⟩
theorem LQ.ask (H : LQ g A n s9 nx z w) {α : Type} {v : α} {F : AH → Option (α × AH)} (hF : ∀ g0, F (putW g0 n w) = some (v, putW g0 n w)) : F g = some (v, g) := by
  obtain ⟨g0, rfl, hw⟩ := H.world
  exact hF g0
end Acts
section Wrap
variable {g : AH} {n : Nat} {w : WS}
theorem takeBlanket_ok {i b : Int32} (g0 : AH) (v : Int32) (g2 : AH) (e : x8_act n 0 i b (putW g0 n w) = some (.inl v, g2)) : l_takeBlanket n i b (putW g0 n w) = some (v, g2) := by
  unfold l_takeBlanket x8_takeBlanket
  rw [W_isO, gb_s, gb_s, e, cb_s, Sum.elim_inl, cb_s, Sum.elim_inl]
theorem takeBlanket_IO {i b : Int32} (g0 : AH) (g2 : AH) (e : x8_act n 0 i b (putW g0 n w) = some (.inr (rfS 1), g2)) : l_takeBlanket n i b (putW g0 n w) = some (-101, g2) := by
  unfold l_takeBlanket x8_takeBlanket
  rw [W_isO, gb_s, gb_s, e, cb_s, Sum.elim_inr, cb_s, Sum.elim_inr, if_pos (by decide)]
theorem takeBlanket_IS {i b : Int32} (g0 : AH) (g2 : AH) (e : x8_act n 0 i b (putW g0 n w) = some (.inr (rfS 3), g2)) : l_takeBlanket n i b (putW g0 n w) = some (-103, g2) := by
  unfold l_takeBlanket x8_takeBlanket
  rw [W_isO, gb_s, gb_s, e, cb_s, Sum.elim_inr, cb_s, Sum.elim_inr, if_neg (by decide), if_pos (by decide)]
theorem returnBlanket_ok {i : Int32} (g0 : AH) (v : Int32) (g2 : AH) (e : x8_act n 1 i 0 (putW g0 n w) = some (.inl v, g2)) : l_returnBlanket n i (putW g0 n w) = some (v, g2) := by
  unfold l_returnBlanket x8_returnBlanket
  rw [W_isO, gb_s, gb_s, e, cb_s, Sum.elim_inl, cb_s, Sum.elim_inl]
theorem returnBlanket_IO {i : Int32} (g0 : AH) (g2 : AH) (e : x8_act n 1 i 0 (putW g0 n w) = some (.inr (rfS 1), g2)) : l_returnBlanket n i (putW g0 n w) = some (-101, g2) := by
  unfold l_returnBlanket x8_returnBlanket
  rw [W_isO, gb_s, gb_s, e, cb_s, Sum.elim_inr, cb_s, Sum.elim_inr, if_pos (by decide)]
theorem returnBlanket_IS {i : Int32} (g0 : AH) (g2 : AH) (e : x8_act n 1 i 0 (putW g0 n w) = some (.inr (rfS 3), g2)) : l_returnBlanket n i (putW g0 n w) = some (-103, g2) := by
  unfold l_returnBlanket x8_returnBlanket
  rw [W_isO, gb_s, gb_s, e, cb_s, Sum.elim_inr, cb_s, Sum.elim_inr, if_neg (by decide), if_pos (by decide)]
theorem swapBlankets_ok {i b : Int32} (g0 : AH) (v : Int32) (g2 : AH) (e : x8_act n 2 i b (putW g0 n w) = some (.inl v, g2)) : l_swapBlankets n i b (putW g0 n w) = some (v, g2) := by
  unfold l_swapBlankets x8_swapBlankets
  rw [W_isO, gb_s, gb_s, e, cb_s, Sum.elim_inl, cb_s, Sum.elim_inl]
theorem swapBlankets_IO {i b : Int32} (g0 : AH) (g2 : AH) (e : x8_act n 2 i b (putW g0 n w) = some (.inr (rfS 1), g2)) : l_swapBlankets n i b (putW g0 n w) = some (-101, g2) := by
  unfold l_swapBlankets x8_swapBlankets
  rw [W_isO, gb_s, gb_s, e, cb_s, Sum.elim_inr, cb_s, Sum.elim_inr, if_pos (by decide)]
theorem swapBlankets_IS {i b : Int32} (g0 : AH) (g2 : AH) (e : x8_act n 2 i b (putW g0 n w) = some (.inr (rfS 3), g2)) : l_swapBlankets n i b (putW g0 n w) = some (-103, g2) := by
  unfold l_swapBlankets x8_swapBlankets
  rw [W_isO, gb_s, gb_s, e, cb_s, Sum.elim_inr, cb_s, Sum.elim_inr, if_neg (by decide), if_pos (by decide)]
theorem lieDown_ok {i b : Int32} (g0 : AH) (v : Int32) (g2 : AH) (e : x8_act n 3 i b (putW g0 n w) = some (.inl v, g2)) : l_lieDown n i b (putW g0 n w) = some (v, g2) := by
  unfold l_lieDown x8_lieDown
  rw [W_isO, gb_s, gb_s, e, cb_s, Sum.elim_inl, cb_s, Sum.elim_inl]
theorem lieDown_IO {i b : Int32} (g0 : AH) (g2 : AH) (e : x8_act n 3 i b (putW g0 n w) = some (.inr (rfS 1), g2)) : l_lieDown n i b (putW g0 n w) = some (-101, g2) := by
  unfold l_lieDown x8_lieDown
  rw [W_isO, gb_s, gb_s, e, cb_s, Sum.elim_inr, cb_s, Sum.elim_inr, if_pos (by decide)]
theorem lieDown_IS {i b : Int32} (g0 : AH) (g2 : AH) (e : x8_act n 3 i b (putW g0 n w) = some (.inr (rfS 3), g2)) : l_lieDown n i b (putW g0 n w) = some (-103, g2) := by
  unfold l_lieDown x8_lieDown
  rw [W_isO, gb_s, gb_s, e, cb_s, Sum.elim_inr, cb_s, Sum.elim_inr, if_neg (by decide), if_pos (by decide)]
theorem getUp_ok {i : Int32} (g0 : AH) (v : Int32) (g2 : AH) (e : x8_act n 4 i 0 (putW g0 n w) = some (.inl v, g2)) : l_getUp n i (putW g0 n w) = some (v, g2) := by
  unfold l_getUp x8_getUp
  rw [W_isO, gb_s, gb_s, e, cb_s, Sum.elim_inl, cb_s, Sum.elim_inl]
theorem getUp_IO {i : Int32} (g0 : AH) (g2 : AH) (e : x8_act n 4 i 0 (putW g0 n w) = some (.inr (rfS 1), g2)) : l_getUp n i (putW g0 n w) = some (-101, g2) := by
  unfold l_getUp x8_getUp
  rw [W_isO, gb_s, gb_s, e, cb_s, Sum.elim_inr, cb_s, Sum.elim_inr, if_pos (by decide)]
theorem getUp_IS {i : Int32} (g0 : AH) (g2 : AH) (e : x8_act n 4 i 0 (putW g0 n w) = some (.inr (rfS 3), g2)) : l_getUp n i (putW g0 n w) = some (-103, g2) := by
  unfold l_getUp x8_getUp
  rw [W_isO, gb_s, gb_s, e, cb_s, Sum.elim_inr, cb_s, Sum.elim_inr, if_neg (by decide), if_pos (by decide)]
theorem setRate_ok {i : Int32} (g0 : AH) (v : Int32) (g2 : AH) (e : x8_act n 5 i 0 (putW g0 n w) = some (.inl v, g2)) : l_setRate n i (putW g0 n w) = some (v, g2) := by
  unfold l_setRate x8_setRate
  rw [W_isO, gb_s, gb_s, e, cb_s, Sum.elim_inl, cb_s, Sum.elim_inl]
theorem setRate_IA {i : Int32} (g0 : AH) (g2 : AH) (e : x8_act n 5 i 0 (putW g0 n w) = some (.inr (rfS 2), g2)) : l_setRate n i (putW g0 n w) = some (-102, g2) := by
  unfold l_setRate x8_setRate
  rw [W_isO, gb_s, gb_s, e, cb_s, Sum.elim_inr, cb_s, Sum.elim_inr, if_pos (by decide)]
theorem fetchLogs_ok {i : Int32} (g0 : AH) (v : Int32) (g2 : AH) (e : x8_act n 6 i 0 (putW g0 n w) = some (.inl v, g2)) : l_fetchLogs n i (putW g0 n w) = some (v, g2) := by
  unfold l_fetchLogs x8_fetchLogs
  rw [W_isO, gb_s, gb_s, e, cb_s, Sum.elim_inl, cb_s, Sum.elim_inl]
theorem fetchLogs_IA {i : Int32} (g0 : AH) (g2 : AH) (e : x8_act n 6 i 0 (putW g0 n w) = some (.inr (rfS 2), g2)) : l_fetchLogs n i (putW g0 n w) = some (-102, g2) := by
  unfold l_fetchLogs x8_fetchLogs
  rw [W_isO, gb_s, gb_s, e, cb_s, Sum.elim_inr, cb_s, Sum.elim_inr, if_pos (by decide)]
theorem fetchLogs_IS {i : Int32} (g0 : AH) (g2 : AH) (e : x8_act n 6 i 0 (putW g0 n w) = some (.inr (rfS 3), g2)) : l_fetchLogs n i (putW g0 n w) = some (-103, g2) := by
  unfold l_fetchLogs x8_fetchLogs
  rw [W_isO, gb_s, gb_s, e, cb_s, Sum.elim_inr, cb_s, Sum.elim_inr, if_neg (by decide), if_pos (by decide)]
theorem payDebt_ok {i b : Int32} (g0 : AH) (v : Int32) (g2 : AH) (e : x8_act n 7 i b (putW g0 n w) = some (.inl v, g2)) : l_payDebt n i b (putW g0 n w) = some (v, g2) := by
  unfold l_payDebt x8_payDebt
  rw [W_isO, gb_s, gb_s, e, cb_s, Sum.elim_inl, cb_s, Sum.elim_inl]
theorem payDebt_IO {i b : Int32} (g0 : AH) (g2 : AH) (e : x8_act n 7 i b (putW g0 n w) = some (.inr (rfS 1), g2)) : l_payDebt n i b (putW g0 n w) = some (-101, g2) := by
  unfold l_payDebt x8_payDebt
  rw [W_isO, gb_s, gb_s, e, cb_s, Sum.elim_inr, cb_s, Sum.elim_inr, if_pos (by decide)]
theorem payDebt_IA {i b : Int32} (g0 : AH) (g2 : AH) (e : x8_act n 7 i b (putW g0 n w) = some (.inr (rfS 2), g2)) : l_payDebt n i b (putW g0 n w) = some (-102, g2) := by
  unfold l_payDebt x8_payDebt
  rw [W_isO, gb_s, gb_s, e, cb_s, Sum.elim_inr, cb_s, Sum.elim_inr, if_neg (by decide), if_pos (by decide)]
theorem payDebt_IS {i b : Int32} (g0 : AH) (g2 : AH) (e : x8_act n 7 i b (putW g0 n w) = some (.inr (rfS 3), g2)) : l_payDebt n i b (putW g0 n w) = some (-103, g2) := by
  unfold l_payDebt x8_payDebt
  rw [W_isO, gb_s, gb_s, e, cb_s, Sum.elim_inr, cb_s, Sum.elim_inr, if_neg (by decide), if_neg (by decide), if_pos (by decide)]
theorem passHours_ok {i : Int32} (g0 : AH) (v : Int32) (g2 : AH) (e : x8_act n 8 i 0 (putW g0 n w) = some (.inl v, g2)) : l_passHours n i (putW g0 n w) = some (v, g2) := by
  unfold l_passHours x8_passHours
  rw [W_isO, gb_s, gb_s, e, cb_s, Sum.elim_inl, cb_s, Sum.elim_inl]
theorem passHours_IA {i : Int32} (g0 : AH) (g2 : AH) (e : x8_act n 8 i 0 (putW g0 n w) = some (.inr (rfS 2), g2)) : l_passHours n i (putW g0 n w) = some (-102, g2) := by
  unfold l_passHours x8_passHours
  rw [W_isO, gb_s, gb_s, e, cb_s, Sum.elim_inr, cb_s, Sum.elim_inr, if_pos (by decide)]
theorem passHours_IS {i : Int32} (g0 : AH) (g2 : AH) (e : x8_act n 8 i 0 (putW g0 n w) = some (.inr (rfS 3), g2)) : l_passHours n i (putW g0 n w) = some (-103, g2) := by
  unfold l_passHours x8_passHours
  rw [W_isO, gb_s, gb_s, e, cb_s, Sum.elim_inr, cb_s, Sum.elim_inr, if_neg (by decide), if_pos (by decide)]
end Wrap
