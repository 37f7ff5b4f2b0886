/-! the class takes the text and reads it -/
section TextW
variable {g : AH} {n : Nat} {w : WS} {L : Nat} {T : Nat → Int32} {gi : Nat → Int32} {a b c : Int32}
theorem W_6 : getR 8 (putW g n w) n 6 = some (n + 303) := W_o8 rfl
theorem W_60 : getR 0 (putW g n w) (n + 303) 0 = some (n + 303 + 1) := by
  have := P_getR0 (g := putW g n w) (p := n + 303) (s := w.2.2.2.1)
  rw [W_P] at this
  exact this
theorem W_isO7 : isO 7 (putW g n w) (n + 303 + 1) = some () := by
  have := P_isO7 (g := putW g n w) (p := n + 303) (s := w.2.2.2.1)
  rw [W_P] at this
  exact this
theorem W_isO0 : isO 0 (putW g n w) (n + 303) = some () := by
  have := P_isO0 (g := putW g n w) (p := n + 303) (s := w.2.2.2.1)
  rw [W_P] at this
  exact this
theorem W_tI {k : Nat} (h : k ≠ 0) : getI 7 (putW g n w) (n + 303 + 1) k = some (w.2.2.2.1.2.1 k) := by
  have := P_tI (g := putW g n w) (p := n + 303) (s := w.2.2.2.1) h
  rw [W_P] at this
  exact this
theorem W_putT {k : Nat} {v : Int32} (h : k ≠ 0) : putV 7 (putW g n w) (n + 303 + 1) k (.int v) = some (putW g n (wP w (pT w.2.2.2.1 k v))) := by
  have := P_putT (g := putW g n w) (p := n + 303) (s := w.2.2.2.1) (v := v) h
  rw [W_P, W_setP] at this
  exact this
/-- the class appends -/
theorem Wp_put1 (v : Int32) (hL : L < 500) : x7_put (n + 303 + 1) v (putW g n (wP w (gi, tiC (I L) a b c, T))) = some ((), putW g n (wP w (gi, tiC (I (L + 1)) a b c, upd T L (v &&& 255)))) := by
  have := c_put1 (g := putW g n w) (p := n + 303) (gi := gi) (a := a) (b := b) (c := c) (T := T) v hL
  rw [W_setP, W_setP] at this
  exact this
theorem Wp_room {k : Nat} {x : Int32} (hx : x = I k) (hL : L ≤ 500) (hk0 : k ≤ 4) : x7_hasRoomFor (n + 303 + 1) x (putW g n (wP w (gi, tiC (I L) a b c, T))) = some (if 500 < L + k then 0 else 1, putW g n (wP w (gi, tiC (I L) a b c, T))) := by
  have := c_room (g := putW g n w) (p := n + 303) (gi := gi) (a := a) (b := b) (c := c) (T := T) hx hL hk0
  rw [W_setP] at this
  exact this
theorem c_append (hL : L ≤ 500) (x : Int32) : x8_appendText n x (putW g n (wP w (gi, tiC (I L) a b c, T))) = if L + 4 ≤ 500 then some (.inl (I (L + 4)), putW g n (wP w (gi, tiC (I (L + 4)) a b c, T4 T L x))) else some (.inr "java/lang/IllegalStateException", hcut (putW g n (wP w (gi, tiC (I L) a b c, T)))) := by
  unfold x8_appendText
  rw [W_6, gb_s, W_60, gb_s, W_isO7, gb_s, Wp_room (k := 4) (x := 4) rfl hL (by decide), cb_s]
  by_cases h : L + 4 ≤ 500
  · rw [if_neg (show ¬ 500 < L + 4 by omega), if_neg (show ¬ (1 : Int32) = 0 by decide), if_pos h, W_6, gb_s, W_60, gb_s, W_isO7, gb_s, Wp_put1 _ (by omega), cb_s, W_6, gb_s, W_60, gb_s, W_isO7, gb_s, Wp_put1 _ (by omega), cb_s, W_6, gb_s, W_60, gb_s, W_isO7, gb_s, Wp_put1 _ (by omega), cb_s, W_6, gb_s, W_60, gb_s, W_isO7, gb_s, Wp_put1 _ (by omega), cb_s, W_6, gb_s, W_60, gb_s, W_tI (by decide), gb_s]
    rfl
  · rw [if_pos (show 500 < L + 4 by omega), if_pos (show (0 : Int32) = 0 from rfl), if_neg h]
/-- the class cuts -/
theorem c_truncate (hL : L ≤ 500) (x : Int32) : x8_truncateText n x (putW g n (wP w (gi, tiC (I L) a b c, T))) = if bt x 0 (I L) = true then some (.inl x, putW g n (wP w (gi, tiC x a b c, T))) else some (.inr "java/lang/IllegalArgumentException", hcut (putW g n (wP w (gi, tiC (I L) a b c, T)))) := by
  unfold x8_truncateText
  rw [W_6, gb_s, W_60, gb_s, W_tI (by decide), gb_s]
  show cb (x8_isWithin x 0 (I L) (putW g n (wP w (gi, tiC (I L) a b c, T)))) _ = _
  rw [s_isWithin, cb_s]
  by_cases h : bt x 0 (I L) = true
  · rw [if_neg (show ¬ bI (bt x 0 (I L)) = 0 by rw [bI_z, h]; decide), if_pos h, W_6, gb_s, W_60, gb_s, W_putT (by decide), gb_s]
    show some ((Sum.inl x : Int32 ⊕ String), putW g n (wP w (gi, upd (tiC (I L) a b c) 1 x, T))) = _
    rw [ti1]
  · rw [if_pos ((bI_z _).mpr (by simpa using h)), if_neg h]
theorem pT_z {gi T : Nat → Int32} {L s : Nat} : pT (pC gi T L s) 1 0 = (gi, tiC (I 0) (I (tk T L s)) (I s) (I (te T L s)), T) := by
  show (gi, upd (tiC (I L) (I (tk T L s)) (I s) (I (te T L s))) 1 0, T) = _
  rw [ti1]
  rfl
end TextW
section LoadW
variable {n : Nat} {w : WS}
theorem GG_W {g : AH} {sp : PS} {h : HS} : GG2 (putW g n w) (n + 303) sp (n + hp 1) h = putW g n (wP (wH w 1 h) sp) := by
  show putP (putH (putW g n w) (n + hp 1) h) (n + 303) sp = _
  rw [W_setH (by decide), W_setP]
theorem W_1 {g : AH} : getR 8 (putW g n w) n 1 = some (n + hp 1) := W_o8 rfl
end LoadW
/-- a byte of the text -/
def Cb (c : Int32) : Prop := ((c &&& 255).toUInt32 % 65536).toInt32 = c ∧ narI .char c = c ∧ c &&& 255 = c
theorem Cb_dg : ∀ d, d < 10 → ((I (48 + d) &&& 255).toUInt32 % 65536).toInt32 = I (48 + d) ∧ narI .char (I (48 + d)) = I (48 + d) ∧ I (48 + d) &&& 255 = I (48 + d) := by decide +kernel
theorem Cb_sp : Cb 32 ∧ Cb 59 := by
  unfold Cb
  decide +kernel
theorem Cb_st {k : Nat} (hk0 : k < 11) : ∀ x, x ∈ bytST k → Cb x := by
  have : ∀ k, k < 11 → (bytST k).all (fun c => decide (((c &&& 255).toUInt32 % 65536).toInt32 = c) && (decide (narI .char c = c) && decide (c &&& 255 = c))) = true := by decide +kernel
  intro x hx
  have := List.all_eq_true.mp (this k hk0) x hx
  simpa [Cb] using this
theorem Cb_DG {v : Nat} (hv : v < 100) : ∀ x, x ∈ DG v → Cb x := by
  intro x hx
  unfold DG at hx
  split at hx
  · rename_i h
    rw [List.mem_singleton.mp hx]
    exact Cb_dg v h
  · rcases List.mem_cons.mp hx with e | e
    · rw [e]; exact Cb_dg _ (by omega)
    · rw [List.mem_singleton.mp e]; exact Cb_dg _ (by omega)
theorem Cb_0 : (0 : Int32) &&& 255 = 0 := by decide
def chA (l : List Int32) (q : Nat) : Int32 := if q < l.length then l.getD q 0 else 0
section Lays
variable {g : AH} {n : Nat} {w : WS} {st arr p : Nat} {l : List Int32}
theorem Sr.len (S : Sr g st arr l) (hl : l.length ≤ 400) : j0_length_8abf5 st g = some (I l.length, g) := by
  obtain ⟨V, f, e1, v0, v1, e2, hf⟩ := S
  unfold j0_length_8abf5 j0_coder_7d493
  rw [getR_of e1 v0, gb_s, alen_of e2, gb_s, isO_of e1, gb_s, if_neg (by decide), getI_of e1 v1, gb_s, if_pos (by decide +kernel), cb_s, sr31]
theorem Sr.chr (S : Sr g st arr l) (hl : l.length ≤ 400) {q : Nat} (hq : q < l.length) (hc : Cb (l.getD q 0)) : j0_charAt_5068e st (I q) g = some (l.getD q 0, g) := by
  obtain ⟨V, f, e1, v0, v1, e2, hf⟩ := S
  unfold j0_charAt_5068e j0_isLatin1_aae02 j1_charAt_3b067
  rw [isO_of e1, gb_s, if_neg (by decide), getI_of e1 v1, gb_s, if_pos rfl, cb_s, if_neg (by decide), getR_of e1 v0, gb_s, alen_of e2, gb_s, chk_I hq (by omega), gb_s, aldI_of e2 hq (by omega), gb_s, hf q hq, hc.1, if_pos hc.2.1, cb_s, if_pos hc.2.1]
def pkI (l : List Int32) (k : Nat) : Nat → Int32
  | 0 => 0
  | i + 1 => (pkI l k i <<< ((8 : Int32) &&& 31)) ||| chA l (k + i)
theorem s_four (S : Sr g st arr l) (hl : l.length ≤ 175) (hc : ∀ j, j < l.length → Cb (l.getD j 0)) {k : Nat} (hk0 : k ≤ 400) : loopX (l_lays_l28 p st (I k)) 1000 (0, 0) g = some (pk4 (chA l k) (chA l (k + 1)) (chA l (k + 2)) (chA l (k + 3)), g) := by
  refine loop_up (n := 4) (fun i => (pkI l k i, I i)) (fun _ => g) (fun i hi => ?_) ?_ (by decide)
  · unfold l_lays_l28 l_lays_j65_28
    dsimp only
    obtain ⟨V, f, e1, -⟩ := id S
    rw [if_neg (show ¬ (4 : Int32) ≤ I i from le_IN (m := 4) hi (by decide)), isO_of e1, gb_s, S.len (by omega), cb_s, I_add]
    by_cases h : k + i < l.length
    · have hcc := hc _ h
      rw [if_neg (le_IN h (by omega)), isO_of e1, gb_s, S.chr (by omega) h hcc, cb_s, hcc.2.2, I_succ]
      rw [show pkI l k (i + 1) = ((pkI l k i <<< ((8 : Int32) &&& 31)) ||| chA l (k + i)) from rfl, show chA l (k + i) = l.getD (k + i) 0 from if_pos h]
    · rw [if_pos (by rw [I_le (by omega) (by omega)]; omega), I_succ]
      rw [show pkI l k (i + 1) = ((pkI l k i <<< ((8 : Int32) &&& 31)) ||| chA l (k + i)) from rfl, show chA l (k + i) = 0 from if_neg h]
  · unfold l_lays_l28
    dsimp only
    rw [if_pos (show (4 : Int32) ≤ I 4 from Int32.le_refl _)]
    rfl
theorem Sr.out {g0 : AH} (S : Sr g st arr l) (w1 : WS) (h1 : st < n ∨ n + 312 ≤ st) (h2 : arr < n ∨ n + 312 ≤ arr) : Sr (putW g n w1) st arr l := by
  obtain ⟨V, f, e1, v0, v1, e2, hf⟩ := S
  exact ⟨V, f, (put_out h1).trans e1, v0, v1, (put_out h2).trans e2, hf⟩
theorem s_lays {V : Nat → Value} (hp : p < n ∨ n + 312 ≤ p) (hV : g.1 p = some (.inl (10, V))) (v0 : V 0 = .ref n) (S : Sr g st arr l) (h1 : st < n ∨ n + 312 ≤ st) (h2 : arr < n ∨ n + 312 ≤ arr) {gi : Nat → Int32} {L0 : Nat} {a b c : Int32} {T0 : Nat → Int32} (hg : putW g n w = g) (hw : w.2.2.2.1 = (gi, tiC (I L0) a b c, T0)) (hL0 : L0 ≤ 500) (hl : l.length ≤ 175) (hc : ∀ j, j < l.length → Cb (l.getD j 0)) : ∃ T, (∀ j, j < l.length → T j = l.getD j 0) ∧ l_lays p st g = some (1, putW g n (wP w (gi, tiC (I l.length) a b c, T))) := by
  have eW : wP w (gi, tiC (I L0) a b c, T0) = w := by rw [← hw]; rfl
  have hp8 : ∀ w1, getR 10 (putW g n w1) p 0 = some n := fun w1 => getR_of ((put_out hp).trans hV) v0
  have hchA : ∀ q, chA l q &&& 255 = chA l q := fun q => by
    unfold chA
    split
    · rename_i h; exact (hc q h).2.2
    · decide
  have et0 : l_truncateText n 0 g = some (0, putW g n (wP w (gi, tiC (I 0) a b c, T0))) := by
    have := c_truncate (g := g) (n := n) (w := w) (gi := gi) (a := a) (b := b) (c := c) (T := T0) hL0 0
    rw [eW, hg, if_pos (show bt 0 0 (I L0) = true from bt_I (x := 0) (lo := 0) (hi := L0) (by omega) (by omega) (by omega))] at this
    unfold l_truncateText
    have i8 : isO 8 g n = some () := by rw [← hg]; exact W_isO
    rw [i8, gb_s, this, cb_s, Sum.elim_inl]
    rfl
  obtain ⟨t, g1, e1, T, q1, q2, q3⟩ := loop_inv (n := (l.length + 3) / 4) (fuel := 126) (body := l_lays_l15 p st) (P := fun j s gg => s = I (4 * j) ∧ ∃ T, (∀ q, q < 4 * j → T q = chA l q) ∧ gg = putW g n (wP w (gi, tiC (I (4 * j)) a b c, T))) (Q := fun t gg => ∃ T, (∀ q, q < l.length → T q = chA l q) ∧ t = .inl () ∧ gg = putW g n (wP w (gi, tiC (I (4 * ((l.length + 3) / 4))) a b c, T))) (fun j s gg hj hP => by
    obtain ⟨rfl, T, hT, rfl⟩ := hP
    have S1 := S.out (g0 := g) (wP w (gi, tiC (I (4 * j)) a b c, T)) h1 h2
    obtain ⟨V1, f1, e1, -⟩ := id S1
    have hlt : 4 * j < l.length := by omega
    have ea := c_append (g := g) (n := n) (w := w) (gi := gi) (a := a) (b := b) (c := c) (T := T) (L := 4 * j) (by omega) (pk4 (chA l (4 * j)) (chA l (4 * j + 1)) (chA l (4 * j + 2)) (chA l (4 * j + 3)))
    rw [if_pos (by omega)] at ea
    obtain ⟨k0, k1, k2, k3⟩ := byt_pk (hchA (4 * j)) (hchA (4 * j + 1)) (hchA (4 * j + 2)) (hchA (4 * j + 3))
    have eA : l_appendText n (pk4 (chA l (4 * j)) (chA l (4 * j + 1)) (chA l (4 * j + 2)) (chA l (4 * j + 3))) (putW g n (wP w (gi, tiC (I (4 * j)) a b c, T))) = some (I (4 * j + 4), putW g n (wP w (gi, tiC (I (4 * j + 4)) a b c, T4 T (4 * j) (pk4 (chA l (4 * j)) (chA l (4 * j + 1)) (chA l (4 * j + 2)) (chA l (4 * j + 3)))))) := by
      unfold l_appendText
      rw [W_isO, gb_s, ea, cb_s, Sum.elim_inl]
    refine ⟨I (4 * (j + 1)), putW g n (wP w (gi, tiC (I (4 * (j + 1))) a b c, T4 T (4 * j) (pk4 (chA l (4 * j)) (chA l (4 * j + 1)) (chA l (4 * j + 2)) (chA l (4 * j + 3))))), ?_, rfl, _, fun q hq => ?_, rfl⟩
    · unfold l_lays_l15
      rw [isO_of e1, gb_s, S1.len (by omega), cb_s, if_neg (le_IN hlt (by omega)), s_four S1 hl hc (by omega), cb_s, hp8, gb_s, eA, cb_s, show (4 : Int32) = I 4 from rfl, I_add, if_pos rfl, show 4 * (j + 1) = 4 * j + 4 by omega]
    · unfold T4
      rw [k0, k1, k2, k3]
      by_cases c3 : q = 4 * j + 3
      · rw [c3, upd_at]
      · rw [upd_ne c3]
        by_cases c2 : q = 4 * j + 2
        · rw [c2, upd_at]
        · rw [upd_ne c2]
          by_cases c1 : q = 4 * j + 1
          · rw [c1, upd_at]
          · rw [upd_ne c1]
            by_cases c0 : q = 4 * j
            · rw [c0, upd_at]
            · rw [upd_ne c0]
              exact hT q (by omega)) (fun s gg hP => by
    obtain ⟨rfl, T, hT, rfl⟩ := hP
    have S1 := S.out (g0 := g) (wP w (gi, tiC (I (4 * ((l.length + 3) / 4))) a b c, T)) h1 h2
    obtain ⟨V1, f1, e1, -⟩ := id S1
    refine ⟨.inl (), _, ?_, T, fun q hq => hT q (by omega), rfl, rfl⟩
    unfold l_lays_l15
    rw [isO_of e1, gb_s, S1.len (by omega), cb_s, if_pos (by rw [I_le (by omega) (by omega)]; omega)]) (by omega) (s := 0) (g := putW g n (wP w (gi, tiC (I 0) a b c, T0))) ⟨rfl, T0, fun q hq => absurd hq (by omega), rfl⟩
  subst q2 q3
  have S2 := S.out (g0 := g) (wP w (gi, tiC (I (4 * ((l.length + 3) / 4))) a b c, T)) h1 h2
  obtain ⟨V2, f2, e2, -⟩ := id S2
  have S3 := S.out (g0 := g) (wP w (gi, tiC (I l.length) a b c, T)) h1 h2
  obtain ⟨V3, f3, e3, -⟩ := id S3
  have et := c_truncate (g := g) (n := n) (w := w) (gi := gi) (a := a) (b := b) (c := c) (T := T) (L := 4 * ((l.length + 3) / 4)) (by omega) (I l.length)
  rw [if_pos (show bt (I l.length) 0 (I (4 * ((l.length + 3) / 4))) = true from bt_I (x := l.length) (lo := 0) (hi := 4 * ((l.length + 3) / 4)) (by omega) (by omega) (by omega))] at et
  have eT : l_truncateText n (I l.length) (putW g n (wP w (gi, tiC (I (4 * ((l.length + 3) / 4))) a b c, T))) = some (I l.length, putW g n (wP w (gi, tiC (I l.length) a b c, T))) := by
    unfold l_truncateText
    rw [W_isO, gb_s, et, cb_s, Sum.elim_inl]
  refine ⟨T, fun q hq => (q1 q hq).trans (if_pos hq), ?_⟩
  have hp0 : getR 10 g p 0 = some n := getR_of hV v0
  unfold l_lays
  rw [hp0, gb_s, et0, cb_s, if_pos rfl, e1, cb_s, Sum.elim_inl, hp8, gb_s, isO_of e2, gb_s, S2.len (by omega), cb_s, eT, cb_s, isO_of e3, gb_s, S3.len (by omega), cb_s, if_pos rfl]
end Lays
section Lds
variable {n : Nat} {w : WS} {r : RS}
theorem L_load (H : J w r) (HD : Dr (w.1 1)) {L : Nat} {ec ep cnt a b c : Int32} {T : Nat → Int32} (hpar : w.2.2.2.1 = (giC ec ep cnt, tiC (I L) a b c, T)) (hL : L ≤ 500) {u : Su} (e1 : suS T L = .inl u) (g : AH) : ∃ w1, x8_loadSetup n (putW g n w) = some (I u.2.2.2.2.length, putW g n w1) ∧ J w1 (RS_setF (RS_setA r 1 (fun j => if j < 149 then zA u j else 0)) 5 0) ∧ Kq w1 := by
  have eW : putP (putH (putW g n w) (n + hp 1) (w.1 1)) (n + 303) (giC ec ep cnt, tiC (I L) a b c, T) = putW g n w := by
    rw [W_H (by decide), W_setP, ← hpar]
    rfl
  have hd : n + 303 + 3 ≤ n + hp 1 ∨ n + hp 1 + 27 ≤ n + 303 := Or.inr (by have := hp_lt (k := 1) (by decide); omega)
  have hread := c_readParts (g := putW g n w) (p := n + 303) (q := n + hp 1) (T := T) (h := w.1 1) (cnt := cnt) (a := a) (b := b) (c := c) (ec := ec) (ep := ep) hd hL
  rw [eW] at hread
  rcases hread with ⟨u1, s', cnt', f1, -, e2, e3⟩ | ⟨c', e, f1, -⟩
  · rw [e1] at f1
    have f1 : u = u1 := Sum.inl.inj f1
    subst f1
    have hb := suS_ok e1
    obtain ⟨h1, q1, q2, q3, q4, q5⟩ := c_openK (g := putP (putW g n w) (n + 303) (pK cnt' T L s')) (p := n + hp 1) (st := fun j => if j < 149 then zA u j else 0) hb (fun j hj => if_pos hj) HD
    rw [← GG_sw hd, ← GG_sw hd, GG_W, GG_W] at q1
    rw [GG_W, W_isH (by decide), gb_s, q1, cb_s, if_pos (show bz (1 : Int32) from Or.inr rfl)] at e3
    obtain ⟨h2, p1, p2⟩ := W_copy (g := g) (n := n) (w := wP (wH w 1 h1) (pT (pK cnt' T L s') 1 0)) (st := fun j => if j < 149 then zA u j else 0) (i := 0) (j := 1) (by decide) (by decide) (by decide) (by
      show Gm _ ((wH w 1 h1).1 1)
      rw [wH_at]
      exact ⟨q4, q2, q3⟩)
    have e12 : h2.1 12 = I u.2.2.2.2.length := by
      rw [Rel_at p2.2.1 12 (by decide)]
      rfl
    obtain ⟨G, hzz, aa, x, h5, ex, hs⟩ := H
    refine ⟨wI (wH (wP (wH w 1 h1) (pT (pK cnt' T L s') 1 0)) 0 h2) (w.2.1.1, 0), ?_, ⟨?_, fun j hj => if_neg (by omega), 0, x, RSF_at _ _ _, ?_, Hs_none hs.2.1⟩, ?_, 0, 0, -1, cnt', _, _, _, T, pT_z, by decide⟩
    · unfold x8_loadSetup
      rw [W_6, gb_s, W_1, gb_s, W_isO0, gb_s, e3, cb_s, W_6, gb_s, W_60, gb_s, W_putT (by decide), gb_s, if_neg (show ¬ (1 : Int32) = 0 by decide), W_80, gb_s, W_1, gb_s, W_isO3, gb_s]
      show cb (x3_copyFrom (n + hp 0) (n + hp 1) (putW g n (wP (wH w 1 h1) (pT (pK cnt' T L s') 1 0)))) _ = _
      rw [p1, cb_s, W_3, gb_s, W_h2O, gb_s, W_forget, cb_s, W_80, gb_s, W_hI (by decide), gb_s]
      show some (h2.1 12, _) = _
      rw [e12]
      rfl
    · show Gm _ ((wH (wP (wH w 1 h1) (pT (pK cnt' T L s') 1 0)) 0 h2).1 0)
      rw [wH_at]
      exact p2
    · show (w.2.1.1, (0 : Int32)) = (I x, I 0)
      rw [ex]
      rfl
    · show Dr ((wH (wP (wH w 1 h1) (pT (pK cnt' T L s') 1 0)) 0 h2).1 1)
      rw [wH_ne (by decide)]
      show Dr ((wH w 1 h1).1 1)
      rw [wH_at]
      exact q5
  · rw [e1] at f1
    exact absurd f1 (by simp)
end Lds
