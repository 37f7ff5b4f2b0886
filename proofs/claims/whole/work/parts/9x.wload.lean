/-! the world loads a setup -/
theorem Hi.zU {z : St} {u : Su} (b : suB u) : Hi z (zU z u) := by
  obtain ⟨-, ⟨-, b2, -⟩, ⟨b3, -⟩, ⟨-, b5, -⟩, -, b6, -⟩ := b
  exact (((Hi.zL.trans (Hi.row (by decide) (by decide) b2)).trans (Hi.row (by decide) (by decide) b3)).trans (Hi.row (by decide) (by decide) b5)).trans (Hi.hik b6)
section LoadW
variable {n : Nat} {w : WS}
theorem GG_W {g : AH} {sp : PS} {h : HS} : GG2 (putW g n w) (n + 303) sp (n + hp 1) h = putW g n (wP (wH w 1 h) sp) := by
  show putP (putH (putW g n w) (n + hp 1) h) (n + 303) sp = _
  rw [W_setH (by decide), W_setP]
theorem W_1 {g : AH} : getR 8 (putW g n w) n 1 = some (n + hp 1) := W_o8 rfl
theorem Qr_load (H : Iv w) : Qr n w (x8_loadSetup n) x9_loadSetup := by
  obtain ⟨HJ, HD, HS', ⟨L, ec, ep, cnt, a, b, c, T, hpar, hL, h9, hT, h14, h15⟩, l, o1, o2, o3⟩ := H
  intro g
  generalize hr : wr w = r at HJ HS' h9 hT h14 h15 o2
  have eW : putP (putH (putW g n w) (n + hp 1) (w.1 1)) (n + 303) (giC ec ep cnt, tiC (I L) a b c, T) = putW g n w := by
    rw [W_H (by decide), W_setP, ← hpar]
    rfl
  have hd : n + 303 + 3 ≤ n + hp 1 ∨ n + hp 1 + 27 ≤ n + 303 := Or.inr (by have := hp_lt (k := 1) (by decide); omega)
  have hread := c_readParts (g := putW g n w) (p := n + 303) (q := n + hp 1) (T := T) (h := w.1 1) (cnt := cnt) (a := a) (b := b) (c := c) (ec := ec) (ep := ep) hd hL
  rw [eW] at hread
  rcases hread with ⟨u, s', cnt', e1, -, e2, e3⟩ | ⟨c', e, e1, e2, e3, h', cnt', e4, e5⟩
  · have hb := suS_ok e1
    have hz : ∀ j, j < 149 → zer (r.2 1) 149 j = 0 := fun j hj => if_pos hj
    have hA : ∀ j, j < 149 → zU (zer (r.2 1) 149) u j = zA u j := fun j hj => zU_at hb hz hj
    obtain ⟨h1, q1, q2, q3, q4, q5⟩ := c_openK (g := putP (putW g n w) (n + 303) (pK cnt' T L s')) (p := n + hp 1) hb hA HD
    rw [← GG_sw hd, ← GG_sw hd, GG_W, GG_W] at q1
    rw [GG_W, W_isH (by decide), gb_s, q1, cb_s, if_pos (show bz (1 : Int32) from Or.inr rfl)] at e3
    obtain ⟨h2, p1, p2⟩ := W_copy (g := g) (n := n) (w := wP (wH w 1 h1) (pT (pK cnt' T L s') 1 0)) (st := zU (zer (r.2 1) 149) u) (i := 0) (j := 1) (by decide) (by decide) (by decide) (by
      show Gm _ ((wH w 1 h1).1 1)
      rw [wH_at]
      exact ⟨q4, q2, q3⟩)
    have e12 : h2.1 12 = I u.2.2.2.2.length := by
      rw [Rel_at p2.2.1 12 (by decide)]
      rfl
    obtain ⟨G, hzz, aa, x, h5, ex, hs⟩ := HJ
    refine ⟨I u.2.2.2.2.length, wI (wH (wP (wH w 1 h1) (pT (pK cnt' T L s') 1 0)) 0 h2) (w.2.1.1, 0), ?_, hr, fun g' m => ?_⟩
    · unfold x8_loadSetup
      rw [W_6, gb_s, W_1, gb_s, W_isO0, gb_s, e3, cb_s, W_6, gb_s, W_60, gb_s, W_putT (by decide), gb_s, if_neg (show ¬ (1 : Int32) = 0 by decide), W_80, gb_s, W_1, gb_s, W_isO3, gb_s]
      show cb (x3_copyFrom (n + hp 0) (n + hp 1) (putW g n (wP (wH w 1 h1) (pT (pK cnt' T L s') 1 0)))) _ = _
      rw [p1, cb_s, W_3, gb_s, W_h2O, gb_s, W_forget, cb_s, W_80, gb_s, W_hI (by decide), gb_s]
      show some (h2.1 12, _) = _
      rw [e12]
      rfl
    · rcases s_loadSetup (g := g') (m := m) h9 hT hL with ⟨u1, f1, r1, f2, ⟨f5, f6, f9, f14, f15, f17⟩, f3, f4⟩ | ⟨c', e, f1, -⟩
      · have eu : u1 = u := by rw [f1] at e1; exact Sum.inl.inj e1
        rw [eu] at f2 f3
        refine ⟨r1, f2, f6, ?_⟩
        refine Iv_mk (w := w) (r := r) ⟨?_, ?_, 0, x, f5, ?_, Hs_none hs.2.1⟩ ?_ HS' rfl (fun j hj => ?_) (fun d hd => f4.2 d (by omega) (by omega)) ?_ o1 o2 o3 rfl (f4.1 20 (by decide) (by decide) (by omega) (by decide))
        · rw [f3]
          show Gm _ ((wH (wP (wH w 1 h1) (pT (pK cnt' T L s') 1 0)) 0 h2).1 0)
          rw [wH_at]
          exact p2
        · rw [f3]
          exact hzz.hi (Hi.zer.trans (Hi.zU hb))
        · show (w.2.1.1, (0 : Int32)) = (I x, I 0)
          rw [ex]
          rfl
        · show Dr ((wH (wP (wH w 1 h1) (pT (pK cnt' T L s') 1 0)) 0 h2).1 1)
          rw [wH_ne (by decide)]
          show Dr ((wH w 1 h1).1 1)
          rw [wH_at]
          exact q5
        · show (wH (wP (wH w 1 h1) (pT (pK cnt' T L s') 1 0)) 0 h2).1 (9 + j) = _
          rw [wH_ne (by omega)]
          exact wH_ne (by omega)
        · exact ⟨0, 0, -1, cnt', _, _, _, T, pT_z, by decide, f9, fun i hi => absurd hi (Nat.not_lt_zero _), f14, f15⟩
      · rw [f1] at e1
        exact absurd e1 (by simp)
  · rw [GG_W] at e5
    refine ⟨-1, wP (wH w 1 h') (pT (pE (I c') cnt' T L e) 1 0), ?_, hr, fun g' m => ?_⟩
    · unfold x8_loadSetup
      rw [W_6, gb_s, W_1, gb_s, W_isO0, gb_s, e5, cb_s, W_6, gb_s, W_60, gb_s, W_putT (by decide), gb_s, if_pos (show (0 : Int32) = 0 from rfl)]
      rfl
    · rcases s_loadSetup (g := g') (m := m) h9 hT hL with ⟨u1, f1, -⟩ | ⟨c1, e', f1, -, -, r1, f2, ⟨f5, f6, f9, f14, f15, f17⟩, f3, f4⟩
      · rw [f1] at e1
        exact absurd e1 (by simp)
      · have ec : (c1, e') = (c', e) := by rw [f1] at e1; exact Sum.inr.inj e1
        obtain ⟨rfl, rfl⟩ := Prod.mk.inj ec
        refine ⟨r1, f2, f6, ?_⟩
        obtain ⟨G, hzz, aa, x, h5, ex, hs⟩ := HJ
        refine Iv_mk (w := w) (r := r) ⟨?_, by rw [f3]; exact hzz, aa, x, f5.trans h5, ex, ?_⟩ ?_ HS' rfl (fun j hj => wH_ne (by omega)) (fun d hd => f4.2 d (by omega) (by omega)) ?_ o1 o2 o3 rfl (f4.1 20 (by decide) (by decide) (by omega) (by decide))
        · rw [f3]
          show Gm _ ((wH w 1 h').1 0)
          rw [wH_ne (by decide)]
          exact G
        · rw [f4.2 3 (by decide) (by decide)]
          have : (fun j => (wP (wH w 1 h') (pT (pE (I c1) cnt' T L e') 1 0)).1 (3 + j)) = fun j => w.1 (3 + j) := funext fun j => wH_ne (by omega)
          rw [this]
          exact hs
        · show Dr ((wH w 1 h').1 1)
          rw [wH_at]
          exact e4 HD
        · exact ⟨0, I c1, I e', cnt', _, _, _, T, pT_z, by decide, f9, fun i hi => absurd hi (Nat.not_lt_zero _), f14, f15⟩
end LoadW
