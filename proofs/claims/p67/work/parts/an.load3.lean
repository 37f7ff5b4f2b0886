/-! loads() and a round of the law -/
section Ld3
variable {g : AH} {A : Nat → Nat} {k9 : KK} {n K len : Nat} {F : Nat → Int32} {f : Rw3} {b : Bool} {w : WS} {r : RS} {N : Nat}
theorem s_loads (H0 : PL g A k9 n K F f len b w N) (hz : g.2 = some N) (J0 : J w r) (hQ : Kq w) (hK : K < 2 ^ 28) (hL : k9.2.2.1 < 2 ^ 30) : ∃ g1 A1 K1, l_loads k9 (A 0) g = some (1, g1) ∧ A1 0 = A 0 ∧ A1 5 ≠ k9.1 ∧ K1 ≤ K + 50 ∧ Rn k9 A1 n K1 0 g1 := by
  obtain ⟨V, mc, e1, -⟩ := H0.2.2.2.2.2.2
  have hgl : getR 10 g (A 0) 3 = some (A 1) := by
    obtain ⟨e, q1, V, q2, -, -, -, hV, -⟩ := H0.2.2.2.2.2.1 0 (DD0 (by decide)) (by decide)
    rw [q2] at q1
    exact getR_of q1 hV.1
  obtain ⟨ga, ea, Ha, za⟩ := H0.clear
  obtain ⟨g1, p1, H1, y1, -⟩ := Ha.put (k := 16) (by decide) (by decide) 0
  obtain ⟨g2, p2, H2, y2, -⟩ := H1.put (k := 15) (by decide) (by decide) 0
  obtain ⟨g3, p3, H3, y3, -⟩ := H2.put (k := 14) (by decide) (by decide) 0
  obtain ⟨g4, p4, H4, y4, -⟩ := H3.put (k := 13) (by decide) (by decide) 0
  obtain ⟨g5, p5, H5, y5, -⟩ := H4.put (k := 12) (by decide) (by decide) 0
  obtain ⟨g6, p6, H6, y6, -⟩ := H5.put (k := 11) (by decide) (by decide) 0
  obtain ⟨lg, g7, hlg, d7, H7, y7, -⟩ := H6.draw (by omega) hL (m := 100) (by decide) (by decide)
  obtain ⟨g8, p8, H8, y8, -⟩ := H7.put (k := 10) (by decide) (by decide) (I lg)
  obtain ⟨bk, g9, hbk, d9, H9, y9, -⟩ := H8.draw (by omega) hL (m := 8) (by decide) (by decide)
  obtain ⟨gb, pb, Hb, yb, -⟩ := H9.put (k := 7) (by decide) (by decide) (I (1 + bk))
  obtain ⟨bl, gc, hbl, dc, Hc, yc, -⟩ := Hb.draw (by omega) hL (m := 7) (by decide) (by decide)
  obtain ⟨gd, pd, Hd, yd, -⟩ := Hc.put (k := 8) (by decide) (by decide) (I bl)
  obtain ⟨dy, ge, hdy, de, He, ye, -⟩ := Hd.draw (by omega) hL (m := 6) (by decide) (by decide)
  obtain ⟨gf, pf, Hf, yf, -⟩ := He.put (k := 9) (by decide) (by decide) (I (1 + dy))
  have zf : gf.2 = some N := by rw [yf, ye, yd, yc, yb, y9, y8, y7, y6, y5, y4, y3, y2, y1, za, hz]
  generalize hFF : upd (upd (upd (upd (upd (upd (upd (upd (upd (upd F 16 0) 15 0) 14 0) 13 0) 12 0) 11 0) 10 (I lg)) 7 (I (1 + bk))) 8 (I bl)) 9 (I (1 + dy)) = FF at Hf
  have F7 : FF 7 = I (1 + bk) := by rw [← hFF]; rfl
  have F8 : FF 8 = I bl := by rw [← hFF]; rfl
  have F9 : FF 9 = I (1 + dy) := by rw [← hFF]; rfl
  have F10 : FF 10 = I lg := by rw [← hFF]; rfl
  have Fz : ∀ k, 11 ≤ k → k < 17 → FF k = 0 := by
    intro k k1 k2
    rw [← hFF]
    match k, k1, k2 with
    | 11, _, _ => rfl
    | 12, _, _ => rfl
    | 13, _, _ => rfl
    | 14, _, _ => rfl
    | 15, _, _ => rfl
    | 16, _, _ => rfl
    | k + 17, _, h => omega
  obtain ⟨gg, gh, v0, N0, eO, eI, Hh, Bh⟩ := Hf.begin zf
  have w6 : (bytST 6).length = 4 := by decide
  have w7 : wl 7 = 6 := by decide
  have w8 : wl 8 = 9 := by decide
  have w9 : wl 9 = 9 := by decide
  have hd0 := (DG_len lg).2
  obtain ⟨gi, v1, N1, ei, Bi, Ai⟩ := Bh.num (v := lg) hlg (by rw [w6]; decide)
  have Hi := Hh.fr (fun a a1 a2 a3 => Ai.2.2 a a1 a2 a3) Ai.1 (Or.inl rfl) Ai.2.1
  have l1 : (bytST 6 ++ DG lg).length ≤ 6 := by rw [List.length_append, w6]; omega
  obtain ⟨gj, v2, N2, ej, Bj, Aj⟩ := Bi.str (k := 7) (by decide) (by rw [w7]; omega)
  have Hj := Hi.fr (fun a a1 a2 a3 => Aj.2.2 a a1 a2 a3) Aj.1 (Or.inl rfl) Aj.2.1
  have l2 : (bytST 6 ++ DG lg ++ bytST 7).length ≤ 12 := by rw [List.length_append, show (bytST 7).length = 6 from w7]; omega
  obtain ⟨gk, K3, f3, bs, v3, N3, ek, b1, b2, b3, b4, Hk, Bk, b5, b6⟩ := s_row105 rfl (1 + bk) Hj Bj (by omega) hL F7 (by omega) (by omega)
  have l3 : (bytST 6 ++ DG lg ++ bytST 7 ++ RW bs).length ≤ 28 := by rw [List.length_append]; omega
  obtain ⟨gl, v4, N4, el, Bl', Al⟩ := Bk.str (k := 8) (by decide) (by rw [w8]; omega)
  have Hl := Hk.fr (fun a a1 a2 a3 => Al.2.2 a a1 a2 a3) Al.1 (Or.inl rfl) Al.2.1
  have l4 : (bytST 6 ++ DG lg ++ bytST 7 ++ RW bs ++ bytST 8).length ≤ 37 := by rw [List.length_append, show (bytST 8).length = 9 from w8]; omega
  obtain ⟨gm, K5, f5, ls, v5, N5, em, c1, c2, c3, c4, Hm', Bm, c5, c6⟩ := s_row151 rfl bl Hl Bl' (by omega) hL F8 (by omega) (by omega)
  have l5 : (bytST 6 ++ DG lg ++ bytST 7 ++ RW bs ++ bytST 8 ++ RW ls).length ≤ 49 := by rw [List.length_append]; omega
  obtain ⟨gn, v6, N6, en, Bn, An⟩ := Bm.str (k := 9) (by decide) (by rw [w9]; omega)
  have Hn := Hm'.fr (fun a a1 a2 a3 => An.2.2 a a1 a2 a3) An.1 (Or.inl rfl) An.2.1
  have l6 : (bytST 6 ++ DG lg ++ bytST 7 ++ RW bs ++ bytST 8 ++ RW ls ++ bytST 9).length ≤ 58 := by rw [List.length_append, show (bytST 9).length = 9 from w9]; omega
  obtain ⟨go, K7, f7, fs, v7, N7, eo, d1, d2, d3, d4, Ho, Bo, d5, d6⟩ := s_row199 rfl (1 + dy) Hn Bn (by omega) hL F9 (by omega) (by omega)
  have l7 : (bytST 6 ++ DG lg ++ bytST 7 ++ RW bs ++ bytST 8 ++ RW ls ++ bytST 9 ++ RW fs).length ≤ 76 := by rw [List.length_append]; omega
  obtain ⟨gp, v8, N8, ep, Bp, Ap'⟩ := Bo.chr (x := 59) (Or.inr rfl) (by omega)
  have Hp := Ho.fr (fun a a1 a2 a3 => Ap'.2.2 a a1 a2 a3) Ap'.1 (Or.inl rfl) Ap'.2.1
  have l8 : (bytST 6 ++ DG lg ++ bytST 7 ++ RW bs ++ bytST 8 ++ RW ls ++ bytST 9 ++ RW fs ++ [59]).length ≤ 77 := by rw [List.length_append, List.length_singleton]; omega
  obtain ⟨hk0, gq, hhk, eq', Hq, yq, yq'⟩ := Hp.draw (by omega) hL (m := 7) (by decide) (by decide)
  have nq := Hp.2.2.1 0 (DD0 (by decide))
  have Bq := Bp.fr yq (yq' _ (fun hc => nq.2.2.1 hc.symm)) (yq' _ (fun hc => nq.2.2.2 hc.symm))
  obtain ⟨gr, K9, A1, b9, hs, v9, N9, er, t1, t2, t3, Hr, Br, t4, t5, t6⟩ := s_hks (1 + hk0) Hq Bq (by omega) hL (by omega) (by omega)
  have hb9 := t6 (by omega)
  subst hb9
  obtain ⟨gs, es, Ss, zs, fs'⟩ := Br.fin
  -- u, and its text
  generalize hu : ((lg, bs, ls, fs, hs) : Su) = u
  have bu : suB u := by
    rw [← hu]
    refine ⟨by show lg ≤ 99; omega, ⟨by show 1 ≤ bs.length; omega, by show bs.length ≤ 12; omega, fun v hv => (b2 v hv).2⟩, ⟨by show ls.length ≤ 12; omega, fun v hv => c2 v hv⟩, ⟨by show 1 ≤ fs.length; omega, by show fs.length ≤ 12; omega, fun v hv => (d2 v hv).2⟩, by show 1 ≤ hs.length; omega, by show hs.length ≤ 10; omega, fun t ht => ?_⟩
    obtain ⟨x1, x2, x3⟩ := t2 t ht
    exact ⟨x1.2, x2, x3⟩
  have bt1 : ∀ t, t ∈ u.2.2.2.2 → 1 ≤ t.1 := by
    rw [← hu]
    exact fun t ht => (t2 t ht).1.1
  generalize hl0 : bytST 6 ++ DG lg ++ bytST 7 ++ RW bs ++ bytST 8 ++ RW ls ++ bytST 9 ++ RW fs ++ [59] ++ HW hs = l at Br Ss
  have ltx : l = txt u := by
    rw [← hl0, ← hu]
    unfold txt
    rw [b67.1, b67.2.1, b67.2.2.1, b67.2.2.2]
    simp [List.append_assoc]
  have ll : l.length ≤ 175 := by
    rw [← hl0, List.length_append]
    omega
  have cb : ∀ x, x ∈ l → Cb x := by
    rw [← hl0]
    intro x hx
    rcases List.mem_append.mp hx with hx | hx
    · rcases List.mem_append.mp hx with hx | hx
      · rcases List.mem_append.mp hx with hx | hx
        · rcases List.mem_append.mp hx with hx | hx
          · rcases List.mem_append.mp hx with hx | hx
            · rcases List.mem_append.mp hx with hx | hx
              · rcases List.mem_append.mp hx with hx | hx
                · rcases List.mem_append.mp hx with hx | hx
                  · rcases List.mem_append.mp hx with hx | hx
                    · exact Cb_st (by decide) x hx
                    · exact Cb_DG hlg x hx
                  · exact Cb_st (by decide) x hx
                · exact Cb_RW bs (fun v hv => by have := (b2 v hv).2; omega) x hx
              · exact Cb_st (by decide) x hx
            · exact Cb_RW ls (fun v hv => by have := (c2 v hv).2; omega) x hx
          · exact Cb_st (by decide) x hx
        · exact Cb_RW fs (fun v hv => by have := (d2 v hv).2; omega) x hx
      · rw [List.mem_singleton.mp hx]
        exact Cb_sp.2
    · exact Cb_HW hs (fun t ht => by obtain ⟨x1, x2, x3⟩ := t2 t ht; omega) x hx
  have cbj : ∀ j, j < l.length → Cb (l.getD j 0) := fun j hj => by
    have : l.getD j 0 = l[j] := by simp [List.getD_eq_getElem?_getD, hj]
    rw [this]
    exact cb _ (List.getElem_mem hj)
  -- laid
  have Hs' := Hr.fr (N1 := N9) (fun a a1 a2 a3 => fs' a a1) (Nat.le_refl _) (Or.inl rfl) (Or.inl rfl)
  obtain ⟨VV, ev, vv0, -⟩ := Hs'.o
  have np := (Hs'.2.2.1 0 (DD0 (by decide))).1
  have hn9 := Hs'.2.2.2.1.1
  obtain ⟨HD, L0, ec, epp, cnt, a0, b0, c0, T0, hpar, hL0⟩ := hQ
  obtain ⟨T, hT, eL⟩ := s_lays np ev vv0 Ss (Or.inr hn9) (Or.inr (by omega)) Hs'.1 hpar hL0 ll cbj
  have At0 : At T l.length 0 (txt u) := by
    rw [← ltx]
    exact ⟨fun j hj => by rw [Nat.zero_add]; exact hT j hj, Nat.zero_add _⟩
  have eS : suS T l.length = .inl u := suS_txt bu bt1 At0
  obtain ⟨w1, eLd, J1, Q1⟩ := L_load (n := n) (w := wP w (giC ec epp cnt, tiC (I l.length) a0 b0 c0, T)) (r := r) (L := l.length) (T := T) (u := u) J0 HD rfl (by omega) eS gs
  have u22 : u.2.2.2.2 = hs := by rw [← hu]
  have hq1 : LQ gs A1 n k9.2.1 (I K9) (fun j => if j < 149 then zA u j else 0) w := Hs'.lq bu u22 (fun k k1 k2 => by
    by_cases hk11 : 11 ≤ k
    · rw [Fz k hk11 k2]
      match k, hk11, k2 with
      | 11, _, _ => rfl
      | 12, _, _ => rfl
      | 13, _, _ => rfl
      | 14, _, _ => rfl
      | 15, _, _ => rfl
      | 16, _, _ => rfl
      | k + 17, _, h => omega
    · match k, k1, hk11 with
      | 7, _, _ => rw [F7, ← hu]; show _ = I bs.length; rw [b1]
      | 8, _, _ => rw [F8, ← hu]; show _ = I ls.length; rw [c1]
      | 9, _, _ => rw [F9, ← hu]; show _ = I fs.length; rw [d1]
      | 10, _, _ => rw [F10, ← hu]; rfl
      | k + 11, _, h => omega) (by
    rw [← hu]
    intro j hj
    rw [show f7.1 j = f3.1 j by rw [d4.1, c4.1]]
    exact b3 j (by have : j < bs.length := hj; omega)) (by
    rw [← hu]
    intro j hj
    rw [show f7.2.1 j = f5.2.1 j by rw [d4.2]]
    exact c3 j (by have : j < ls.length := hj; omega)) (by
    rw [← hu]
    intro j hj
    exact d3 j (by have : j < fs.length := hj; omega))
  have hq2 := hq1.wld (wP w (giC ec epp cnt, tiC (I l.length) a0 b0 c0, T))
  have hq3 := hq1.wld w1
  have zr : (RS_setF (RS_setA r 1 (fun j => if j < 149 then zA u j else 0)) 5 0).2 1 = (fun j => if j < 149 then zA u j else 0) := rfl
  have G1 := J1.1
  rw [zr] at G1
  generalize hzz : (fun j => if j < 149 then zA u j else 0 : St) = z at J1 G1 zr hq2 hq3
  have zz : ∀ j, j < 149 → z j = zA u j := fun j hj => by rw [← hzz]; exact if_pos hj
  have n12 : nH z = hs.length := by
    unfold nH
    rw [zz 12 (by decide), ← u22]
    exact I_nat (by rw [u22]; omega)
  have n9' : nB z = bs.length := by unfold nB; rw [zz 9 (by decide), ← hu]; exact I_nat (by show bs.length < 2 ^ 31; omega)
  have n10 : nL z = ls.length := by unfold nL; rw [zz 10 (by decide), ← hu]; exact I_nat (by show ls.length < 2 ^ 31; omega)
  have hBk := L_back_no (n := n) J1 (RSF_at _ _ _) gs
  refine ⟨hcut (putW gs n w1), A1, K9, ?_, t3 0 (by decide), Hr.2.2.2.2.1.2.2.1 rfl, by omega, w1, _, by rw [zr]; exact hq3.cut, J1, ?_, ?_, ?_, Q1⟩
  · have d7 : l_draw k9 (A 0) 100 g6 = some (I lg, g7) := d7
    have d9 : l_draw k9 (A 0) 8 g8 = some (I bk, g9) := d9
    have dc : l_draw k9 (A 0) 7 gb = some (I bl, gc) := dc
    have de : l_draw k9 (A 0) 6 gd = some (I dy, ge) := de
    have eq' : l_draw k9 (A 0) 7 gp = some (I hk0, gq) := eq'
    have eL : l_lays (A 0) N9 gs = some (1, putW gs n (wP w (giC ec epp cnt, tiC (I l.length) a0 b0 c0, T))) := by rw [← t3 0 (by decide)]; exact eL
    have a10 := t3 0 (by decide)
    unfold l_loads
    rw [hgl, gb_s, isO_of e1, gb_s, ea, cb_s, p1, gb_s, p2, gb_s, p3, gb_s, p4, gb_s, p5, gb_s, p6, gb_s, H6.iO, gb_s, d7, cb_s, p8, gb_s, H8.iO, gb_s, d9, cb_s, show (1 : Int32) + I bk = I (1 + bk) from I_add 1 bk, pb, gb_s, Hb.iO, gb_s, dc, cb_s, pd, gb_s, Hd.iO, gb_s, de, cb_s, show (1 : Int32) + I dy = I (1 + dy) from I_add 1 dy, pf, gb_s, eO, cb_s, eI, cb_s, Hh.gI (by decide) (by decide), gb_s, F10, Bh.o, gb_s, ei, cb_s, Bi.o, gb_s, ej, cb_s, ek, cb_s, Bk.o, gb_s, el, cb_s, em, cb_s, Bm.o, gb_s, en, cb_s, eo, cb_s, Bo.o, gb_s, ep, cb_s, Hp.iO, gb_s, eq', cb_s, show (1 : Int32) + I hk0 = I (1 + hk0) from I_add 1 hk0, er, cb_s, Br.o, gb_s, es, cb_s, ← a10, Hs'.iO, gb_s, a10, eL, cb_s, if_neg (by decide), ← a10, hq2.gx, gb_s, W_isO, gb_s, eLd, cb_s, hq3.gl, gb_s, hq3.isL, gb_s, hq3.size, cb_s, if_pos (by rw [n12, u22]), hq3.gx, gb_s, hBk, cb_s, if_pos rfl]
  · rw [zr]
    refine ⟨?_, ?_⟩
    · have e7 : upd z 7 (z 7) = z := upd_self rfl
      have := sumF_set (st := z) bu zz (x := z 7)
      rw [e7] at this
      rw [this, zz 7 (by decide), zz 6 (by decide)]
      show I (sumC u.2.2.2.2) = 0 + I (sumC u.2.2.2.2)
      rw [Int32.zero_add]
    · rw [zz 8 (by decide), zz 0 (by decide), zz 4 (by decide)]
      show I u.1 = I u.1 + 0
      rw [Int32.add_zero]
  · rw [zr]
    unfold nT
    rw [zz 3 (by decide)]
    exact Nat.le_refl 0
  · rw [zr]
    unfold Sz
    rw [n9', n10, n12]
    omega
end Ld3
