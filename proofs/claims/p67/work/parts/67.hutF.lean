/-! the class's hours against the reference's -/
section HutF
variable {g : AH} {p : Nat} {h : HS} {st : St}
theorem Kp.un {z z1 : St} (k : Kp z z1) (w : Ws z) (u : Un z) : Un z1 := by
  intro i j hi hj hij
  rw [Kp_nH k] at hi hj
  have := u i j hi hj hij
  have hh := w.h.2
  unfold hk at this ⊢
  rw [(k.2 i (by omega)).1, (k.2 i (by omega)).2, (k.2 j (by omega)).1, (k.2 j (by omega)).2]
  exact this
theorem Meas.cv (M : Meas st h) : Cv st h := fun i hi => (M.1 i hi).1
theorem Rel.upO (w : Ws st) (R : Rel st h) {i d : Nat} {v : Int32} (hi : i < 10) (hd : d < 4) : Rel (upd st (49 + 10 * i + (6 + d)) v) (hO h i (upd (h.2.2.2 i) d v)) := by
  have e : ∀ q, q < 49 → upd st (49 + 10 * i + (6 + d)) v q = st q := fun q hq => upd_ne (by omega)
  have k : Kp st (upd st (49 + 10 * i + (6 + d)) v) := Kp.refl.up (by omega) (fun j hj => by omega)
  have hh := w.h.2
  refine ⟨Rel_fm fun j hj => ?_, ⟨fun b hb => ?_, fun b hb => ?_, fun b hb => ?_⟩, fun q hq x hx => ?_, fun q hq x hx => ?_, fun j hj => ?_⟩
  · have : ∀ k, k < 13 → fm k < 13 := by decide
    have h1 := this j hj
    rw [e _ (by omega)]
    exact Rel_at R j hj
  · have hb2 : b < nB st := by unfold nB at hb ⊢; rw [← e 9 (by decide)]; exact hb
    rw [e _ (by have := w.b.2; omega)]; exact R.2.1.1 b hb2
  · have hb2 : b < nL st := by unfold nL at hb ⊢; rw [← e 10 (by decide)]; exact hb
    rw [e _ (by have := w.l.2; omega)]; exact R.2.1.2.1 b hb2
  · have hb2 : b < nF st := by unfold nF at hb ⊢; rw [← e 11 (by decide)]; exact hb
    rw [e _ (by have := w.f.2; omega)]; exact R.2.1.2.2 b hb2
  · rw [Kp_nH k] at hq
    unfold hk
    rw [upd_ne (by omega)]
    exact R.2.2.1 q hq x hx
  · rw [Kp_nH k] at hq
    unfold hk
    show (if q = i then upd (h.2.2.2 i) d v else h.2.2.2 q) x = _
    by_cases hc : q = i
    · rw [if_pos hc, hc]
      by_cases hx2 : x = d
      · rw [hx2, upd_at, upd_at]
      · rw [upd_ne hx2, upd_ne (by omega), ← hc]
        exact R.2.2.2.1 q hq x hx
    · rw [if_neg hc, upd_ne (by omega)]
      exact R.2.2.2.1 q hq x hx
  · rw [Kp_inB k w]
    exact R.2.2.2.2 j hj
theorem nt_ag (s : St × St) (i : Nat) (hi : i < 10) : Ag s.1 (ntStep s i).1 := by
  obtain ⟨d, h1, -, h3⟩ := deed_I s.1 i
  unfold ntStep
  rw [h3]
  exact Ag.refl.up (by omega) (fun j hj => by omega)
theorem Meas_ag {z z1 : St} (a : Ag z z1) (w : Ws z) (M : Meas z h) : Meas z1 h := by
  refine ⟨fun i hi => ?_, fun j hj => ?_⟩
  · rw [Kp_nH a.kp] at hi
    have hi0 : i < 10 := by have := w.h.2; omega
    rw [Ag_thk a w hi0, Ag_wN a w hi0]
    exact M.1 i hi
  · rw [Ag_sn a w]
    exact M.2 j hj
theorem c_note {s0 : St × St} (w : Ws s0.1) (R : Rel s0.1 h) (M : Meas s0.1 h) : ∃ h1, x3_noteWhatHappens p (putH g p h) = some ((), putH g p h1) ∧ Rel (ntS s0).1 h1 ∧ Meas (ntS s0).1 h1 := by
  unfold x3_noteWhatHappens
  obtain ⟨h1, e1, R1, c1⟩ := loop_hut (g := g) (p := p) (body := x3_noteWhatHappens_l2 p) (C := Meas s0.1) ntStep ntStep_kp w R M (fun i s h hi hn k ws hs R M => by
      have hi0 : i < 10 := by have := ws.h.2; omega
      have a : Ag s0.1 s.1 := by rw [hs]; exact it_ag nt_ag i (by omega) s0
      have M2 := Meas_ag a w M
      obtain ⟨d, d1, d2, d3⟩ := deed_I s.1 i
      unfold x3_noteWhatHappens_l2
      rw [H_getI (by decide), gb_s, c_lt ws R hi, H_getR (d := 6) rfl (by decide) (by decide), gb_s, H_hik hi0, gb_s, K_getR hi0, gb_s, H_isO, gb_s, c_activityNow ws R M2 hi, cb_s, d2, K_ald hi0 rfl d1, gb_s, K_ast hi0 rfl d1, gb_s, I_succ, R.2.2.2.1 i hi d d1]
      refine ⟨_, rfl, ?_, M⟩
      unfold ntStep
      rw [d3]
      exact R.upO ws hi0 d1) (fun s h _ ws R => by
      unfold x3_noteWhatHappens_l2
      rw [H_getI (by decide), gb_s, c_ge ws R])
  rw [e1, cb_s]
  exact ⟨h1, rfl, R1, Meas_ag (it_ag nt_ag _ w.h.2 s0) w c1⟩
theorem c_endHour {s0 : St × St} (w : Ws s0.1) (hT : nT s0.1 + 1 ≤ 20000) (R : Rel s0.1 h) (c : Cv s0.1 h) : ∃ h1, x3_endHour p (putH g p h) = some ((), putH g p h1) ∧ Rel (endS s0).1 h1 ∧ Cv (endS s0).1 h1 := by
  obtain ⟨wt, -⟩ := tick_ws w hT
  have Rt : Rel (tick s0).1 (hF h 0 (s0.1 3 + 1)) := R.upF (k := 0) w (by decide)
  have ct : Cv (tick s0).1 (hF h 0 (s0.1 3 + 1)) := by
    intro i hi
    have e : ∀ q, q ≠ 3 → (tick s0).1 q = s0.1 q := fun q hq => upd_ne hq
    have hn : nH (tick s0).1 = nH s0.1 := by unfold nH; rw [e 12 (by decide)]
    rw [hn] at hi
    have hi0 : i < 10 := by have := w.h.2; omega
    show h.2.2.1 i 6 = _
    rw [c i hi]
    unfold thk hk
    rw [e _ (by omega)]
    by_cases hb : s0.1 (49 + 10 * i + 5) = -1
    · rw [if_pos hb, if_pos hb]
    · rw [if_neg hb, if_neg hb, e _ (by omega)]
  unfold x3_endHour endS
  rw [H_getI (by decide), gb_s, R.1.1, H_putI (by decide), gb_s, H_getI (by decide), gb_s, hF_at]
  have e3 : (tick s0).1 3 = s0.1 3 + 1 := by
    show upd s0.1 3 (s0.1 3 + 1) 3 = _
    exact upd_at
  rw [e3]
  by_cases hc : s0.1 3 + 1 - (s0.1 3 + 1) / 8 * 8 = 0
  · rw [if_pos hc, if_pos hc]
    obtain ⟨h1, h2, h3, e1, e2, e4, R3, c3⟩ := c_dawn (g := g) (p := p) wt wt Ag.refl Rt ct
    rw [H_isO, gb_s, e1, cb_s, H_isO, gb_s, e2, cb_s, H_isO, gb_s, e4, cb_s]
    exact ⟨h3, rfl, R3, c3⟩
  · rw [if_neg hc, if_neg hc]
    exact ⟨_, rfl, Rt, ct⟩
theorem burn_cv (w : Ws st) (c : Cv st h) : Cv (burnS st) h := fun i hi => by
  have k := burn_kp st
  rw [Kp_nH k] at hi
  have hi0 : i < 10 := by have := w.h.2; omega
  rw [c i hi]
  have e : ∀ q, 9 ≤ q → burnS st q = st q := fun q hq => by
    unfold burnS
    rw [upd_ne (by omega), upd_ne (by omega), upd_ne (by omega), upd_ne (by omega)]
  unfold thk hk
  rw [e _ (by omega)]
  by_cases hb : st (49 + 10 * i + 5) = -1
  · rw [if_pos hb, if_pos hb]
  · rw [if_neg hb, if_neg hb, e _ (by omega)]
/-- one hour, watched -/
theorem c_hour {s0 : St × St} (w : Ws s0.1) (u : Un s0.1) (hT : nT s0.1 + 1 ≤ 20000) (R : Rel s0.1 h) : ∃ h1 h2 h3 h4, x3_burnLogs p (putH g p h) = some ((), putH g p h1) ∧ x3_measure p (putH g p h1) = some ((), putH g p h2) ∧ x3_noteWhatHappens p (putH g p h2) = some ((), putH g p h3) ∧ x3_endHour p (putH g p h3) = some ((), putH g p h4) ∧ Rel (hourS s0).1 h4 ∧ Cv (hourS s0).1 h4 := by
  obtain ⟨h1, e1, R1, -⟩ := c_burnLogs (g := g) (p := p) w R
  have kb := burn_kp s0.1
  have wb := kb.ws w
  obtain ⟨h2, e2, R2, M2⟩ := c_measure (g := g) (p := p) wb (kb.un w u) R1
  obtain ⟨h3, e3, R3, M3⟩ := c_note (g := g) (p := p) (s0 := (burnS s0.1, s0.2)) wb R2 M2
  have kn := kb.trans (ntS_kp (s := (burnS s0.1, s0.2)) wb)
  obtain ⟨h4, e4, R4, c4⟩ := c_endHour (g := g) (p := p) (s0 := ntS (burnS s0.1, s0.2)) (kn.ws w) (by rw [Kp_nT kn]; exact hT) R3 M3.cv
  exact ⟨h1, h2, h3, h4, e1, e2, e3, e4, R4, c4⟩
end HutF


