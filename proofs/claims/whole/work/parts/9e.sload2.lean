/-! the reference loads a setup, the call -/
def stB (r : RS) : RS := RS_setF (RS_setF (RS_setF (RS_setF r 14 0) 15 (-1)) 12 0) 17 0
theorem Hi.zer {z : St} : Hi z (zer z 149) := fun j hj => if_neg (by omega)
/-- what loading a setup leaves alone -/
def Ld (r r1 : RS) : Prop := (∀ k, k ≠ 5 → k ≠ 6 → (k < 9 ∨ 15 < k) → k ≠ 17 → r1.1 k = r.1 k) ∧ ∀ d, d ≠ 1 → d ≠ 2 → r1.2 d = r.2 d
section SLoad2
variable {g : AH} {m L : Nat} {T : Nat → Int32} {r : RS}
theorem s_startText (h9 : r.1 9 = I L) (hT : Tx r T L) (hL : L ≤ 500) : ∃ r1, x9_startText m (putR g m r) = some ((), putR g m r1) ∧ Po (stB r) r1 T L (rn T L 4 0) (r.2 1) := by
  have b9 : (stB r).1 9 = I L := (RSF_ne (by decide)).trans ((RSF_ne (by decide)).trans ((RSF_ne (by decide)).trans ((RSF_ne (by decide)).trans h9)))
  have b12 : (stB r).1 12 = I 0 := (RSF_ne (by decide)).trans (RSF_at _ _ _)
  have b14 : (stB r).1 14 = 0 := (RSF_ne (by decide)).trans ((RSF_ne (by decide)).trans ((RSF_ne (by decide)).trans (RSF_at _ _ _)))
  have b15 : (stB r).1 15 = -1 := (RSF_ne (by decide)).trans ((RSF_ne (by decide)).trans (RSF_at _ _ _))
  obtain ⟨r1, e1, e2, e3⟩ := s_proceed (g := g) (m := m) (r := stB r) (e := 0) b9 b12 b14 hT hL (Nat.zero_le _)
  unfold x9_startText
  rw [R_putI rfl, gb_s, R_putI rfl, gb_s, R_putI rfl, gb_s, R_putI rfl, gb_s, R_isO, gb_s]
  show ∃ r1, (cb (x9_proceed m (putR g m (stB r))) fun _ g10 => some ((), g10)) = _ ∧ _
  rw [e1, cb_s]
  exact ⟨r1, rfl, e2, (e3.1 14 (by decide)).trans b14, (e3.1 15 (by decide)).trans b15, rn_le (Nat.zero_le _), by rw [e3.2]; rfl, Pq.pf Pq.refl e3⟩
theorem s_zer {r : RS} : loopX (x9_loadSetup_l15 m) 1000 0 (putR g m r) = some ((), putR g m (RS_setA r 1 (zer (r.2 1) 149))) := by
  have H := loop_up (body := x9_loadSetup_l15 m) (fuel := 1000) (n := 149) (fun i => I i) (fun i => putR g m (RS_setA r 1 (zer (r.2 1) i))) (t := ()) (g1 := putR g m (RS_setA r 1 (zer (r.2 1) 149))) (fun i hi => by
    unfold x9_loadSetup_l15
    rw [if_neg (by rw [show (149 : Int32) = I 149 from rfl, I_le (by decide) (by omega)]; omega), R_getR (d := 1) rfl, gb_s, R_astN (d := 1) (t := 0) (by decide) (by decide) rfl (by show _ < 149; omega), gb_s, RS_set2, RS_at, zer_s, I_succ]) (by
    unfold x9_loadSetup_l15
    rw [if_pos (by decide)]) (by decide)
  have e0 : RS_setA r 1 (zer (r.2 1) 0) = r := by
    have : zer (r.2 1) 0 = r.2 1 := funext fun j => if_neg (by omega)
    rw [this]
    exact RS_self
  rw [e0] at H
  exact H
theorem s_loadSetup (h9 : r.1 9 = I L) (hT : Tx r T L) (hL : L ≤ 500) :
    (∃ u, suS T L = .inl u ∧ ∃ r1, x9_loadSetup m (putR g m r) = some (I u.2.2.2.2.length, putR g m r1) ∧ (r1.1 5 = 0 ∧ r1.1 6 = 0 ∧ r1.1 9 = 0 ∧ r1.1 14 = 0 ∧ r1.1 15 = -1 ∧ r1.1 17 = 0) ∧ r1.2 1 = zU (zer (r.2 1) 149) u ∧ Ld r r1) ∨ (∃ c e, suS T L = .inr (c, e) ∧ (c = 1 ∨ c = 2 ∨ c = 3) ∧ e ≤ L ∧ ∃ r1, x9_loadSetup m (putR g m r) = some (-1, putR g m r1) ∧ (r1.1 5 = r.1 5 ∧ r1.1 6 = 0 ∧ r1.1 9 = 0 ∧ r1.1 14 = I c ∧ r1.1 15 = I e ∧ r1.1 17 = 0) ∧ r1.2 1 = r.2 1 ∧ Ld r r1) := by
  generalize hra : RS_setA (RS_setF r 6 0) 2 (cp1 (r.2 1) (r.2 2)) = ra
  have a9 : ra.1 9 = I L := by rw [← hra]; exact (RSF_ne (r := r) (k := 6) (j := 9) (v := 0) (by decide)).trans h9
  have aT : Tx ra T L := by rw [← hra]; exact hT
  have a1 : ra.2 1 = r.2 1 := by rw [← hra]; exact RS_ne (by decide)
  have a2 : ra.2 2 = cp1 (r.2 1) (r.2 2) := by rw [← hra]; exact RS_at
  have af : ∀ k, k ≠ 6 → ra.1 k = r.1 k := fun k hk0 => by rw [← hra]; exact RSF_ne hk0
  have aa : ∀ d, d ≠ 2 → ra.2 d = r.2 d := fun d hd => by rw [← hra]; exact RS_ne hd
  have a6 : ra.1 6 = 0 := by rw [← hra]; exact RSF_at r 6 0
  obtain ⟨r1, e1, e2⟩ := s_startText (g := g) (m := m) a9 aT hL
  rw [a1] at e2
  have bT : Tx (stB ra) T L := aT
  have bf : ∀ k, k ≠ 12 → k ≠ 14 → k ≠ 15 → k ≠ 17 → (stB ra).1 k = ra.1 k := fun k h1 h2 h3 h4 => (RSF_ne h4).trans ((RSF_ne h1).trans ((RSF_ne h3).trans (RSF_ne h2)))
  have b17 : (stB ra).1 17 = 0 := RSF_at _ _ _
  have e3 := (e2.st (z1 := zer (r.2 1) 149))
  have hz : ∀ j, j < 149 → zer (r.2 1) 149 j = 0 := fun j hj => if_pos hj
  unfold x9_loadSetup
  rw [R_putI rfl, gb_s, R_isO, gb_s, s_goAside, cb_s, show RS_setA (RS_setF r 6 0) 2 (cp1 ((RS_setF r 6 0).2 1) ((RS_setF r 6 0).2 2)) = ra from hra, R_isO, gb_s, e1, cb_s, s_zer, cb_s, show r1.2 1 = r.2 1 from e2.2.2.2.2.1, R_isO, gb_s]
  rcases s_parseHut (g := g) (m := m) (z := zer (r.2 1) 149) bT hL e3 rfl hz with ⟨u, f1, r2, s', f2, f3⟩ | ⟨c, e, f1, r2, z', f2, f3, f4⟩
  · obtain ⟨o1, o2, o3, o4, o5, o6, o7⟩ := f3
    have n9 : ∀ k, k ≠ 9 → (RS_setF r2 9 0).1 k = r2.1 k := fun k hk0 => RSF_ne hk0
    rw [f2, cb_s, R_putI rfl, gb_s, R_isO, gb_s, s_fine1 (show (RS_setF r2 9 0).1 14 = 0 from (n9 14 (by decide)).trans o2), cb_s, if_neg (by decide), R_putI rfl, gb_s, R_getR (d := 1) rfl, gb_s, R_s (k := 12) (x := 12) rfl (by decide), gb_s]
    have e12 : (RS_setF (RS_setF r2 9 0) 5 0).2 1 12 = I u.2.2.2.2.length := by
      show r2.2 1 12 = _
      rw [o5]
      rfl
    rw [e12]
    refine Or.inl ⟨u, f1, _, rfl, ⟨RSF_at _ _ _, ?_, ?_, ?_, ?_, ?_⟩, o5, fun k k5 k6 k9 k17 => ?_, fun d d1 d2 => ?_⟩
    · exact (RSF_ne (by decide)).trans ((n9 6 (by decide)).trans ((o6 6 (by decide)).trans ((bf 6 (by decide) (by decide) (by decide) (by decide)).trans a6)))
    · exact (RSF_ne (by decide)).trans (RSF_at _ _ _)
    · exact (RSF_ne (by decide)).trans ((n9 14 (by decide)).trans o2)
    · exact (RSF_ne (by decide)).trans ((n9 15 (by decide)).trans o3)
    · exact (RSF_ne (by decide)).trans ((n9 17 (by decide)).trans ((o6 17 (by decide)).trans b17))
    · exact (RSF_ne k5).trans ((n9 k (by omega)).trans ((o6 k k9).trans ((bf k (by omega) (by omega) (by omega) k17).trans (af k k6))))
    · exact (o7 d d1).trans (aa d d2)
  · obtain ⟨o1, o2, o3, o4, o8, o5, o6, o7⟩ := f3
    have hp : Px (stB ra) r2 T L c e z' := ⟨o1, o2, o3, o4, o8, o5, o6, o7⟩
    have n9 : ∀ k, k ≠ 9 → (RS_setF r2 9 0).1 k = r2.1 k := fun k hk0 => RSF_ne hk0
    have no14 : ¬ (RS_setF r2 9 0).1 14 = 0 := fun hc => hp.no ((n9 14 (by decide)).symm.trans hc)
    rw [f2, cb_s, R_putI rfl, gb_s, R_isO, gb_s, s_fine0 no14, cb_s, if_pos rfl, R_isO, gb_s, s_comeBack, cb_s]
    have hHi : Hi (r.2 1) z' := Hi.zer.trans f4
    have eA : cp1 ((RS_setF r2 9 0).2 2) ((RS_setF r2 9 0).2 1) = r.2 1 := by
      show cp1 (r2.2 2) (r2.2 1) = r.2 1
      rw [o5, o7 2 (by decide)]
      show cp1 (ra.2 2) z' = r.2 1
      rw [a2]
      exact cp_back hHi
    rw [eA]
    refine Or.inr ⟨c, e, f1, o8, o4, _, rfl, ⟨?_, ?_, ?_, ?_, ?_, ?_⟩, RS_at, fun k k5 k6 k9 k17 => ?_, fun d d1 d2 => ?_⟩
    · exact (n9 5 (by decide)).trans ((o6 5 (by decide)).trans ((bf 5 (by decide) (by decide) (by decide) (by decide)).trans (af 5 (by decide))))
    · exact (n9 6 (by decide)).trans ((o6 6 (by decide)).trans ((bf 6 (by decide) (by decide) (by decide) (by decide)).trans a6))
    · exact RSF_at r2 9 0
    · exact (n9 14 (by decide)).trans o2
    · exact (n9 15 (by decide)).trans o3
    · exact (n9 17 (by decide)).trans ((o6 17 (by decide)).trans b17)
    · exact (n9 k (by omega)).trans ((o6 k k9).trans ((bf k (by omega) (by omega) (by omega) k17).trans (af k k6)))
    · exact (RS_ne d1).trans ((o7 d d1).trans (aa d d2))
end SLoad2
