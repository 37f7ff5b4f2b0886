/-! a script runs in both -/
theorem scS_ok {T : Nat → Int32} {L : Nat} : ∀ n cs s cs', (∀ x, x ∈ cs → x.1 ≤ 8) → scS T L n cs s = .inl cs' → ∀ x, x ∈ cs' → x.1 ≤ 8 := by
  intro n
  induction n with
  | zero => intro cs s cs' _ h; rw [scS] at h; exact absurd h (by simp)
  | succ n ih =>
    intro cs s cs' hv h
    by_cases h0 : tk T L s = 0
    · rw [scS, if_pos h0] at h
      have e : cs = cs' := by injection h
      rw [← e]
      exact hv
    · rw [scS_C h0] at h
      unfold cmS at h
      match hc : cmW T L s with
      | none => rw [hc] at h; exact absurd h (by simp)
      | some c =>
        rw [hc] at h
        dsimp only at h
        by_cases h30 : 30 ≤ cs.length
        · rw [if_pos h30] at h; exact absurd h (by simp)
        · rw [if_neg h30] at h
          match ha : argS T L c (nx T L s) with
          | .inr e => rw [ha] at h; exact absurd h (by simp)
          | .inl (a, b, s') =>
            rw [ha] at h
            dsimp only at h
            by_cases h3 : tk T L s' = 3
            · rw [if_pos h3] at h
              refine ih _ _ _ (fun x hx => ?_) h
              rcases List.mem_append.mp hx with h4 | h4
              · exact hv x h4
              · rw [List.mem_singleton] at h4
                rw [h4]
                exact cmW_le hc
            · rw [if_neg h3] at h; exact absurd h (by simp)
theorem one_argI {s : St × St} {C : Int32} (h0 : ¬ C = 0) (h2 : ¬ C = 2) (h3 : ¬ C = 3) (h7 : ¬ C = 7) (a y z : Int32) : ftOf s.1 C a y = ftOf s.1 C a z ∧ pfS s C a y = pfS s C a z := by
  constructor
  · unfold ftOf
    rw [if_neg h0, if_neg h0, if_neg h2, if_neg h2, if_neg h3, if_neg h3, if_neg h7, if_neg h7]
  · unfold pfS
    rw [if_neg h0, if_neg h0, if_neg h2, if_neg h2, if_neg h3, if_neg h3, if_neg h7, if_neg h7]
theorem one_arg {s : St × St} {c : Nat} (hc : c ≤ 8) (h : ¬ two c = true) (a y z : Int32) : ftOf s.1 (I c) a y = ftOf s.1 (I c) a z ∧ pfS s (I c) a y = pfS s (I c) a z := by
  have q : ∀ k, k < 9 → two k = true → ¬ I c = I k := fun k hk0 hk1 hc1 => by
    have := (I_eq (by omega) (by omega)).mp hc1
    rw [this] at h
    exact h hk1
  exact one_argI (q 0 (by decide) rfl) (q 2 (by decide) rfl) (q 3 (by decide) rfl) (q 7 (by decide) rfl) a y z
/-- what running leaves alone of the reference -/
def Re (r r1 : RS) : Prop := (∀ k, k ≠ 5 → k ≠ 6 → r1.1 k = r.1 k) ∧ ∀ d, d ≠ 1 → d ≠ 3 → d ≠ 6 → r1.2 d = r.2 d
theorem Re.refl {r : RS} : Re r r := ⟨fun _ _ _ => rfl, fun _ _ _ _ => rfl⟩
theorem Re.trans {r r1 r2 : RS} (h : Re r r1) (h1 : Re r1 r2) : Re r r2 := ⟨fun k a b => (h1.1 k a b).trans (h.1 k a b), fun d a b c => (h1.2 d a b c).trans (h.2 d a b c)⟩
theorem Re.pf {r : RS} {z du : St} : Re r (pfR r z du) := ⟨fun k a b => (RSF_ne a).trans (RSF_ne b), fun d a b c => (RS_ne c).trans ((RS_ne a).trans (RS_ne b))⟩
theorem Re.f6 {r : RS} {v : Int32} : Re r (RS_setF r 6 v) := ⟨fun k _ b => RSF_ne b, fun _ _ _ _ => rfl⟩
theorem pf6 {r : RS} {z du : St} : (pfR r z du).1 6 = 0 := by
  show upd (upd r.1 6 0) 5 (recN (RS_setF r 6 0) + 1) 6 = 0
  rw [upd_ne (by decide), upd_at]
def exDu (s : St × St) (c a : Nat) : St := if c = 8 then (manyS (kN (I a)) s).2 else s.2
/-- the same present and past in the reference -/
def Rg (r r1 : RS) : Prop := r1.2 1 = r.2 1 ∧ r1.2 3 = r.2 3 ∧ r1.2 6 = r.2 6 ∧ r1.1 5 = r.1 5
theorem Rg.pf {r r1 : RS} (h : Rg r r1) (z du : St) : Rg (pfR r z du) (pfR r1 z du) := by
  obtain ⟨h1, h3, h6, h5⟩ := h
  have f5 : (RS_setF r1 6 0).1 5 = (RS_setF r 6 0).1 5 := (RSF_ne (by decide)).trans (h5.trans (RSF_ne (by decide)).symm)
  have eN : recN (RS_setF r1 6 0) = recN (RS_setF r 6 0) := by unfold recN; rw [f5]
  have eP : recP (RS_setF r1 6 0) = recP (RS_setF r 6 0) := by
    unfold recP
    rw [f5, show (RS_setF r1 6 0).2 3 = (RS_setF r 6 0).2 3 from h3]
  refine ⟨rfl, ?_, rfl, ?_⟩
  · show cpF (r1.2 1) (recP (RS_setF r1 6 0)) 0 (149 * kN (recN (RS_setF r1 6 0))) 149 = cpF (r.2 1) (recP (RS_setF r 6 0)) 0 (149 * kN (recN (RS_setF r 6 0))) 149
    rw [h1, eP, eN]
  · show upd (RS_setF r1 6 0).1 5 (recN (RS_setF r1 6 0) + 1) 5 = upd (RS_setF r 6 0).1 5 (recN (RS_setF r 6 0) + 1) 5
    rw [upd_at, upd_at, eN]
theorem J.rg {w : WS} {r r1 : RS} (H : J w r) (h : Rg r r1) : J w r1 := by
  obtain ⟨h1, h3, h6, h5⟩ := h
  obtain ⟨G, hz, a, x, a5, e, hs⟩ := H
  exact ⟨by rw [h1]; exact G, by rw [h1]; exact hz, a, x, h5.trans a5, e, by rw [h3]; exact hs⟩
section Run
variable {g : AH} {n m : Nat} {w : WS} {r : RS}
theorem s_execute (H : J w r) {i c a b : Nat} (hi : i < 30) (hc : c ≤ 8) (h0 : r.2 8 (3 * i) = I c) (h1 : r.2 8 (3 * i + 1) = I a) (h2 : r.2 8 (3 * i + 2) = I b) : (ftOf (r.2 1) (I c) (I a) (I b) = 0 → x9_execute m (I (3 * i)) (putR g m r) = some (1, putR g m (pfR r (pfS (r.2 1, r.2 6) (I c) (I a) (I b)) (exDu (r.2 1, r.2 6) c a)))) ∧ (¬ ftOf (r.2 1) (I c) (I a) (I b) = 0 → ∃ v, x9_execute m (I (3 * i)) (putR g m r) = some (0, putR g m (RS_setF r 6 v))) := by
  obtain ⟨⟨G, -, -⟩, -, k, x, h5, -, hk0, -⟩ := H
  have hw := G.1
  have A : ∀ j, j < 93 → aldI 0 (putR g m r) (m + 8) (I j) = some (r.2 8 j) := fun j hj => R_aldN (d := 8) (t := 0) (by decide) (by decide) rfl hj
  have jy : ∀ r1 : RS, r1.1 6 = 0 → x9_execute_j163 m (putR g m r1) = some (1, putR g m r1) := fun r1 h => by
    unfold x9_execute_j163
    rw [R_getI rfl, gb_s, if_pos h]
  have jn : ∀ r1 : RS, ¬ r1.1 6 = 0 → x9_execute_j163 m (putR g m r1) = some (0, putR g m r1) := fun r1 h => by
    unfold x9_execute_j163
    rw [R_getI rfl, gb_s, if_neg h]
  have f6 : ∀ v, (RS_setF r 6 v).1 6 = v := fun v => RSF_at _ _ _
  have na : ∀ f : Int32, ¬ tcA f = 0 := fun f => by unfold tcA; split <;> decide
  have nb : ∀ f : Int32, ¬ tcB f = 0 := fun f => by unfold tcB; split <;> decide
  unfold x9_execute
  rw [R_getR (d := 8) rfl, gb_s, show I (3 * i) + 1 = I (3 * i + 1) from I_succ _, A _ (by omega), gb_s, gb_s, show I (3 * i) + 2 = I (3 * i + 2) by rw [show (2 : Int32) = I 2 from rfl, I_add], A _ (by omega), gb_s, gb_s, A _ (by omega), gb_s, h0, h1, h2]
  match c, hc with
  | 0, _ =>
    have eF : ftOf (r.2 1) (I 0) (I a) (I b) = ftTake (r.2 1) (I a) (I b) := by
      unfold ftOf
      rw [if_pos (by decide)]
    have eS : pfS (r.2 1, r.2 6) (I 0) (I a) (I b) = upd (r.2 1) (49 + 10 * kN (I a) + 5) (I b) := by
      unfold pfS
      rw [if_pos (by decide)]
    obtain ⟨p1, p2⟩ := s_take (g := g) (m := m) hk0 h5 G (I a) (I b)
    rw [if_pos (by decide), R_isO, gb_s, eF, eS]
    refine ⟨fun hf => ?_, fun hf => ?_⟩
    · rw [p1 hf, cb_s, jy _ pf6]
      rfl
    · obtain ⟨v, e⟩ := p2 hf
      rw [e, cb_s, jn _ (by rw [f6]; exact na _)]
      exact ⟨_, rfl⟩
  | 1, _ =>
    have eF : ftOf (r.2 1) (I 1) (I a) (I b) = ftReturn (r.2 1) (I a) := by
      unfold ftOf
      rw [if_neg (by decide), if_pos (by decide)]
    have eS : pfS (r.2 1, r.2 6) (I 1) (I a) (I b) = upd (r.2 1) (49 + 10 * kN (I a) + 5) (-1) := by
      unfold pfS
      rw [if_neg (by decide), if_pos (by decide)]
    obtain ⟨p1, p2⟩ := s_return (g := g) (m := m) hk0 h5 hw (I a)
    rw [if_neg (by decide), if_pos (by decide), R_isO, gb_s, eF, eS]
    refine ⟨fun hf => ?_, fun hf => ?_⟩
    · rw [p1 hf, cb_s, jy _ pf6]
      rfl
    · obtain ⟨v, e⟩ := p2 hf
      rw [e, cb_s, jn _ (by rw [f6]; exact na _)]
      exact ⟨_, rfl⟩
  | 2, _ =>
    have eF : ftOf (r.2 1) (I 2) (I a) (I b) = ftSwap (r.2 1) (I a) (I b) := by
      unfold ftOf
      rw [if_neg (by decide), if_neg (by decide), if_pos (by decide)]
    have eS : pfS (r.2 1, r.2 6) (I 2) (I a) (I b) = exS (r.2 1) (kN (I a)) (kN (I b)) := by
      unfold pfS
      rw [if_neg (by decide), if_neg (by decide), if_pos (by decide)]
    obtain ⟨p1, p2⟩ := s_swap (g := g) (m := m) hk0 h5 G (I a) (I b)
    rw [if_neg (by decide), if_neg (by decide), if_pos (by decide), R_isO, gb_s, eF, eS]
    refine ⟨fun hf => ?_, fun hf => ?_⟩
    · rw [p1 hf, cb_s, jy _ pf6]
      rfl
    · obtain ⟨v, e⟩ := p2 hf
      rw [e, cb_s, jn _ (by rw [f6]; exact na _)]
      exact ⟨_, rfl⟩
  | 3, _ =>
    have eF : ftOf (r.2 1) (I 3) (I a) (I b) = ftLie (r.2 1) (I a) (I b) := by
      unfold ftOf
      rw [if_neg (by decide), if_neg (by decide), if_neg (by decide), if_pos (by decide)]
    have eS : pfS (r.2 1, r.2 6) (I 3) (I a) (I b) = upd (r.2 1) (49 + 10 * kN (I a) + 4) (I b) := by
      unfold pfS
      rw [if_neg (by decide), if_neg (by decide), if_neg (by decide), if_pos (by decide)]
    obtain ⟨p1, p2⟩ := s_lie (g := g) (m := m) hk0 h5 G (I a) (I b)
    rw [if_neg (by decide), if_neg (by decide), if_neg (by decide), if_pos (by decide), R_isO, gb_s, eF, eS]
    refine ⟨fun hf => ?_, fun hf => ?_⟩
    · rw [p1 hf, cb_s, jy _ pf6]
      rfl
    · obtain ⟨v, e⟩ := p2 hf
      rw [e, cb_s, jn _ (by rw [f6]; exact na _)]
      exact ⟨_, rfl⟩
  | 4, _ =>
    have eF : ftOf (r.2 1) (I 4) (I a) (I b) = ftRise (r.2 1) (I a) := by
      unfold ftOf
      rw [if_neg (by decide), if_neg (by decide), if_neg (by decide), if_neg (by decide), if_pos (by decide)]
    have eS : pfS (r.2 1, r.2 6) (I 4) (I a) (I b) = upd (r.2 1) (49 + 10 * kN (I a) + 4) (-1) := by
      unfold pfS
      rw [if_neg (by decide), if_neg (by decide), if_neg (by decide), if_neg (by decide), if_pos (by decide)]
    obtain ⟨p1, p2⟩ := s_rise (g := g) (m := m) hk0 h5 hw (I a)
    rw [if_neg (by decide), if_neg (by decide), if_neg (by decide), if_neg (by decide), if_pos (by decide), R_isO, gb_s, eF, eS]
    refine ⟨fun hf => ?_, fun hf => ?_⟩
    · rw [p1 hf, cb_s, jy _ pf6]
      rfl
    · obtain ⟨v, e⟩ := p2 hf
      rw [e, cb_s, jn _ (by rw [f6]; exact na _)]
      exact ⟨_, rfl⟩
  | 5, _ =>
    have eF : ftOf (r.2 1) (I 5) (I a) (I b) = (if bt (I a) 0 3 = true then 0 else 2) := by
      unfold ftOf
      rw [if_neg (by decide), if_neg (by decide), if_neg (by decide), if_neg (by decide), if_neg (by decide), if_pos (by decide)]
    have eS : pfS (r.2 1, r.2 6) (I 5) (I a) (I b) = upd (r.2 1) 1 (I a) := by
      unfold pfS
      rw [if_neg (by decide), if_neg (by decide), if_neg (by decide), if_neg (by decide), if_neg (by decide), if_pos (by decide)]
    obtain ⟨p1, p2⟩ := s_setRate (g := g) (m := m) hk0 h5 (I a)
    rw [if_neg (by decide), if_neg (by decide), if_neg (by decide), if_neg (by decide), if_neg (by decide), if_pos (by decide), R_isO, gb_s, eF, eS]
    refine ⟨fun hf => ?_, fun hf => ?_⟩
    · have hb : bt (I a) 0 3 = true := by
        by_cases hb : bt (I a) 0 3 = true
        · exact hb
        · rw [if_neg hb] at hf; exact absurd hf (by decide)
      rw [p1 hb, cb_s, jy _ pf6]
      rfl
    · have hb : ¬ bt (I a) 0 3 = true := fun hb => hf (if_pos hb)
      obtain ⟨v, e⟩ := p2 hb
      rw [e, cb_s, jn _ (by rw [f6]; decide)]
      exact ⟨_, rfl⟩
  | 6, _ =>
    have eF : ftOf (r.2 1) (I 6) (I a) (I b) = ftFetch (r.2 1) (I a) := by
      unfold ftOf
      rw [if_neg (by decide), if_neg (by decide), if_neg (by decide), if_neg (by decide), if_neg (by decide), if_neg (by decide), if_pos (by decide)]
    have eS : pfS (r.2 1, r.2 6) (I 6) (I a) (I b) = upd (upd (r.2 1) 0 (r.2 1 0 + I a)) 8 (r.2 1 8 + I a) := by
      unfold pfS
      rw [if_neg (by decide), if_neg (by decide), if_neg (by decide), if_neg (by decide), if_neg (by decide), if_neg (by decide), if_pos (by decide)]
    obtain ⟨p1, p2⟩ := s_fetch (g := g) (m := m) hk0 h5 (I a)
    rw [if_neg (by decide), if_neg (by decide), if_neg (by decide), if_neg (by decide), if_neg (by decide), if_neg (by decide), if_pos (by decide), R_isO, gb_s, eF, eS]
    refine ⟨fun hf => ?_, fun hf => ?_⟩
    · rw [p1 hf, cb_s, jy _ pf6]
      rfl
    · obtain ⟨v, e⟩ := p2 hf
      rw [e, cb_s, jn _ (by rw [f6]; exact nb _)]
      exact ⟨_, rfl⟩
  | 7, _ =>
    have eF : ftOf (r.2 1) (I 7) (I a) (I b) = ftPay (r.2 1) (I a) (I b) := by
      unfold ftOf
      rw [if_neg (by decide), if_neg (by decide), if_neg (by decide), if_neg (by decide), if_neg (by decide), if_neg (by decide), if_neg (by decide), if_pos (by decide)]
    have eS : pfS (r.2 1, r.2 6) (I 7) (I a) (I b) = pbS (r.2 1) (kN (I a)) (I b) := by
      unfold pfS
      rw [if_neg (by decide), if_neg (by decide), if_neg (by decide), if_neg (by decide), if_neg (by decide), if_neg (by decide), if_neg (by decide), if_pos (by decide)]
    obtain ⟨p1, p2⟩ := s_payDebt (g := g) (m := m) hk0 h5 hw (I a) (I b)
    rw [if_neg (by decide), if_neg (by decide), if_neg (by decide), if_neg (by decide), if_neg (by decide), if_neg (by decide), if_neg (by decide), if_pos (by decide), R_isO, gb_s, eF, eS]
    refine ⟨fun hf => ?_, fun hf => ?_⟩
    · rw [p1 hf, cb_s, jy _ pf6]
      rfl
    · obtain ⟨v, e⟩ := p2 hf
      rw [e, cb_s, jn _ (by rw [f6]; exact hf)]
      exact ⟨_, rfl⟩
  | 8, _ =>
    have eF : ftOf (r.2 1) (I 8) (I a) (I b) = ftPass (r.2 1) (I a) := by
      unfold ftOf
      rw [if_neg (by decide), if_neg (by decide), if_neg (by decide), if_neg (by decide), if_neg (by decide), if_neg (by decide), if_neg (by decide), if_neg (by decide)]
    have eS : pfS (r.2 1, r.2 6) (I 8) (I a) (I b) = (manyS (kN (I a)) (r.2 1, r.2 6)).1 := by
      unfold pfS
      rw [if_neg (by decide), if_neg (by decide), if_neg (by decide), if_neg (by decide), if_neg (by decide), if_neg (by decide), if_neg (by decide), if_neg (by decide)]
    obtain ⟨p1, p2⟩ := s_pass (g := g) (m := m) hk0 h5 G (I a)
    rw [if_neg (by decide), if_neg (by decide), if_neg (by decide), if_neg (by decide), if_neg (by decide), if_neg (by decide), if_neg (by decide), if_neg (by decide), R_isO, gb_s, eF, eS]
    refine ⟨fun hf => ?_, fun hf => ?_⟩
    · rw [p1 hf, cb_s, jy _ pf6]
      rfl
    · obtain ⟨v, e⟩ := p2 hf
      rw [e, cb_s, jn _ (by rw [f6]; exact nb _)]
      exact ⟨_, rfl⟩
theorem W_7 : getR 8 (putW g n w) n 7 = some (n + 306) := W_o8 rfl
theorem W_3 : getR 8 (putW g n w) n 3 = some (n + 83) := W_o8 rfl
theorem W_sR {k : Nat} (h : k < 3) : getR 6 (putW g n w) (n + 306) k = some (n + 306 + (k + 1)) := by
  have := S_getR (g := putW g n w) (p := n + 306) (s := w.2.2.2.2.1) h
  rw [W_S] at this
  exact this
theorem W_sI : getI 6 (putW g n w) (n + 306) 3 = some w.2.2.2.2.1.1 := by
  have := S_getI (g := putW g n w) (p := n + 306) (s := w.2.2.2.2.1)
  rw [W_S] at this
  exact this
theorem W_sA {d k : Nat} (h0 : 0 < d) (h1 : d < 4) (hk0 : k < 30) : aldI 0 (putW g n w) (n + 306 + d) (I k) = some (w.2.2.2.2.1.2 d k) := by
  have := S_ald (g := putW g n w) (p := n + 306) (s := w.2.2.2.2.1) (x := I k) h0 h1 rfl hk0
  rw [W_S] at this
  exact this
/-- the two loops over the commands -/
theorem run_both {cs : List Cm} (hl : cs.length ≤ 30) (hc8 : ∀ i, i < cs.length → (cs.getD i (0, 0, 0)).1 ≤ 8) : ∀ k i w r0 F, i + k = cs.length → k < F → J w r0 → SV w.2.2.2.2.1 cs → w.2.2.2.2.1.1 = I cs.length →
    ∃ j w', (cb (loopX (x8_runScript_l31 n) F (I i) (putW g n w)) fun t17 g18 => Sum.elim (fun t20 => gb (getR 8 g18 n 7) fun x22 => gb (getI 6 g18 x22 3) fun x24 => some (x24, g18)) (fun t21 => some (t21, g18)) t17) = some (I j, putW g n w') ∧ Wd w w' ∧ ∀ g' m r, Rg r0 r → r.1 17 = I cs.length → SR (r.2 8) cs → ∃ r', loopX (x9_runScript_l46 m) F (I i) (putR g' m r) = some (I j, putR g' m r') ∧ J w' r' ∧ Re r r' := by
  intro k
  induction k with
  | zero =>
    intro i w r0 F hik hF H hS hs
    match F, hF with
    | F + 1, _ =>
      have ei : i = cs.length := by omega
      refine ⟨i, w, ?_, Wd.refl, fun g' m r hg h17 hR => ⟨r, ?_, H.rg hg, Re.refl⟩⟩
      · rw [loopX_s]
        unfold x8_runScript_l31
        rw [W_7, gb_s, W_sI, gb_s, hs, ei, if_pos (Int32.le_refl _)]
        show gb (getR 8 (putW g n w) n 7) _ = _
        rw [W_7, gb_s, W_sI, gb_s, hs]
      · rw [loopX_s]
        unfold x9_runScript_l46
        rw [R_getI rfl, gb_s, h17, ei, if_pos (Int32.le_refl _)]
        rfl
  | succ k ih =>
    intro i w r0 F hik hF H hS hs
    match F, hF with
    | F + 1, hF =>
      have hi : i < cs.length := by omega
      have hnl : ¬ I cs.length ≤ I i := by rw [I_le (by omega) (by omega)]; omega
      obtain ⟨s1, s2, s3⟩ := hS i hi
      have hc := hc8 i hi
      have hR' : ∀ r : RS, SR (r.2 8) cs → r.2 8 (3 * i) = I (cs.getD i (0, 0, 0)).1 ∧ r.2 8 (3 * i + 1) = I (cs.getD i (0, 0, 0)).2.1 ∧ r.2 8 (3 * i + 2) = I (cs.getD i (0, 0, 0)).2.2 := fun r hR => hR i hi
      generalize cs.getD i (0, 0, 0) = cm at s1 s2 s3 hc hR'
      obtain ⟨c, a, b⟩ := cm
      dsimp only at s1 s2 s3 hc hR'
      have hy : ftOf (r0.2 1) (I c) (I a) (w.2.2.2.2.1.2 3 i) = ftOf (r0.2 1) (I c) (I a) (I b) ∧ pfS (r0.2 1, r0.2 6) (I c) (I a) (w.2.2.2.2.1.2 3 i) = pfS (r0.2 1, r0.2 6) (I c) (I a) (I b) := by
        by_cases h2 : two c = true
        · rw [s3 h2]; exact ⟨rfl, rfl⟩
        · exact one_arg (s := (r0.2 1, r0.2 6)) hc h2 _ _ _
      have m3 : (3 : Int32) * I i = I (3 * i) := I_mul 3 i
      have eC : x8_runScript_l31 n (I i) (putW g n w) = if ftOf (r0.2 1) (I c) (I a) (I b) = 0 then (gb (getR 8 (putW g n w) n 3) fun x32 => gb (getR 8 (putW g n w) n 0) fun x34 => gb (isO 2 (putW g n w) x32) fun _ => cb (x2_keep x32 x34 (putW g n w)) fun r36 g37 => gb (getR 8 g37 n 0) fun x41 => gb (isO 3 g37 x41) fun _ => cb (x3_perform x41 (I c) (I a) (w.2.2.2.2.1.2 3 i) g37) fun r43 g44 => some (.inl (I i + 1), g44)) else some (.inr (.inr (I i)), putW g n w) := by
        unfold x8_runScript_l31
        rw [W_7, gb_s, W_sI, gb_s, hs, if_neg hnl, gb_s, W_sR (by decide), gb_s, W_sA (by decide) (by decide) (by omega), gb_s, gb_s, W_sR (by decide), gb_s, W_sA (by decide) (by decide) (by omega), gb_s, gb_s, W_sR (by decide), gb_s, W_sA (by decide) (by decide) (by omega), gb_s, W_80, gb_s, W_isO3, gb_s]
        rw [show w.2.2.2.2.1.2 (0 + 1) i = I c from s1, show w.2.2.2.2.1.2 (1 + 1) i = I a from s2, show w.2.2.2.2.1.2 (2 + 1) i = w.2.2.2.2.1.2 3 i from rfl, W_fault H, cb_s, hy.1]
        simp only [W_80]
      rw [loopX_s, eC]
      by_cases hf : ftOf (r0.2 1) (I c) (I a) (I b) = 0
      · obtain ⟨w0, w1, k1, k2, k3, k4⟩ := J_step (g := g) (n := n) H (exDu (r0.2 1, r0.2 6) c a) (v6 := 0) (hy.1.trans hf)
        rw [hy.2] at k3
        rw [if_pos hf, W_3, gb_s, W_80, gb_s, W_h2O, gb_s, k1, cb_s, W_80, gb_s, W_isO3, gb_s, k2, cb_s, I_succ]
        obtain ⟨j, w', z1, z4, z⟩ := ih (i + 1) w1 (pfR r0 (pfS (r0.2 1, r0.2 6) (I c) (I a) (I b)) (exDu (r0.2 1, r0.2 6) c a)) F (by omega) (by omega) k3 (by rw [k4.1]; exact hS) (by rw [k4.1]; exact hs)
        refine ⟨j, w', z1, k4.trans z4, fun g' m r hg h17 hR => ?_⟩
        obtain ⟨q1, q2, q3⟩ := hR' r hR
        obtain ⟨x1, -⟩ := s_execute (g := g') (m := m) (H.rg hg) (by omega) hc q1 q2 q3
        rw [hg.1, hg.2.2.1] at x1
        have e9 := x1 hf
        have eR : x9_runScript_l46 m (I i) (putR g' m r) = some (.inl (I (i + 1)), putR g' m (pfR r (pfS (r0.2 1, r0.2 6) (I c) (I a) (I b)) (exDu (r0.2 1, r0.2 6) c a))) := by
          unfold x9_runScript_l46
          rw [R_getI rfl, gb_s, h17, if_neg hnl, R_isO, gb_s, m3, e9, cb_s, if_neg (by decide), I_succ]
        have hre := Re.pf (r := r) (z := pfS (r0.2 1, r0.2 6) (I c) (I a) (I b)) (du := exDu (r0.2 1, r0.2 6) c a)
        obtain ⟨r', y1, y2, y3⟩ := z g' m _ (hg.pf _ _) ((hre.1 17 (by decide) (by decide)).trans h17) (by rw [hre.2 8 (by decide) (by decide) (by decide)]; exact hR)
        rw [loopX_s, eR]
        exact ⟨r', y1, y2, hre.trans y3⟩
      · rw [if_neg hf]
        refine ⟨i, w, rfl, Wd.refl, fun g' m r hg h17 hR => ?_⟩
        obtain ⟨q1, q2, q3⟩ := hR' r hR
        obtain ⟨-, x2⟩ := s_execute (g := g') (m := m) (H.rg hg) (by omega) hc q1 q2 q3
        rw [hg.1] at x2
        obtain ⟨v, e9⟩ := x2 hf
        have eR : x9_runScript_l46 m (I i) (putR g' m r) = some (.inr (I i), putR g' m (RS_setF r 6 v)) := by
          unfold x9_runScript_l46
          rw [R_getI rfl, gb_s, h17, if_neg hnl, R_isO, gb_s, m3, e9, cb_s, if_pos rfl]
        rw [loopX_s, eR]
        obtain ⟨G, hz, kk, x, h5, e, hs'⟩ := H.rg hg
        exact ⟨RS_setF r 6 v, rfl, ⟨G, hz, kk, x, (RSF_ne (by decide)).trans h5, e, hs'⟩, Re.f6⟩
end Run
