/-! a setup is read into both -/
/-- what a setup's numbers are -/
def suB (u : Su) : Prop := u.1 ≤ 99 ∧ (1 ≤ u.2.1.length ∧ u.2.1.length ≤ 12 ∧ ∀ v, v ∈ u.2.1 → v ≤ 5) ∧ (u.2.2.1.length ≤ 12 ∧ ∀ v, v ∈ u.2.2.1 → 1 ≤ v ∧ v ≤ 9) ∧ (1 ≤ u.2.2.2.1.length ∧ u.2.2.2.1.length ≤ 12 ∧ ∀ v, v ∈ u.2.2.2.1 → v ≤ 20) ∧ (1 ≤ u.2.2.2.2.length ∧ u.2.2.2.2.length ≤ 10 ∧ ∀ t, t ∈ u.2.2.2.2 → t.1 ≤ 30 ∧ t.2.1 ≤ 9 ∧ t.2.2 ≤ 99)
theorem rowS_ok {T : Nat → Int32} {L lo hi least : Nat} : ∀ n vs s vs' s', vs.length ≤ 12 → (∀ v, v ∈ vs → lo ≤ v ∧ v ≤ hi) → rowS T L lo hi least n vs s = .inl (vs', s') → least ≤ vs'.length ∧ vs'.length ≤ 12 ∧ ∀ v, v ∈ vs' → lo ≤ v ∧ v ≤ hi := by
  intro n
  induction n with
  | zero => intro vs s vs' s' _ _ h; rw [rowS] at h; exact absurd h (by simp)
  | succ n ih =>
    intro vs s vs' s' hl hv h
    rw [rowS] at h
    by_cases h1 : vs.length < least ∨ ¬ tk T L s = 3
    · rw [if_pos h1] at h
      by_cases h2 : nuE T L lo hi s = 0
      · rw [if_pos h2] at h
        by_cases h3 : 12 ≤ vs.length
        · rw [if_pos h3] at h; exact absurd h (by simp)
        · rw [if_neg h3] at h
          refine ih _ _ _ _ (by rw [List.length_append, List.length_singleton]; omega) (fun v hv' => ?_) h
          rcases List.mem_append.mp hv' with h4 | h4
          · exact hv v h4
          · rw [List.mem_singleton] at h4
            rw [h4]
            exact (nuE_num h2).2
      · rw [if_neg h2] at h; exact absurd h (by simp)
    · rw [if_neg h1] at h
      have e : vs = vs' := by injection h with h; exact (Prod.mk.inj h).1
      rw [← e]
      exact ⟨by omega, hl, hv⟩
theorem spRow_ok {T : Nat → Int32} {L k lo hi least s : Nat} {vs' : List Nat} {s' : Nat} (h : spRow T L k lo hi least s = .inl (vs', s')) : least ≤ vs'.length ∧ vs'.length ≤ 12 ∧ ∀ v, v ∈ vs' → lo ≤ v ∧ v ≤ hi := by
  unfold spRow at h
  by_cases h1 : wdB T L k s = true
  · rw [if_pos h1] at h
    exact rowS_ok 13 [] _ _ _ (by decide) (fun v hv => absurd hv (by simp)) h
  · rw [if_neg h1] at h; exact absurd h (by simp)
theorem hkN_ok {T : Nat → Int32} {L s s' : Nat} {t : H3} (h : hkN T L s = .inl (t, s')) : t.1 ≤ 30 ∧ t.2.1 ≤ 9 ∧ t.2.2 ≤ 99 := by
  unfold hkN at h
  by_cases h1 : nuE T L 1 30 s = 0
  · rw [if_pos h1] at h
    by_cases h2 : nuE T L 0 9 (nx T L s) = 0
    · rw [if_pos h2] at h
      by_cases h3 : nuE T L 0 99 (nx T L (nx T L s)) = 0
      · rw [if_pos h3] at h
        by_cases h4 : tk T L (nx T L (nx T L (nx T L s))) = 3
        · rw [if_pos h4] at h
          have e : (nv T L s, nv T L (nx T L s), nv T L (nx T L (nx T L s))) = t := by injection h with h; exact (Prod.mk.inj h).1
          rw [← e]
          exact ⟨(nuE_num h1).2.2, (nuE_num h2).2.2, (nuE_num h3).2.2⟩
        · rw [if_neg h4] at h; exact absurd h (by simp)
      · rw [if_neg h3] at h; exact absurd h (by simp)
    · rw [if_neg h2] at h; exact absurd h (by simp)
  · rw [if_neg h1] at h; exact absurd h (by simp)
theorem hksS_ok {T : Nat → Int32} {L : Nat} : ∀ n hs s hs', hs.length ≤ 10 → (∀ t, t ∈ hs → t.1 ≤ 30 ∧ t.2.1 ≤ 9 ∧ t.2.2 ≤ 99) → hksS T L n hs s = .inl hs' → 1 ≤ hs'.length ∧ hs'.length ≤ 10 ∧ ∀ t, t ∈ hs' → t.1 ≤ 30 ∧ t.2.1 ≤ 9 ∧ t.2.2 ≤ 99 := by
  intro n
  induction n with
  | zero => intro hs s hs' _ _ h; rw [hksS] at h; exact absurd h (by simp)
  | succ n ih =>
    intro hs s hs' hl hv h
    by_cases hf : 1 ≤ hs.length ∧ tk T L s = 0
    · rw [hksS, if_pos hf] at h
      have e : hs = hs' := by injection h
      rw [← e]
      exact ⟨hf.1, hl, hv⟩
    · rw [hksS_W hf] at h
      unfold hkW at h
      by_cases h1 : wdB T L 5 s = true
      · rw [if_pos h1] at h
        by_cases h2 : 10 ≤ hs.length
        · rw [if_pos h2] at h; exact absurd h (by simp)
        · rw [if_neg h2] at h
          match e : hkN T L (nx T L s) with
          | .inl (t, s') =>
            rw [e] at h
            refine ih _ _ _ (by rw [List.length_append, List.length_singleton]; omega) (fun v hv' => ?_) h
            rcases List.mem_append.mp hv' with h4 | h4
            · exact hv v h4
            · rw [List.mem_singleton] at h4
              rw [h4]
              exact hkN_ok e
          | .inr x => rw [e] at h; exact absurd h (by simp)
      · rw [if_neg h1] at h; exact absurd h (by simp)
theorem suS_ok {T : Nat → Int32} {L : Nat} {u : Su} (h : suS T L = .inl u) : suB u := by
  unfold suS at h
  match e1 : spLogs T L (rn T L 4 0) with
  | .inr x => rw [e1] at h; exact absurd h (by simp)
  | .inl (lg, s1) =>
    rw [e1] at h
    dsimp only at h
    match e2 : spRow T L 2 0 5 1 s1 with
    | .inr x => rw [e2] at h; exact absurd h (by simp)
    | .inl (bs, s2) =>
      rw [e2] at h
      dsimp only at h
      match e3 : spRow T L 3 1 9 0 s2 with
      | .inr x => rw [e3] at h; exact absurd h (by simp)
      | .inl (ls, s3) =>
        rw [e3] at h
        dsimp only at h
        match e4 : spRow T L 4 0 20 1 s3 with
        | .inr x => rw [e4] at h; exact absurd h (by simp)
        | .inl (fs, s4) =>
          rw [e4] at h
          dsimp only at h
          match e5 : hksS T L 11 [] s4 with
          | .inr x => rw [e5] at h; exact absurd h (by simp)
          | .inl hs =>
            rw [e5] at h
            have e : (lg, bs, ls, fs, hs) = u := by injection h
            rw [← e]
            obtain ⟨a1, a2, a3⟩ := spRow_ok e2
            obtain ⟨b1', b2, b3⟩ := spRow_ok e3
            obtain ⟨c1, c2, c3⟩ := spRow_ok e4
            refine ⟨?_, ⟨a1, a2, fun v hv => (a3 v hv).2⟩, ⟨b2, b3⟩, ⟨c1, c2, fun v hv => (c3 v hv).2⟩, hksS_ok 11 [] s4 hs (by decide) (fun t ht => absurd ht (by simp)) e5⟩
            unfold spLogs at e1
            by_cases h1 : wdB T L 1 (rn T L 4 0) = true
            · rw [if_pos h1] at e1
              by_cases h2 : nuE T L 0 99 (nx T L (rn T L 4 0)) = 0
              · rw [if_pos h2] at e1
                by_cases h3 : tk T L (nx T L (nx T L (rn T L 4 0))) = 3
                · rw [if_pos h3] at e1
                  have e : nv T L (nx T L (rn T L 4 0)) = lg := by injection e1 with e1; exact (Prod.mk.inj e1).1
                  rw [← e]
                  exact (nuE_num h2).2.2
                · rw [if_neg h3] at e1; exact absurd e1 (by simp)
              · rw [if_neg h2] at e1; exact absurd e1 (by simp)
            · rw [if_neg h1] at e1; exact absurd e1 (by simp)
theorem getD_mem {α : Type} {l : List α} {i : Nat} {d : α} (h : i < l.length) : l.getD i d ∈ l := by
  rw [List.getD_eq_getElem?_getD, List.getElem?_eq_getElem h]
  exact List.getElem_mem h
section Setup
variable {z : St} {u : Su}
/-- the hut of a setup, cell by cell -/
def zA (u : Su) (j : Nat) : Int32 := if j = 0 ∨ j = 8 then I u.1 else if j = 7 then I (sumC u.2.2.2.2) else if j = 9 then I u.2.1.length else if j = 10 then I u.2.2.1.length else if j = 11 then I u.2.2.2.1.length else if j = 12 then I u.2.2.2.2.length else if j < 13 then 0 else if j < 25 then (if j - 13 < u.2.1.length then I (u.2.1.getD (j - 13) 0) else 0) else if j < 37 then (if j - 25 < u.2.2.1.length then I (u.2.2.1.getD (j - 25) 0) else 0) else if j < 49 then (if j - 37 < u.2.2.2.1.length then I (u.2.2.2.1.getD (j - 37) 0) else 0) else if j < 49 + 10 * u.2.2.2.2.length then hkf (u.2.2.2.2.getD ((j - 49) / 10) (0, 0, 0)) ((j - 49) % 10) 0 else 0
theorem zA_k {i f : Nat} (hi : i < u.2.2.2.2.length) (hf : f < 10) : zA u (49 + 10 * i + f) = hkf (u.2.2.2.2.getD i (0, 0, 0)) f 0 := by
  unfold zA
  rw [if_neg (by omega), if_neg (by omega), if_neg (by omega), if_neg (by omega), if_neg (by omega), if_neg (by omega), if_neg (by omega), if_neg (by omega), if_neg (by omega), if_neg (by omega), if_pos (by omega), show (49 + 10 * i + f - 49) / 10 = i by omega, show (49 + 10 * i + f - 49) % 10 = f by omega]
theorem zA_o {i f : Nat} (hi : ¬ i < u.2.2.2.2.length) (hf : f < 10) : zA u (49 + 10 * i + f) = 0 := by
  unfold zA
  rw [if_neg (by omega), if_neg (by omega), if_neg (by omega), if_neg (by omega), if_neg (by omega), if_neg (by omega), if_neg (by omega), if_neg (by omega), if_neg (by omega), if_neg (by omega), if_neg (by omega)]
theorem zA_b {b : Nat} (hb : b < 12) : zA u (13 + b) = if b < u.2.1.length then I (u.2.1.getD b 0) else 0 := by
  unfold zA
  rw [if_neg (by omega), if_neg (by omega), if_neg (by omega), if_neg (by omega), if_neg (by omega), if_neg (by omega), if_neg (by omega), if_pos (by omega), show 13 + b - 13 = b by omega]
theorem zA_l {b : Nat} (hb : b < 12) : zA u (25 + b) = if b < u.2.2.1.length then I (u.2.2.1.getD b 0) else 0 := by
  unfold zA
  rw [if_neg (by omega), if_neg (by omega), if_neg (by omega), if_neg (by omega), if_neg (by omega), if_neg (by omega), if_neg (by omega), if_neg (by omega), if_pos (by omega), show 25 + b - 25 = b by omega]
theorem zA_f {b : Nat} (hb : b < 12) : zA u (37 + b) = if b < u.2.2.2.1.length then I (u.2.2.2.1.getD b 0) else 0 := by
  unfold zA
  rw [if_neg (by omega), if_neg (by omega), if_neg (by omega), if_neg (by omega), if_neg (by omega), if_neg (by omega), if_neg (by omega), if_neg (by omega), if_neg (by omega), if_pos (by omega), show 37 + b - 37 = b by omega]
theorem hkf4 (t : H3) (d : Int32) : hkf t 4 d = -1 := rfl
theorem hkf5 (t : H3) (d : Int32) : hkf t 5 d = -1 := rfl
theorem Gd_set {st : St} (b : suB u) (hA : ∀ j, j < 149 → st j = zA u j) : Gd st := by
  obtain ⟨b0, ⟨b1, b2, b2'⟩, ⟨b3, b3'⟩, ⟨b4, b5, b5'⟩, b6, b7, b8⟩ := b
  have n12 : nH st = u.2.2.2.2.length := by unfold nH; rw [hA 12 (by decide)]; exact I_nat (by omega)
  have n9 : nB st = u.2.1.length := by unfold nB; rw [hA 9 (by decide)]; exact I_nat (by omega)
  have n10 : nL st = u.2.2.1.length := by unfold nL; rw [hA 10 (by decide)]; exact I_nat (by omega)
  have n11 : nF st = u.2.2.2.1.length := by unfold nF; rw [hA 11 (by decide)]; exact I_nat (by omega)
  have n3 : nT st = 0 := by unfold nT; rw [hA 3 (by decide)]; rfl
  have hk4 : ∀ i, i < nH st → hk st i 4 = -1 ∧ hk st i 5 = -1 := fun i hi => by
    unfold hk
    rw [hA _ (by omega), hA _ (by omega), zA_k (by omega) (by decide), zA_k (by omega) (by decide)]
    exact ⟨rfl, rfl⟩
  refine ⟨⟨⟨?_, by omega⟩, ⟨?_, by omega⟩, ⟨?_, by omega⟩, ⟨?_, by omega, by omega⟩, ⟨?_, by omega⟩, fun k hk0 => ?_, fun k hk0 => ?_⟩, fun i j hi hj hij => ⟨fun hc => absurd (hk4 i hi).1 hc, fun hc => absurd (hk4 i hi).2 hc⟩, ⟨by omega, fun k hk0 x hx => ?_, fun b hb => ?_⟩, by omega⟩
  · rw [hA 12 (by decide)]; exact Int32.zero_le_ofNat_of_lt (by omega)
  · rw [hA 9 (by decide)]; exact Int32.zero_le_ofNat_of_lt (by omega)
  · rw [hA 10 (by decide)]; exact Int32.zero_le_ofNat_of_lt (by omega)
  · rw [hA 11 (by decide)]; exact Int32.zero_le_ofNat_of_lt (by omega)
  · rw [hA 3 (by decide)]; exact Int32.le_refl 0
  · rw [hA _ (by omega)]
    by_cases hi : k < u.2.2.2.2.length
    · rw [zA_k hi (by decide)]; exact Or.inl rfl
    · rw [zA_o hi (by decide)]; exact Or.inr ⟨0, by omega, rfl⟩
  · rw [hA _ (by omega)]
    by_cases hi : k < u.2.2.2.2.length
    · rw [zA_k hi (by decide)]; exact Or.inl rfl
    · rw [zA_o hi (by decide)]; exact Or.inr ⟨0, by decide, fun hc => by omega, rfl⟩
  · rw [hA k hk0]
    rw [n3] at hx
    by_cases h49 : k < 49
    · rw [lim_g h49] at hx
      by_cases c25 : 13 ≤ k ∧ k < 25
      · obtain ⟨b, rfl⟩ : ∃ b, k = 13 + b := ⟨k - 13, by omega⟩
        have ex : x = 5 := by
          have : limG 0 (13 + b) = some 5 := by
            unfold limG
            split <;> first | omega | (rw [if_pos c25.2])
          exact (Option.some.inj (hx.symm.trans this))
        rw [zA_b (by omega), ex]
        by_cases h : b < u.2.1.length
        · rw [if_pos h]; exact ⟨_, b2' _ (getD_mem h), rfl⟩
        · rw [if_neg h]; exact ⟨0, by omega, rfl⟩
      by_cases c37 : 25 ≤ k ∧ k < 37
      · obtain ⟨b, rfl⟩ : ∃ b, k = 25 + b := ⟨k - 25, by omega⟩
        have ex : x = 9 := by
          have : limG 0 (25 + b) = some 9 := by
            unfold limG
            split <;> first | omega | (rw [if_neg (by omega), if_pos c37.2])
          exact (Option.some.inj (hx.symm.trans this))
        rw [zA_l (by omega), ex]
        by_cases h : b < u.2.2.1.length
        · rw [if_pos h]; exact ⟨_, (b3' _ (getD_mem h)).2, rfl⟩
        · rw [if_neg h]; exact ⟨0, by omega, rfl⟩
      by_cases c49 : 37 ≤ k
      · obtain ⟨b, rfl⟩ : ∃ b, k = 37 + b := ⟨k - 37, by omega⟩
        have ex : x = 20 := by
          have : limG 0 (37 + b) = some 20 := by
            unfold limG
            split <;> first | omega | (rw [if_neg (by omega), if_neg (by omega)])
          exact (Option.some.inj (hx.symm.trans this))
        rw [zA_f (by omega), ex]
        by_cases h : b < u.2.2.2.1.length
        · rw [if_pos h]; exact ⟨_, b5' _ (getD_mem h), rfl⟩
        · rw [if_neg h]; exact ⟨0, by omega, rfl⟩
      have h13 : k < 13 := by omega
      match k, h13, hx with
      | 0, _, hx => rw [← Option.some.inj hx]; exact ⟨u.1, b0, rfl⟩
      | 1, _, hx => exact ⟨0, by omega, rfl⟩
      | 2, _, hx => exact ⟨0, by omega, rfl⟩
      | 3, _, hx => exact absurd hx (by simp [limG])
      | 4, _, hx => exact absurd hx (by simp [limG])
      | 5, _, hx => exact ⟨0, by omega, rfl⟩
      | 6, _, hx => exact absurd hx (by simp [limG])
      | 7, _, hx => exact absurd hx (by simp [limG])
      | 8, _, hx => exact absurd hx (by simp [limG])
      | 9, _, hx => exact absurd hx (by simp [limG])
      | 10, _, hx => exact absurd hx (by simp [limG])
      | 11, _, hx => exact absurd hx (by simp [limG])
      | 12, _, hx => exact absurd hx (by simp [limG])
    · obtain ⟨i, f, hi, hf, rfl⟩ : ∃ i f, i < 10 ∧ f < 10 ∧ k = 49 + 10 * i + f := ⟨(k - 49) / 10, (k - 49) % 10, by omega, by omega, by omega⟩
      rw [lim_h hf] at hx
      by_cases hi : i < u.2.2.2.2.length
      · rw [zA_k hi hf]
        obtain ⟨t1, t2, t3⟩ := b8 _ (getD_mem (d := (0, 0, 0)) hi)
        generalize u.2.2.2.2.getD i (0, 0, 0) = t at t1 t2 t3 ⊢
        match f, hf, hx with
        | 0, _, hx => rw [← Option.some.inj hx]; exact ⟨_, t1, rfl⟩
        | 1, _, hx => rw [← Option.some.inj hx]; exact ⟨_, t2, rfl⟩
        | 2, _, hx => rw [← Option.some.inj hx]; exact ⟨_, t3, rfl⟩
        | 3, _, hx => exact ⟨0, by omega, rfl⟩
        | 4, _, hx => exact absurd hx (by simp [limF])
        | 5, _, hx => exact absurd hx (by simp [limF])
        | 6, _, hx => exact ⟨0, by omega, rfl⟩
        | 7, _, hx => exact ⟨0, by omega, rfl⟩
        | 8, _, hx => exact ⟨0, by omega, rfl⟩
        | 9, _, hx => exact ⟨0, by omega, rfl⟩
      · rw [zA_o hi hf]
        exact ⟨0, by omega, rfl⟩
  · have h9 := b3' _ (getD_mem (d := 0) (show b < u.2.2.1.length by omega))
    rw [hA _ (by omega), zA_l (by omega), if_pos (by omega), show kN (I (u.2.2.1.getD b 0)) = u.2.2.1.getD b 0 from I_nat (by omega)]
    exact h9.1
end Setup



