/-! the class reads a script -/
abbrev Cm : Type := Nat × Nat × Nat
def cmW (T : Nat → Int32) (L s : Nat) : Option Nat := if wdB T L 6 s = true then some 0 else if wdB T L 7 s = true then some 1 else if wdB T L 8 s = true then some 2 else if wdB T L 9 s = true then some 3 else if wdB T L 10 s = true then some 4 else if wdB T L 11 s = true then some 5 else if wdB T L 12 s = true then some 6 else if wdB T L 13 s = true then some 7 else if wdB T L 14 s = true then some 8 else none
def cmI (o : Option Nat) : Int32 := match o with
  | some k => I k
  | none => -1
theorem cmW_le {T : Nat → Int32} {L s c : Nat} (h : cmW T L s = some c) : c ≤ 8 := by
  unfold cmW at h
  repeat' split at h
  all_goals cases h
  all_goals decide
def lo1 (c : Nat) : Nat := if c = 6 ∨ c = 8 then 1 else 0
def hi1 (c : Nat) : Nat := if c = 5 then 3 else if c = 6 then 50 else if c = 8 then 48 else 9
def two (c : Nat) : Bool := decide (c = 0) || decide (c = 2) || decide (c = 3) || decide (c = 7)
def lo2 (c : Nat) : Nat := if c = 7 then 1 else 0
def hi2 (c : Nat) : Nat := if c = 2 then 9 else if c = 7 then 99 else 11
theorem rng12 (c : Nat) : lo1 c ≤ 99 ∧ hi1 c ≤ 99 ∧ lo2 c ≤ 99 ∧ hi2 c ≤ 99 := by
  unfold lo1 hi1 lo2 hi2
  refine ⟨?_, ?_, ?_, ?_⟩
  all_goals repeat' split
  all_goals omega
def argS (T : Nat → Int32) (L c s : Nat) : (Nat × Nat × Nat) ⊕ Er := if nuE T L (lo1 c) (hi1 c) s = 0 then (if two c = true then (if nuE T L (lo2 c) (hi2 c) (nx T L s) = 0 then .inl (nv T L s, nv T L (nx T L s), nx T L (nx T L s)) else .inr (nuE T L (lo2 c) (hi2 c) (nx T L s), nx T L s)) else .inl (nv T L s, 0, nx T L s)) else .inr (nuE T L (lo1 c) (hi1 c) s, s)
def scS (T : Nat → Int32) (L : Nat) : Nat → List Cm → Nat → (List Cm) ⊕ Er
  | 0, _, _ => .inr (1, 0)
  | n + 1, cs, s => if tk T L s = 0 then .inl cs else match cmW T L s with
    | none => .inr (1, s)
    | some c => if 30 ≤ cs.length then .inr (3, s) else match argS T L c (nx T L s) with
      | .inr e => .inr e
      | .inl (a, b, s') => if tk T L s' = 3 then scS T L n (cs ++ [(c, a, b)]) (nx T L s') else .inr (1, s')
/-- the parser and the script that it reads into -/
abbrev GS (g : AH) (p : Nat) (s : PS) (q : Nat) (t : SS) : AH := putP (putS g q t) p s
def setS (t : SS) (d k : Nat) (v : Int32) : SS := (t.1, fun j => if j = d then upd (t.2 d) k v else t.2 j)
/-- the script holds these commands -/
def SV (t : SS) (cs : List Cm) : Prop := ∀ i, i < cs.length → t.2 1 i = I (cs.getD i (0, 0, 0)).1 ∧ t.2 2 i = I (cs.getD i (0, 0, 0)).2.1 ∧ (two (cs.getD i (0, 0, 0)).1 = true → t.2 3 i = I (cs.getD i (0, 0, 0)).2.2)
section CScr
variable {g : AH} {p q L s : Nat} {T : Nat → Int32} {t : SS} {sp : PS} {cnt : Int32}
theorem GS_sw (hd : p + 3 ≤ q ∨ q + 4 ≤ p) : GS g p sp q t = putS (putP g p sp) q t := put_comm (by omega)
theorem GS_getR (hd : p + 3 ≤ q ∨ q + 4 ≤ p) {k : Nat} (h : k < 3) : getR 6 (GS g p sp q t) q k = some (q + (k + 1)) := by rw [GS_sw hd]; exact S_getR h
theorem GS_getI (hd : p + 3 ≤ q ∨ q + 4 ≤ p) : getI 6 (GS g p sp q t) q 3 = some t.1 := by rw [GS_sw hd]; exact S_getI
theorem GS_putI (hd : p + 3 ≤ q ∨ q + 4 ≤ p) {v : Int32} : putV 6 (GS g p sp q t) q 3 (.int v) = some (GS g p sp q (v, t.2)) := by rw [GS_sw hd, S_putI, GS_sw hd]
theorem GS_ald (hd : p + 3 ≤ q ∨ q + 4 ≤ p) {d k : Nat} {x : Int32} (h0 : 0 < d) (h1 : d < 4) (hx : x = I k) (hk0 : k < 30) : aldI 0 (GS g p sp q t) (q + d) x = some (t.2 d k) := by rw [GS_sw hd]; exact S_ald h0 h1 hx hk0
theorem GS_ast (hd : p + 3 ≤ q ∨ q + 4 ≤ p) {d k : Nat} {x v : Int32} (h0 : 0 < d) (h1 : d < 4) (hx : x = I k) (hk0 : k < 30) : astI 0 (GS g p sp q t) (q + d) x v = some (GS g p sp q (setS t d k v)) := by rw [GS_sw hd, S_ast h0 h1 hx hk0, GS_sw hd]; rfl
theorem c_command (hL : L ≤ 500) (hs : s ≤ L) : x0_commandOfWord p (putP g p (pK cnt T L s)) = some (cmI (cmW T L s), putP g p (pK cnt T L s)) := by
  have w : ∀ k, k < 15 → x7_isWord (p + 1) k (putP g p (pK cnt T L s)) = some (bI (wdB T L k s), putP g p (pK cnt T L s)) := fun k hk0 => c_isWord hL hs hk0
  have z : ∀ k, wdB T L k s = true → ¬ bI (wdB T L k s) = 0 := fun k h => by rw [bI_z, h]; decide
  have f : ∀ k, ¬ wdB T L k s = true → bI (wdB T L k s) = 0 := fun k h => (bI_z _).mpr (by simpa using h)
  unfold x0_commandOfWord cmW
  rw [P_getR0, gb_s, P_isO7, gb_s, w 6 (by decide), cb_s]
  by_cases h6 : wdB T L 6 s = true
  · rw [if_neg (z 6 h6), if_pos h6]; rfl
  rw [if_pos (f 6 h6), if_neg h6, P_getR0, gb_s, P_isO7, gb_s, w 7 (by decide), cb_s]
  by_cases h7 : wdB T L 7 s = true
  · rw [if_neg (z 7 h7), if_pos h7]; rfl
  rw [if_pos (f 7 h7), if_neg h7, P_getR0, gb_s, P_isO7, gb_s, w 8 (by decide), cb_s]
  by_cases h8 : wdB T L 8 s = true
  · rw [if_neg (z 8 h8), if_pos h8]; rfl
  rw [if_pos (f 8 h8), if_neg h8, P_getR0, gb_s, P_isO7, gb_s, w 9 (by decide), cb_s]
  by_cases h9 : wdB T L 9 s = true
  · rw [if_neg (z 9 h9), if_pos h9]; rfl
  rw [if_pos (f 9 h9), if_neg h9, P_getR0, gb_s, P_isO7, gb_s, w 10 (by decide), cb_s]
  by_cases h10 : wdB T L 10 s = true
  · rw [if_neg (z 10 h10), if_pos h10]; rfl
  rw [if_pos (f 10 h10), if_neg h10, P_getR0, gb_s, P_isO7, gb_s, w 11 (by decide), cb_s]
  by_cases h11 : wdB T L 11 s = true
  · rw [if_neg (z 11 h11), if_pos h11]; rfl
  rw [if_pos (f 11 h11), if_neg h11, P_getR0, gb_s, P_isO7, gb_s, w 12 (by decide), cb_s]
  by_cases h12 : wdB T L 12 s = true
  · rw [if_neg (z 12 h12), if_pos h12]; rfl
  rw [if_pos (f 12 h12), if_neg h12, P_getR0, gb_s, P_isO7, gb_s, w 13 (by decide), cb_s]
  by_cases h13 : wdB T L 13 s = true
  · rw [if_neg (z 13 h13), if_pos h13]; rfl
  rw [if_pos (f 13 h13), if_neg h13, P_getR0, gb_s, P_isO7, gb_s, w 14 (by decide), cb_s]
  by_cases h14 : wdB T L 14 s = true
  · rw [if_neg (z 14 h14), if_pos h14]; rfl
  · rw [if_pos (f 14 h14), if_neg h14]; rfl
theorem c_into (hd : p + 3 ≤ q ∨ q + 4 ≤ p) (hL : L ≤ 500) (hs : s ≤ L) {d k lo hi : Nat} {x y : Int32} (h0 : 0 < d) (h1 : d < 4) (hk0 : k < 30) (hx : x = I lo) (hy : y = I hi) (hlo : lo ≤ 99) (hh : hi ≤ 99) : x0_readInto p (q + d) (I k) x y (GS g p (pK cnt T L s) q t) = if nuE T L lo hi s = 0 then some (1, GS g p (pK cnt T L (nx T L s)) q (setS t d k (I (nv T L s)))) else some (0, GS g p (pE (I (nuE T L lo hi s)) cnt T L s) q t) := by
  have n1 : ¬ (1 : Int32) = 0 := by decide
  unfold x0_readInto
  rw [P_isO0, gb_s, c_isNumber hx hy hL hh hlo]
  by_cases h : nuE T L lo hi s = 0
  · rw [if_pos h, if_pos h, cb_s, if_neg n1, P_getR0, gb_s, P_isO7, gb_s, c_valueOk hL hh h, cb_s, GS_ast hd h0 h1 rfl hk0, gb_s, P_getR0, gb_s, P_isO7, gb_s, c_next hL hs, cb_s]
  · rw [if_neg h, if_neg h, cb_s, if_pos (rfl : (0 : Int32) = 0)]
theorem c_and (hd : p + 3 ≤ q ∨ q + 4 ≤ p) (hL : L ≤ 500) (hs : s ≤ L) {k lo hi : Nat} {x y : Int32} (hk0 : k < 30) (hx : x = I lo) (hy : y = I hi) (hlo : lo ≤ 99) (hh : hi ≤ 99) : x0_readHikerAnd p q (I k) x y (GS g p (pK cnt T L s) q t) = if nuE T L 0 9 s = 0 then (if nuE T L lo hi (nx T L s) = 0 then some (1, GS g p (pK cnt T L (nx T L (nx T L s))) q (setS (setS t 2 k (I (nv T L s))) 3 k (I (nv T L (nx T L s))))) else some (0, GS g p (pE (I (nuE T L lo hi (nx T L s))) cnt T L (nx T L s)) q (setS t 2 k (I (nv T L s))))) else some (0, GS g p (pE (I (nuE T L 0 9 s)) cnt T L s) q t) := by
  have n1 : ¬ (1 : Int32) = 0 := by decide
  have n0 : (0 : Int32) = 0 := rfl
  unfold x0_readHikerAnd
  rw [show getR 6 (GS g p (pK cnt T L s) q t) q 1 = some (q + 2) from GS_getR hd (by decide), gb_s, P_isO0, gb_s, c_into hd hL hs (d := 2) (x := 0) (y := 9) (lo := 0) (hi := 9) (by decide) (by decide) hk0 rfl rfl (by decide) (by decide)]
  by_cases h : nuE T L 0 9 s = 0
  · rw [if_pos h, if_pos h, cb_s, if_neg n1, GS_getR hd (by decide), gb_s, P_isO0, gb_s, c_into hd hL (nx_le hs) (by decide) (by decide) hk0 hx hy hlo hh]
    by_cases h2 : nuE T L lo hi (nx T L s) = 0
    · rw [if_pos h2, cb_s, if_neg n1]
    · rw [if_neg h2, cb_s, if_pos n0]
  · rw [if_neg h, if_neg h, cb_s, if_pos n0]
/-- what reading arguments does to the script -/
def Sk (t t' : SS) (k : Nat) : Prop := t'.1 = t.1 ∧ t'.2 1 = t.2 1 ∧ ∀ j, j ≠ k → t'.2 2 j = t.2 2 j ∧ t'.2 3 j = t.2 3 j
theorem Sk.refl {k : Nat} : Sk t t k := ⟨rfl, rfl, fun _ _ => ⟨rfl, rfl⟩⟩
theorem Sk.s2 {k : Nat} {v : Int32} : Sk t (setS t 2 k v) k := ⟨rfl, rfl, fun j hj => ⟨upd_ne hj, rfl⟩⟩
theorem Sk.s3 {k : Nat} {v w : Int32} : Sk t (setS (setS t 2 k v) 3 k w) k := ⟨rfl, rfl, fun j hj => ⟨upd_ne hj, upd_ne hj⟩⟩
theorem c_args (hd : p + 3 ≤ q ∨ q + 4 ≤ p) (hL : L ≤ 500) (hs : s ≤ L) {k c : Nat} (hk0 : k < 30) (hc : c ≤ 8) (ht : t.2 1 k = I c) :
    (∃ a b s', argS T L c s = .inl (a, b, s') ∧ s' ≤ L ∧ ∃ t', x0_readArguments p q (I k) (GS g p (pK cnt T L s) q t) = some (1, GS g p (pK cnt T L s') q t') ∧ Sk t t' k ∧ t'.2 2 k = I a ∧ (two c = true → t'.2 3 k = I b)) ∨ (∃ c' e, argS T L c s = .inr (c', e) ∧ e ≤ L ∧ (c' = 1 ∨ c' = 2 ∨ c' = 3) ∧ ∃ t', x0_readArguments p q (I k) (GS g p (pK cnt T L s) q t) = some (0, GS g p (pE (I c') cnt T L e) q t')) := by
  have s1 := nx_le (T := T) hs
  have s2 := nx_le (T := T) s1
  have b1' : bz (1 : Int32) := Or.inr rfl
  have b0' : bz (0 : Int32) := Or.inl rfl
  have HB : ∀ {lo hi : Nat} {x y : Int32}, x = I lo → y = I hi → lo ≤ 99 → hi ≤ 99 → two c = true → lo1 c = 0 → hi1 c = 9 → lo2 c = lo → hi2 c = hi → ∀ w, w = (gb (isO 0 (GS g p (pK cnt T L s) q t) p) fun _ => cb (x0_readHikerAnd p q (I k) x y (GS g p (pK cnt T L s) q t)) fun r6 g7 => if bz r6 then some (r6, g7) else none) → (∃ a b s', argS T L c s = .inl (a, b, s') ∧ s' ≤ L ∧ ∃ t', w = some (1, GS g p (pK cnt T L s') q t') ∧ Sk t t' k ∧ t'.2 2 k = I a ∧ (two c = true → t'.2 3 k = I b)) ∨ (∃ c' e, argS T L c s = .inr (c', e) ∧ e ≤ L ∧ (c' = 1 ∨ c' = 2 ∨ c' = 3) ∧ ∃ t', w = some (0, GS g p (pE (I c') cnt T L e) q t')) := by
    intro lo hi x y hx hy hlo hh h2 e1 e2 e3 e4 w hw
    rw [hw, P_isO0, gb_s, c_and hd hL hs hk0 hx hy hlo hh]
    unfold argS
    rw [e1, e2, e3, e4]
    have u1 := nuE_cases T L 0 9 s
    have u2 := nuE_cases T L lo hi (nx T L s)
    by_cases a1 : nuE T L 0 9 s = 0
    · rw [if_pos a1, if_pos a1, if_pos h2]
      by_cases a2 : nuE T L lo hi (nx T L s) = 0
      · rw [if_pos a2, if_pos a2, cb_s, if_pos b1']
        exact Or.inl ⟨_, _, _, rfl, s2, _, rfl, Sk.s3, upd_at, fun _ => upd_at⟩
      · rw [if_neg a2, if_neg a2, cb_s, if_pos b0']
        exact Or.inr ⟨_, _, rfl, s1, by omega, _, rfl⟩
    · rw [if_neg a1, if_neg a1, cb_s, if_pos b0']
      exact Or.inr ⟨_, _, rfl, hs, by omega, _, rfl⟩
  have HI : ∀ {lo hi : Nat} {x y : Int32}, x = I lo → y = I hi → lo ≤ 99 → hi ≤ 99 → ¬ two c = true → lo1 c = lo → hi1 c = hi → ∀ w, w = (gb (getR 6 (GS g p (pK cnt T L s) q t) q 1) fun x1 => gb (isO 0 (GS g p (pK cnt T L s) q t) p) fun _ => cb (x0_readInto p x1 (I k) x y (GS g p (pK cnt T L s) q t)) fun r6 g7 => if bz r6 then some (r6, g7) else none) → (∃ a b s', argS T L c s = .inl (a, b, s') ∧ s' ≤ L ∧ ∃ t', w = some (1, GS g p (pK cnt T L s') q t') ∧ Sk t t' k ∧ t'.2 2 k = I a ∧ (two c = true → t'.2 3 k = I b)) ∨ (∃ c' e, argS T L c s = .inr (c', e) ∧ e ≤ L ∧ (c' = 1 ∨ c' = 2 ∨ c' = 3) ∧ ∃ t', w = some (0, GS g p (pE (I c') cnt T L e) q t')) := by
    intro lo hi x y hx hy hlo hh h2 e1 e2 w hw
    rw [hw, GS_getR hd (by decide), gb_s, P_isO0, gb_s, c_into hd hL hs (by decide) (by decide) hk0 hx hy hlo hh]
    unfold argS
    rw [e1, e2]
    have u1 := nuE_cases T L lo hi s
    by_cases a1 : nuE T L lo hi s = 0
    · rw [if_pos a1, if_pos a1, if_neg h2, cb_s, if_pos b1']
      exact Or.inl ⟨_, _, _, rfl, s1, _, rfl, Sk.s2, upd_at, fun h => absurd h h2⟩
    · rw [if_neg a1, if_neg a1, cb_s, if_pos b0']
      exact Or.inr ⟨_, _, rfl, hs, by omega, _, rfl⟩
  unfold x0_readArguments
  rw [GS_getR hd (by decide), gb_s, GS_ald hd (d := 1) (by decide) (by decide) rfl hk0, gb_s, ht]
  match c, hc with
  | 0, _ => exact HB (x := 0) (y := 11) (lo := 0) (hi := 11) rfl rfl (by decide) (by decide) rfl rfl rfl rfl rfl _ (by rw [if_pos (by decide)])
  | 1, _ => exact HI (x := 0) (y := 9) (lo := 0) (hi := 9) rfl rfl (by decide) (by decide) (by decide) rfl rfl _ (by rw [if_neg (by decide), if_pos (by decide)])
  | 2, _ => exact HB (x := 0) (y := 9) (lo := 0) (hi := 9) rfl rfl (by decide) (by decide) rfl rfl rfl rfl rfl _ (by rw [if_neg (by decide), if_neg (by decide), if_pos (by decide)])
  | 3, _ => exact HB (x := 0) (y := 11) (lo := 0) (hi := 11) rfl rfl (by decide) (by decide) rfl rfl rfl rfl rfl _ (by rw [if_neg (by decide), if_neg (by decide), if_neg (by decide), if_pos (by decide)])
  | 4, _ => exact HI (x := 0) (y := 9) (lo := 0) (hi := 9) rfl rfl (by decide) (by decide) (by decide) rfl rfl _ (by rw [if_neg (by decide), if_neg (by decide), if_neg (by decide), if_neg (by decide), if_pos (by decide)])
  | 5, _ => exact HI (x := 0) (y := 3) (lo := 0) (hi := 3) rfl rfl (by decide) (by decide) (by decide) rfl rfl _ (by rw [if_neg (by decide), if_neg (by decide), if_neg (by decide), if_neg (by decide), if_neg (by decide), if_pos (by decide)])
  | 6, _ => exact HI (x := 1) (y := 50) (lo := 1) (hi := 50) rfl rfl (by decide) (by decide) (by decide) rfl rfl _ (by rw [if_neg (by decide), if_neg (by decide), if_neg (by decide), if_neg (by decide), if_neg (by decide), if_neg (by decide), if_pos (by decide)])
  | 7, _ => exact HB (x := 1) (y := 99) (lo := 1) (hi := 99) rfl rfl (by decide) (by decide) rfl rfl rfl rfl rfl _ (by rw [if_neg (by decide), if_neg (by decide), if_neg (by decide), if_neg (by decide), if_neg (by decide), if_neg (by decide), if_neg (by decide), if_pos (by decide)])
  | 8, _ => exact HI (x := 1) (y := 48) (lo := 1) (hi := 48) rfl rfl (by decide) (by decide) (by decide) rfl rfl _ (by rw [if_neg (by decide), if_neg (by decide), if_neg (by decide), if_neg (by decide), if_neg (by decide), if_neg (by decide), if_neg (by decide), if_neg (by decide), if_pos (by decide)])
theorem SV_app {t t' : SS} {cs : List Cm} {c a b : Nat} (h : SV t cs) (hk0 : Sk (setS t 1 cs.length (I c)) t' cs.length) (ha : t'.2 2 cs.length = I a) (hb : two c = true → t'.2 3 cs.length = I b) : SV t' (cs ++ [(c, a, b)]) := by
  intro i hi
  rw [List.length_append, List.length_singleton] at hi
  obtain ⟨-, k2, k3⟩ := hk0
  by_cases hil : i = cs.length
  · have e : (cs ++ [(c, a, b)]).getD i (0, 0, 0) = (c, a, b) := by rw [hil]; simp
    rw [e, hil, k2]
    exact ⟨upd_at, ha, hb⟩
  · have e : (cs ++ [(c, a, b)]).getD i (0, 0, 0) = cs.getD i (0, 0, 0) := by simp [List.getElem?_append_left (show i < cs.length by omega)]
    obtain ⟨h1, h2, h3⟩ := h i (by omega)
    obtain ⟨q1, q2⟩ := k3 i hil
    rw [e, k2, q1, q2]
    exact ⟨(upd_ne hil).trans h1, h2, h3⟩
theorem c_scriptLoop (hd : p + 3 ≤ q ∨ q + 4 ≤ p) (hL : L ≤ 500) : ∀ n F cs s t, n < F → cs.length + n = 31 → cs.length ≤ 30 → s ≤ L → SV t cs →
    (∃ cs', scS T L n cs s = .inl cs' ∧ cs'.length ≤ 30 ∧ ∃ s' t', loopX (x0_readScript_l6 p q) F (I cs.length) (GS g p (pK cnt T L s) q t) = some (.inr 1, GS g p (pK cnt T L s') q t') ∧ s' ≤ L ∧ SV t' cs' ∧ t'.1 = I cs'.length) ∨ (∃ c e, scS T L n cs s = .inr (c, e) ∧ e ≤ L ∧ (c = 1 ∨ c = 2 ∨ c = 3) ∧ ∃ t', loopX (x0_readScript_l6 p q) F (I cs.length) (GS g p (pK cnt T L s) q t) = some (.inr 0, GS g p (pE (I c) cnt T L e) q t')) := by
  intro n
  induction n with
  | zero => intro F cs s t hF hv hv2; omega
  | succ n ih =>
    intro F cs s t hF hv hv2 hs hS
    match F, hF with
    | F + 1, hF =>
      have s1 := nx_le (T := T) hs
      have ht5 := tk_le T L s
      rw [loopX_s]
      have b0' : bz (0 : Int32) := Or.inl rfl
      have eh : x0_readScript_l6 p q (I cs.length) (GS g p (pK cnt T L s) q t) = if tk T L s = 0 then some (.inr (.inr 1), GS g p (pK cnt T L s) q (I cs.length, t.2)) else (gb (isO 0 (GS g p (pK cnt T L s) q (I cs.length, t.2)) p) fun _ => cb (x0_commandOfWord p (GS g p (pK cnt T L s) q (I cs.length, t.2))) fun r9 g10 => if r9 = (-1) then
          gb (isO 0 g10 p) fun _ => cb (x0_fail p 1 g10) fun r45 g46 => if bz r45 then some (.inr (.inr r45), g46) else none
          else
          if I cs.length < 30 then
          gb (getR 0 g10 p 0) fun x16 => gb (isO 7 g10 x16) fun _ => cb (x7_readNext x16 g10) fun r18 g19 => gb (getR 6 g19 q 0) fun x23 => gb (astI 0 g19 x23 (I cs.length) r9) fun g25 => gb (isO 0 g25 p) fun _ => cb (x0_readArguments p q (I cs.length) g25) fun r27 g28 => if r27 = 0 then
          some (.inr (.inr 0), g28)
          else
          gb (isO 0 g28 p) fun _ => cb (x0_readSemicolon p g28) fun r33 g34 => if r33 = 0 then
          some (.inr (.inr 0), g34)
          else
          some (.inl (I cs.length + 1), g34)
          else
          gb (isO 0 g10 p) fun _ => cb (x0_fail p 3 g10) fun r39 g40 => if bz r39 then some (.inr (.inr r39), g40) else none) := by
        unfold x0_readScript_l6
        rw [if_neg (show ¬ (30 : Int32) < I cs.length by rw [show (30 : Int32) = I 30 from rfl, I_lt (by decide) (by omega)]; omega), GS_putI hd, gb_s, P_getR0, gb_s, P_tI (by decide), gb_s]
        by_cases h0 : tk T L s = 0
        · rw [if_pos h0, if_pos (show (pK cnt T L s).2.1 2 = 0 by show I (tk T L s) = 0; rw [h0]; rfl)]
        · rw [if_neg h0, if_neg (show ¬ (pK cnt T L s).2.1 2 = 0 from show ¬ I (tk T L s) = 0 from fun hc => h0 ((I_eq (b := 0) (by omega) (by decide)).mp hc))]
      rw [eh]
      by_cases h0 : tk T L s = 0
      · rw [if_pos h0, show scS T L (n + 1) cs s = .inl cs by rw [scS, if_pos h0]]
        exact Or.inl ⟨cs, rfl, hv2, s, _, rfl, hs, hS, rfl⟩
      · rw [if_neg h0, P_isO0, gb_s, c_command hL hs, cb_s]
        match hcm : cmW T L s with
        | none =>
          rw [show scS T L (n + 1) cs s = .inr (1, s) by rw [scS, if_neg h0, hcm], if_pos (show cmI none = -1 from rfl), P_isO0, gb_s, c_fail, cb_s, if_pos b0']
          exact Or.inr ⟨1, s, rfl, hs, Or.inl rfl, _, rfl⟩
        | some c =>
          have hc8 := cmW_le hcm
          rw [if_neg (show ¬ cmI (some c) = -1 from I_ne_neg (by omega))]
          by_cases h30 : 30 ≤ cs.length
          · rw [show scS T L (n + 1) cs s = .inr (3, s) by rw [scS, if_neg h0, hcm]; exact if_pos h30, if_neg (show ¬ I cs.length < 30 by rw [show (30 : Int32) = I 30 from rfl, I_lt (by omega) (by decide)]; omega), P_isO0, gb_s, c_fail, cb_s, if_pos b0']
            exact Or.inr ⟨3, s, rfl, hs, Or.inr (Or.inr rfl), _, rfl⟩
          · rw [if_pos (show I cs.length < 30 by rw [show (30 : Int32) = I 30 from rfl, I_lt (by omega) (by decide)]; omega), P_getR0, gb_s, P_isO7, gb_s, c_next hL hs, cb_s, GS_getR hd (by decide), gb_s, GS_ast hd (d := 1) (by decide) (by decide) rfl (by omega), gb_s, P_isO0, gb_s]
            have hA : SV (setS (I cs.length, t.2) 1 cs.length (cmI (some c))) cs := fun i hi => by
              obtain ⟨q1, q2, q3⟩ := hS i hi
              exact ⟨(upd_ne (by omega)).trans q1, q2, q3⟩
            rcases c_args (g := g) (p := p) (q := q) (T := T) (cnt := cnt) (t := setS (I cs.length, t.2) 1 cs.length (cmI (some c))) (k := cs.length) hd hL s1 (by omega) hc8 upd_at with ⟨a, b, s', e1, e2, t', e3, e4, e5, e6⟩ | ⟨c', e, e1, e2, e3, t', e4⟩
            · rw [e3, cb_s, if_neg (show ¬ (1 : Int32) = 0 by decide), P_isO0, gb_s, c_semi hL e2]
              by_cases h3 : tk T L s' = 3
              · have eS : scS T L (n + 1) cs s = scS T L n (cs ++ [(c, a, b)]) (nx T L s') := by
                  rw [scS, if_neg h0, hcm]
                  dsimp only
                  rw [if_neg h30, e1]
                  dsimp only
                  rw [if_pos h3]
                rw [if_pos h3, cb_s, if_neg (show ¬ (1 : Int32) = 0 by decide), eS, I_succ]
                have R := ih F (cs ++ [(c, a, b)]) (nx T L s') t' (by omega) (by rw [List.length_append, List.length_singleton]; omega) (by rw [List.length_append, List.length_singleton]; omega) (nx_le e2) (SV_app (t := (I cs.length, t.2)) (show SV (I cs.length, t.2) cs from hS) e4 e5 e6)
                rw [List.length_append, List.length_singleton] at R
                exact R
              · have eS : scS T L (n + 1) cs s = .inr (1, s') := by
                  rw [scS, if_neg h0, hcm]
                  dsimp only
                  rw [if_neg h30, e1]
                  dsimp only
                  rw [if_neg h3]
                rw [if_neg h3, cb_s, if_pos (rfl : (0 : Int32) = 0), eS]
                exact Or.inr ⟨1, s', rfl, e2, Or.inl rfl, _, rfl⟩
            · have eS : scS T L (n + 1) cs s = .inr (c', e) := by
                rw [scS, if_neg h0, hcm]
                dsimp only
                rw [if_neg h30, e1]
              rw [e4, cb_s, if_pos (rfl : (0 : Int32) = 0), eS]
              exact Or.inr ⟨c', e, rfl, e2, e3, _, rfl⟩
theorem c_readScript (hd : p + 3 ≤ q ∨ q + 4 ≤ p) (hL : L ≤ 500) {a b c ec ep : Int32} :
    (∃ cs, scS T L 31 [] (rn T L 4 0) = .inl cs ∧ cs.length ≤ 30 ∧ ∃ s' t', x0_readScript p q (GS g p (giC ec ep cnt, tiC (I L) a b c, T) q t) = some (1, GS g p (pK cnt T L s') q t') ∧ s' ≤ L ∧ SV t' cs ∧ t'.1 = I cs.length) ∨ (∃ c' e, scS T L 31 [] (rn T L 4 0) = .inr (c', e) ∧ e ≤ L ∧ (c' = 1 ∨ c' = 2 ∨ c' = 3) ∧ ∃ t', x0_readScript p q (GS g p (giC ec ep cnt, tiC (I L) a b c, T) q t) = some (0, GS g p (pE (I c') cnt T L e) q t')) := by
  have s0 := rn_le (T := T) (L := L) (k := 4) (Nat.zero_le L)
  unfold x0_readScript
  rw [P_isO0, gb_s, c_begin (gi := fun _ => 0) hL, cb_s]
  rcases c_scriptLoop (g := g) (p := p) (q := q) (T := T) (cnt := cnt) hd hL 31 1000 [] (rn T L 4 0) t (by decide) rfl (by decide) s0 (fun i hi => absurd hi (Nat.not_lt_zero _)) with ⟨cs', e1, e2, s', t', e3, e4, e5, e6⟩ | ⟨c', e, e1, e2, e3, t', e4⟩
  · rw [show loopX (x0_readScript_l6 p q) 1000 0 _ = _ from e3, cb_s]
    exact Or.inl ⟨cs', e1, e2, s', t', rfl, e4, e5, e6⟩
  · rw [show loopX (x0_readScript_l6 p q) 1000 0 _ = _ from e4, cb_s]
    exact Or.inr ⟨c', e, e1, e2, e3, t', rfl⟩
end CScr
