/-! rows that read and write the heap -/
section RowsH
variable {M : MC} {G : GG} {cc : ByteArray} {nL : Nat} {own : String} {rm : Room} {Q : State → Prop} {kc ks : Nat} {g : AH} {pc : Nat} {L : List (Nat × Value)} {st : List Value}
theorem isO_spec {ci : Nat} {g : AH} {a : Nat} (h : isO ci g a = some ()) : ∃ V : Nat → Value, g.1 a = some (.inl (ci, V)) := by
  unfold isO at h
  split at h
  · rename_i o ho
    by_cases hc : o.1 = ci
    · exact ⟨o.2, by rw [ho, ← hc]⟩
    · rw [if_neg hc] at h; cases h
  · cases h
theorem getI_spec {ci : Nat} {g : AH} {a k : Nat} {x : Int32} (h : getI ci g a k = some x) : ∃ V : Nat → Value, g.1 a = some (.inl (ci, V)) ∧ V k = .int x := by
  unfold getI at h
  split at h
  · rename_i o ho
    by_cases hc : o.1 = ci
    · rw [if_pos hc] at h
      split at h
      · rename_i y hy
        cases h
        exact ⟨o.2, by rw [ho, ← hc], hy⟩
      · cases h
    · rw [if_neg hc] at h; cases h
  · cases h
theorem getR_spec {ci : Nat} {g : AH} {a k : Nat} {x : Nat} (h : getR ci g a k = some x) : ∃ V : Nat → Value, g.1 a = some (.inl (ci, V)) ∧ V k = .ref x := by
  unfold getR at h
  split at h
  · rename_i o ho
    by_cases hc : o.1 = ci
    · rw [if_pos hc] at h
      split at h
      · rename_i y hy
        cases h
        exact ⟨o.2, by rw [ho, ← hc], hy⟩
      · cases h
    · rw [if_neg hc] at h; cases h
  · cases h
theorem putV_spec {ci : Nat} {g g1 : AH} {a k : Nat} {v : Value} (h : putV ci g a k v = some g1) : ∃ V : Nat → Value, g.1 a = some (.inl (ci, V)) ∧ g1 = hset g a (.inl (ci, updV V k v)) := by
  unfold putV at h
  split at h
  · rename_i o ho
    by_cases hc : o.1 = ci
    · rw [if_pos hc] at h
      cases h
      exact ⟨o.2, by rw [ho, ← hc], rfl⟩
    · rw [if_neg hc] at h; cases h
  · cases h
theorem get_V (X : CX M G cc nL own rm) {i ci k : Nat} {fin : Bool} {ty : FieldType} (d : decode cc pc = .ok (.getfield i, 3)) (f : FL own i ci k fin ty) {a : Nat} {V : Nat → Value} (ha : g.1 a = some (.inl (ci, V))) (kk : WW M G nL Q kc ks g (pc + 3) L (V k :: st)) : WW M G nL Q kc ks g pc L (.ref a :: st) := by
  intro hk1 hk2 H locs ls hP hS hl
  obtain ⟨hF, C, T, N, hc, hk, ⟨ref, hw, hsm⟩, -, -⟩ := f
  obtain ⟨hin, -, -⟩ := hF C T N hc
  obtain ⟨⟨r, h1, cell, q1, q2, q3, q4⟩, -⟩ := hP.1 a _ ha
  have hr : r = (C, T, N) := Option.some.inj (h1.symm.trans hc)
  subst hr
  obtain ⟨hSl, hfc, kC, hkC, hkind⟩ := X.2.1.1 ci _ hc
  obtain ⟨cf, kf, fi, f9, hi, hsl⟩ := hSl k hk
  refine W.getf X.1.1 X.1.2.1 X.1.2.2.2.1 (X.w hw) (X.ff hsm hi) (u_facts hfc hkC (u_lays X.1.2.2.2.2 hin hk) hi).1 q1 (by rw [q3]; exact fun h => by cases h) (v := V k) ?_ rfl rfl d (kk hk1 hk2 H locs ls hP hS hl)
  rw [hsl]
  exact q4 k hk
theorem r_getI (X : CX M G cc nL own rm) {i ci k : Nat} {fin : Bool} {ty : FieldType} {a : Nat} {x : Int32} (d : decode cc pc = .ok (.getfield i, 3)) (f : FL own i ci k fin ty) (h : getI ci g a k = some x) (kk : WW M G nL Q kc ks g (pc + 3) L (.int x :: st)) : WW M G nL Q kc ks g pc L (.ref a :: st) := by
  obtain ⟨V, ha, hv⟩ := getI_spec h
  exact get_V X d f ha (by rw [hv]; exact kk)
theorem r_getR (X : CX M G cc nL own rm) {i ci k : Nat} {fin : Bool} {ty : FieldType} {a : Nat} {x : Nat} (d : decode cc pc = .ok (.getfield i, 3)) (f : FL own i ci k fin ty) (h : getR ci g a k = some x) (kk : WW M G nL Q kc ks g (pc + 3) L (.ref x :: st)) : WW M G nL Q kc ks g pc L (.ref a :: st) := by
  obtain ⟨V, ha, hv⟩ := getR_spec h
  exact get_V X d f ha (by rw [hv]; exact kk)
theorem r_put (X : CX M G cc nL own rm) {i ci k : Nat} {ty : FieldType} {a : Nat} {v : Value} {g1 : AH} (d : decode cc pc = .ok (.putfield i, 3)) (f : FL own i ci k false ty) (hn : narrow ty v = v) (hfit : fits ty v = true) (h : putV ci g a k v = some g1) (kk : WW M G nL Q kc ks g1 (pc + 3) L st) : WW M G nL Q kc ks g pc L (v :: .ref a :: st) := by
  obtain ⟨V, ha, rfl⟩ := putV_spec h
  intro hk1 hk2 H locs ls hP hS hl
  obtain ⟨hF, C, T, N, hc, hk, ⟨ref, hw, hsm⟩, hfin, hd⟩ := f
  obtain ⟨hin, ⟨ty0, hty⟩, hnm⟩ := hF C T N hc
  have hap := va_apart (own := own) X.1.2.2.2.2 hin ty0 hty hnm X.2.1 hc
  obtain ⟨⟨r, h1, cell, q1, q2, q3, q4⟩, hBa⟩ := hP.1 a _ ha
  have hr : r = (C, T, N) := Option.some.inj (h1.symm.trans hc)
  subst hr
  obtain ⟨hSl, hfc, kC, hkC, hkind⟩ := X.2.1.1 ci _ hc
  obtain ⟨cf, kf, fi, f9, hi, hsl⟩ := hSl k hk
  have hlay := X.w (hin _ (u_in_lay hk))
  unfold u_lay at hlay
  rw [if_neg (by rw [hfin]; decide)] at hlay
  have hst := (u_facts hfc hkC (u_lays X.1.2.2.2.2 hin hk) hi).1
  have h6 := u_store hfc hkC hkind hlay hi hd hn hfit
  refine W.putK X.1.1 X.1.2.1 (f := f9) ⟨X.1.2.2.2.1, X.w hw, ⟨_, _, _, X.ff hsm hi⟩, hst⟩ (by rw [q2]; exact h6) q1 q3 (by rw [hsl]; exact k2_hasslot (q4 k hk)) rfl rfl d fun H' e1 e2 e3 => ?_
  rw [hsl] at e1 ⊢
  exact kk hk1 hk2 H' _ ls (hP.set hBa ⟨_, hc, ⟨_, e1, q2, q3, t_set q4 hap hk v⟩⟩ e2 e3) (hS.put e2 e3 hBa) hl
theorem r_putF (X : CX M G cc nL own rm) {i ci k : Nat} {ty : FieldType} {a : Nat} {v : Value} {g1 : AH} (d : decode cc pc = .ok (.putfield i, 3)) (f : FL own i ci k true ty) (hname : (mM M).name = "<init>") (hdecl : ∀ (C : String) (T : u_T) (N : Nat), vwCl[ci]? = some (C, T, N) → (T k).1 = own) (hn : narrow ty v = v) (hfit : fits ty v = true) (h : putV ci g a k v = some g1) (kk : WW M G nL Q kc ks g1 (pc + 3) L st) : WW M G nL Q kc ks g pc L (v :: .ref a :: st) := by
  obtain ⟨V, ha, rfl⟩ := putV_spec h
  intro hk1 hk2 H locs ls hP hS hl
  obtain ⟨hF, C, T, N, hc, hk, ⟨ref, hw, hsm⟩, hfin, hd⟩ := f
  obtain ⟨hin, ⟨ty0, hty⟩, hnm⟩ := hF C T N hc
  have hap := va_apart (own := own) X.1.2.2.2.2 hin ty0 hty hnm X.2.1 hc
  obtain ⟨⟨r, h1, cell, q1, q2, q3, q4⟩, hBa⟩ := hP.1 a _ ha
  have hr : r = (C, T, N) := Option.some.inj (h1.symm.trans hc)
  subst hr
  obtain ⟨hSl, hfc, kC, hkC, hkind⟩ := X.2.1.1 ci _ hc
  obtain ⟨cf, kf, fi, f9, hi, hsl⟩ := hSl k hk
  have hlay := X.w (hin _ (u_in_lay hk))
  unfold u_lay at hlay
  rw [if_pos hfin] at hlay
  have hst := (u_facts hfc hkC (u_lays X.1.2.2.2.2 hin hk) hi).1
  have hcf : (mI M).cls = cf := by
    obtain ⟨_, _, c', _, _, _, -, -, hf', -, -, -, hown2, -⟩ := Cond.laysFinal_spec hlay
    have e1 : c' = cf := by have := hi.symm.trans hf'; simp at this; exact this.1.symm
    rw [hdecl C T N hc] at hown2
    rw [← e1]; exact Option.some.inj (X.1.2.2.2.1.symm.trans hown2)
  have h6 := u_fits hfc hkC hkind (Or.inr hlay) hi hd hn hfit
  refine W.putFinK X.1.1 X.1.2.1 X.1.2.2.2.1 (X.w hw) (X.ff hsm hi) hst hcf hname (by rw [q2]; exact h6) q1 q3 (by rw [hsl]; exact k2_hasslot (q4 k hk)) rfl rfl d fun H' e1 e2 e3 => ?_
  rw [hsl] at e1 ⊢
  exact kk hk1 hk2 H' _ ls (hP.set hBa ⟨_, hc, ⟨_, e1, q2, q3, t_set q4 hap hk v⟩⟩ e2 e3) (hS.put e2 e3 hBa) hl
theorem aldI_spec {t : Nat} {g : AH} {a : Nat} {i x : Int32} (h : aldI t g a i = some x) : ∃ (n : Nat) (f : Nat → Int32), g.1 a = some (.inr (t, n, .inl f)) ∧ ¬ outI i n ∧ x = f i.toNatClampNeg := by
  unfold aldI at h
  split at h
  · rename_i k n f hk
    by_cases h1 : k = t
    · subst h1
      rw [if_pos rfl] at h
      by_cases h2 : outI i n
      · rw [if_pos h2] at h; cases h
      · rw [if_neg h2] at h
        exact ⟨n, f, hk, h2, (Option.some.inj h).symm⟩
    · rw [if_neg h1] at h; cases h
  · cases h
theorem astI_spec {t : Nat} {g g1 : AH} {a : Nat} {i x : Int32} (h : astI t g a i x = some g1) : ∃ (n : Nat) (f : Nat → Int32), g.1 a = some (.inr (t, n, .inl f)) ∧ ¬ outI i n ∧ g1 = hset g a (.inr (t, n, .inl (upd f i.toNatClampNeg x))) := by
  unfold astI at h
  split at h
  · rename_i k n f hk
    by_cases h1 : k = t
    · subst h1
      rw [if_pos rfl] at h
      by_cases h2 : outI i n
      · rw [if_pos h2] at h; cases h
      · rw [if_neg h2] at h
        exact ⟨n, f, hk, h2, (Option.some.inj h).symm⟩
    · rw [if_neg h1] at h; cases h
  · cases h
theorem aldL_spec {g : AH} {a : Nat} {i : Int32} {x : Int64} (h : aldL g a i = some x) : ∃ (n : Nat) (f : Nat → Int64), g.1 a = some (.inr (3, n, .inr (.inl f))) ∧ ¬ outI i n ∧ x = f i.toNatClampNeg := by
  unfold aldL at h
  split at h
  · rename_i k n f hk
    by_cases h1 : k = 3
    · subst h1
      rw [if_pos rfl] at h
      by_cases h2 : outI i n
      · rw [if_pos h2] at h; cases h
      · rw [if_neg h2] at h
        exact ⟨n, f, hk, h2, (Option.some.inj h).symm⟩
    · rw [if_neg h1] at h; cases h
  · cases h
theorem astL_spec {g g1 : AH} {a : Nat} {i : Int32} {x : Int64} (h : astL g a i x = some g1) : ∃ (n : Nat) (f : Nat → Int64), g.1 a = some (.inr (3, n, .inr (.inl f))) ∧ ¬ outI i n ∧ g1 = hset g a (.inr (3, n, .inr (.inl (vp_updL f i.toNatClampNeg x)))) := by
  unfold astL at h
  split at h
  · rename_i k n f hk
    by_cases h1 : k = 3
    · subst h1
      rw [if_pos rfl] at h
      by_cases h2 : outI i n
      · rw [if_pos h2] at h; cases h
      · rw [if_neg h2] at h
        exact ⟨n, f, hk, h2, (Option.some.inj h).symm⟩
    · rw [if_neg h1] at h; cases h
  · cases h
theorem aldR_spec {t : Nat} {g : AH} {a : Nat} {i : Int32} {x : Nat} (h : aldR t g a i = some x) : ∃ (n : Nat) (f : Nat → Option Nat), g.1 a = some (.inr (t, n, .inr (.inr f))) ∧ ¬ outI i n ∧ f i.toNatClampNeg = some x := by
  unfold aldR at h
  split at h
  · rename_i k n f hk
    by_cases h1 : k = t
    · subst h1
      rw [if_pos rfl] at h
      by_cases h2 : outI i n
      · rw [if_pos h2] at h; cases h
      · rw [if_neg h2] at h
        exact ⟨n, f, hk, h2, h⟩
    · rw [if_neg h1] at h; cases h
  · cases h
theorem astR_spec {t ci : Nat} {g g1 : AH} {a : Nat} {i : Int32} {x : Nat} (h : astR t ci g a i x = some g1) : ∃ (n : Nat) (f : Nat → Option Nat), g.1 a = some (.inr (t, n, .inr (.inr f))) ∧ ¬ outI i n ∧ isO ci g x = some () ∧ g1 = hset g a (.inr (t, n, .inr (.inr (va_up f i.toNatClampNeg (some x))))) := by
  unfold astR at h
  split at h
  · rename_i k n f hk
    by_cases h1 : k = t
    · subst h1
      rw [if_pos rfl] at h
      by_cases h2 : outI i n
      · rw [if_pos h2] at h; cases h
      · rw [if_neg h2] at h
        obtain ⟨u, hu, h3⟩ := gb_some h
        exact ⟨n, f, hk, h2, hu, (Option.some.inj h3).symm⟩
    · rw [if_neg h1] at h; cases h
  · cases h
theorem alen_spec {t : Nat} {g : AH} {a : Nat} {x : Int32} (h : alen t g a = some x) : ∃ (n : Nat) (f : (Nat → Int32) ⊕ (Nat → Int64) ⊕ (Nat → Option Nat)), g.1 a = some (.inr (t, n, f)) ∧ x = Int32.ofNat n := by
  unfold alen at h
  split at h
  · rename_i k n f hk
    by_cases h1 : k = t
    · subst h1
      rw [if_pos rfl] at h
      exact ⟨n, f, hk, (Option.some.inj h).symm⟩
    · rw [if_neg h1] at h; cases h
  · cases h
theorem CX.arr (X : CX M G cc nL own rm) {t : Nat} (ht : t < 7) : ArrOfT (mS M) (G.1.2 t) (kT t) ∧ va_RA (mS M) (G.1.2 t) (kT t) := X.2.1.2 t _ (tysG_at G ht)
theorem in_size {i : Int32} {n : Nat} {c : ClassId} {f : Nat → Value} (h : ¬ outI i n) : ¬ (i < 0 ∨ (arrV c n f).slots.size ≤ i.toNatClampNeg) := by rw [arrV_size]; exact h
theorem in_lt {i : Int32} {n : Nat} (h : ¬ outI i n) : i.toNatClampNeg < n := Nat.not_le.mp fun q => h (Or.inr q)
theorem r_iald (X : CX M G cc nL own rm) {a : Nat} {i x : Int32} (d : decode cc pc = .ok (.iaload, 1)) (h : aldI 0 g a i = some x) (kk : WW M G nL Q kc ks g (pc + 1) L (.int x :: st)) : WW M G nL Q kc ks g pc L (.int i :: .ref a :: st) := by
  obtain ⟨n, f, ha, hin, rfl⟩ := aldI_spec h
  intro hk1 hk2 H locs ls hP hS hl
  exact W.iald (v := .int (f i.toNatClampNeg)) X.1.1 X.1.2.1 (hP.1 a _ ha).1 ((X.arr (t := 0) (by decide)).1 n _) (fun q => by cases q) (in_size hin) (arrV_read _ _ (in_lt hin)) rfl rfl d (kk hk1 hk2 H locs ls hP hS hl)
theorem r_bald (X : CX M G cc nL own rm) {a : Nat} {i x : Int32} (d : decode cc pc = .ok (.baload, 1)) (h : aldI 1 g a i = some x) (kk : WW M G nL Q kc ks g (pc + 1) L (.int x :: st)) : WW M G nL Q kc ks g pc L (.int i :: .ref a :: st) := by
  obtain ⟨n, f, ha, hin, rfl⟩ := aldI_spec h
  intro hk1 hk2 H locs ls hP hS hl
  exact W.bald (v := .int (f i.toNatClampNeg)) X.1.1 X.1.2.1 (hP.1 a _ ha).1 ((X.arr (t := 1) (by decide)).1 n _) (fun q => by cases q) (in_size hin) (arrV_read _ _ (in_lt hin)) rfl rfl d (kk hk1 hk2 H locs ls hP hS hl)
theorem r_zald (X : CX M G cc nL own rm) {a : Nat} {i x : Int32} (d : decode cc pc = .ok (.baload, 1)) (h : aldI 2 g a i = some x) (kk : WW M G nL Q kc ks g (pc + 1) L (.int x :: st)) : WW M G nL Q kc ks g pc L (.int i :: .ref a :: st) := by
  obtain ⟨n, f, ha, hin, rfl⟩ := aldI_spec h
  intro hk1 hk2 H locs ls hP hS hl
  exact W.zald (v := .int (f i.toNatClampNeg)) X.1.1 X.1.2.1 (hP.1 a _ ha).1 ((X.arr (t := 2) (by decide)).1 n _) (fun q => by cases q) (in_size hin) (arrV_read _ _ (in_lt hin)) rfl rfl d (kk hk1 hk2 H locs ls hP hS hl)
theorem r_aald (X : CX M G cc nL own rm) (t : Nat) {C : String} (ht : t < 7) (hC : kT t = .object C) {a : Nat} {i : Int32} {x : Nat} (d : decode cc pc = .ok (.aaload, 1)) (h : aldR t g a i = some x) (kk : WW M G nL Q kc ks g (pc + 1) L (.ref x :: st)) : WW M G nL Q kc ks g pc L (.int i :: .ref a :: st) := by
  obtain ⟨n, f, ha, hin, hx⟩ := aldR_spec h
  intro hk1 hk2 H locs ls hP hS hl
  have hr : (arrV (G.1.2 t) n (fun j => va_rf (f j))).slots[i.toNatClampNeg]? = some (.ref x) := by rw [arrV_read _ _ (in_lt hin), hx]; rfl
  exact W.aald (v := .ref x) (ty := .object C) X.1.1 X.1.2.1 (hP.1 a _ ha).1 (by rw [← hC]; exact (X.arr ht).1 n _) rfl (fun q => by cases q) (in_size hin) hr rfl rfl d (kk hk1 hk2 H locs ls hP hS hl)
theorem upd_V {f : Nat → Int32} {k : Nat} {x : Int32} : updV (fun j => Value.int (f j)) k (.int x) = fun j => Value.int (upd f k x j) := by
  funext q
  by_cases hq : q = k
  · subst hq; simp [updV, upd]
  · simp [updV, upd, hq]
theorem upd_VL {f : Nat → Int64} {k : Nat} {x : Int64} : updV (fun j => Value.long (f j)) k (.long x) = fun j => Value.long (vp_updL f k x j) := by
  funext q
  by_cases hq : q = k
  · subst hq; simp [updV, vp_updL]
  · simp [updV, vp_updL, hq]
theorem upd_VR {f : Nat → Option Nat} {k : Nat} {x : Nat} : updV (fun j => va_rf (f j)) k (.ref x) = fun j => va_rf (va_up f k (some x) j) := by
  funext q
  by_cases hq : q = k
  · subst hq; simp [updV, va_up, va_rf]
  · simp [updV, va_up, hq]
theorem r_iast (X : CX M G cc nL own rm) {a : Nat} {i x : Int32} {g1 : AH} (d : decode cc pc = .ok (.iastore, 1)) (h : astI 0 g a i x = some g1) (kk : WW M G nL Q kc ks g1 (pc + 1) L st) : WW M G nL Q kc ks g pc L (.int x :: .int i :: .ref a :: st) := by
  obtain ⟨n, f, ha, hin, rfl⟩ := astI_spec h
  intro hk1 hk2 H locs ls hP hS hl
  have hBa := (hP.1 a _ ha).2
  refine W.iast X.1.1 X.1.2.1 (hP.1 a _ ha).1 ((X.arr (t := 0) (by decide)).1 n _) (fun q => by cases q) (in_size hin) rfl rfl d fun H1 e z oq => ?_
  refine kk hk1 hk2 H1 _ ls (hP.set hBa ?_ z oq) (hS.put z oq hBa) hl
  show H1[a]? = some (arrV _ _ _)
  rw [e, arrV_store, upd_V]
theorem nar_byte (x : Int32) : narrow .byte (.int x) = .int (x.toInt8.toInt32) := rfl
theorem r_bast (X : CX M G cc nL own rm) {a : Nat} {i x : Int32} {g1 : AH} (d : decode cc pc = .ok (.bastore, 1)) (h : astI 1 g a i (x.toInt8.toInt32) = some g1) (kk : WW M G nL Q kc ks g1 (pc + 1) L st) : WW M G nL Q kc ks g pc L (.int x :: .int i :: .ref a :: st) := by
  obtain ⟨n, f, ha, hin, rfl⟩ := astI_spec h
  intro hk1 hk2 H locs ls hP hS hl
  have hBa := (hP.1 a _ ha).2
  refine W.bast X.1.1 X.1.2.1 (hP.1 a _ ha).1 ((X.arr (t := 1) (by decide)).1 n _) (fun q => by cases q) (in_size hin) rfl rfl d fun H1 e z oq => ?_
  refine kk hk1 hk2 H1 _ ls (hP.set hBa ?_ z oq) (hS.put z oq hBa) hl
  show H1[a]? = some (arrV _ _ _)
  rw [e, arrV_store]
  rw [show narrow .byte (.int x) = Value.int (x.toInt8.toInt32) from rfl, upd_V]
theorem r_zast (X : CX M G cc nL own rm) {a : Nat} {i x y : Int32} {g1 : AH} (d : decode cc pc = .ok (.bastore, 1)) (hn : narrow .boolean (.int x) = .int y) (h : astI 2 g a i y = some g1) (kk : WW M G nL Q kc ks g1 (pc + 1) L st) : WW M G nL Q kc ks g pc L (.int x :: .int i :: .ref a :: st) := by
  obtain ⟨n, f, ha, hin, rfl⟩ := astI_spec h
  intro hk1 hk2 H locs ls hP hS hl
  have hBa := (hP.1 a _ ha).2
  refine W.zast X.1.1 X.1.2.1 (hP.1 a _ ha).1 ((X.arr (t := 2) (by decide)).1 n _) (fun q => by cases q) (in_size hin) rfl rfl d fun H1 e z oq => ?_
  refine kk hk1 hk2 H1 _ ls (hP.set hBa ?_ z oq) (hS.put z oq hBa) hl
  show H1[a]? = some (arrV _ _ _)
  rw [e, arrV_store]
  rw [hn, upd_V]
theorem r_aast (X : CX M G cc nL own rm) (t ci : Nat) {r : vw_C} (ht : t < 7) (hc : vwCl[ci]? = some r) (hC : kT t = .object r.1) {a : Nat} {i : Int32} {x : Nat} {g1 : AH} (d : decode cc pc = .ok (.aastore, 1)) (h : astR t ci g a i x = some g1) (kk : WW M G nL Q kc ks g1 (pc + 1) L st) : WW M G nL Q kc ks g pc L (.ref x :: .int i :: .ref a :: st) := by
  obtain ⟨n, f, ha, hin, hx, rfl⟩ := astR_spec h
  obtain ⟨V, hV⟩ := isO_spec hx
  intro hk1 hk2 H locs ls hP hS hl
  have hBa := (hP.1 a _ ha).2
  have h0 : ¬ i < 0 := fun q => hin (Or.inl q)
  obtain ⟨⟨r', hr', cellV, g1, g2, g3, -⟩, -⟩ := hP.1 x _ hV
  have hcls := (X.2.1.1 ci r hc).2
  have hRA := (X.arr ht).2
  rw [hC] at hRA
  obtain ⟨kA, comp, k1, k2, k3, -⟩ := hRA
  have hcomp : comp = G.1.1.1 ci := Option.some.inj (k3.symm.trans hcls.1)
  subst hcomp
  obtain ⟨kC, hkC, -⟩ := hcls.2
  refine W.aast X.1.1 X.1.2.1 (hP.1 a _ ha).1 (fun q h => by cases h) (fun h => by cases h) k1 k2 rfl hkC ⟨h0, by show _ < (arrV _ _ _).slots.size; rw [arrV_size]; exact in_lt hin⟩ g1 (fun q h => by rw [g3] at h; cases h) (by rw [g2]; exact hkC) (by rw [g2]; exact va_assign hcls) rfl rfl d fun H1 e z oq => ?_
  refine kk hk1 hk2 H1 _ ls (hP.set hBa ?_ z oq) (hS.put z oq hBa) hl
  show H1[a]? = some (arrV _ _ _)
  rw [e, arrV_store, upd_VR]
theorem r_alen (X : CX M G cc nL own rm) (t : Nat) (ht : t < 7) {a : Nat} {x : Int32} (d : decode cc pc = .ok (.arraylength, 1)) (h : alen t g a = some x) (kk : WW M G nL Q kc ks g (pc + 1) L (.int x :: st)) : WW M G nL Q kc ks g pc L (.ref a :: st) := by
  obtain ⟨n, f, ha, rfl⟩ := alen_spec h
  intro hk1 hk2 H locs ls hP hS hl
  obtain f | f | f := f
  · exact W.alen X.1.1 X.1.2.1 (hP.1 a _ ha).1 ((X.arr ht).1 n _) (by rw [arrV_size]) rfl rfl d (kk hk1 hk2 H locs ls hP hS hl)
  · exact W.alen X.1.1 X.1.2.1 (hP.1 a _ ha).1 ((X.arr ht).1 n _) (by rw [arrV_size]) rfl rfl d (kk hk1 hk2 H locs ls hP hS hl)
  · exact W.alen X.1.1 X.1.2.1 (hP.1 a _ ha).1 ((X.arr ht).1 n _) (by rw [arrV_size]) rfl rfl d (kk hk1 hk2 H locs ls hP hS hl)
theorem r_new (X : CX M G cc nL own rm) {i ci N : Nat} {C : String} {T : u_T} {ty : Nat → FieldType} {a : Nat} {g1 : AH} (d : decode cc pc = .ok (.new i, 3)) (hc : vwCl[ci]? = some (C, T, N)) (hty : ∀ k, k < N → parseFieldDescriptor (T k).2.2.1 = some (ty k)) (hF : FLc ci) (hcl : Cond.classLink own i C ∈ TBL) (hin : Cond.instantiable C N ∈ TBL ∧ Cond.initialized C ∈ TBL) (hR : kc + 1 ≤ rm.cells ∧ ks + N ≤ rm.slots) (h : newO ci ty g = some (a, g1))
    (kk : WW M G nL Q (kc + 1) (ks + N) g1 (pc + 3) L (.ref a :: st)) : WW M G nL Q kc ks g pc L st := by
  intro hk1 hk2 H locs ls hP hS hl
  unfold newO at h
  cases hz : g.2 with
  | none => rw [hz] at h; cases h
  | some n =>
    rw [hz] at h
    cases h
    obtain ⟨hinw, -, -⟩ := hF C T N hc
    have hKn := X.2.1.1 ci _ hc
    have hB : G.2.1 ≤ H.size := Nat.le_trans X.2.2.1 hS.1
    refine W.newcK X.1.1 X.1.2.1 X.1.2.2.2.1 (X.w hcl) (X.w hin.1) (X.w hin.2) rfl d (by rw [X.2.2.2.2.2]; exact hR.1) (by rw [X.2.2.2.2.2]; exact hR.2) hKn.2.1 rfl fun H1 kC hkC e1 z1 o1 => ?_
    obtain ⟨en, hP1⟩ := hP.push (e := .inl (ci, fun k => defaultValue (ty k))) hz hB ⟨_, hc, u_born ty X.1.2.2.2.2 hinw hKn hkC e1 hty⟩ z1 o1
    subst en
    exact kk (by rw [X.2.2.2.2.2]; exact hR.1) (by rw [X.2.2.2.2.2]; exact hR.2) H1 locs ls hP1 ⟨Nat.le_trans hS.1 (by omega), fun x h1 h2 => (o1 x (Nat.lt_of_lt_of_le h1 hS.1)).trans (hS.2.1 x h1 h2), hS.2.2⟩ hl
theorem newA_spec {t : Nat} {c : (Nat → Int32) ⊕ (Nat → Int64) ⊕ (Nat → Option Nat)} {g g1 : AH} {n : Int32} {a : Nat} (h : newA t c g n = some (a, g1)) : g.2 = some a ∧ ¬ n < 0 ∧ n.toNatClampNeg ≤ 65536 ∧ g1 = hnew g a (.inr (t, n.toNatClampNeg, c)) := by
  unfold newA at h
  cases hz : g.2 with
  | none => rw [hz] at h; cases h
  | some q =>
    rw [hz] at h
    dsimp only at h
    by_cases h1 : n < 0 ∨ 65536 < n.toNatClampNeg
    · rw [if_pos h1] at h; cases h
    · rw [if_neg h1] at h
      cases h
      exact ⟨rfl, fun q => h1 (Or.inl q), Nat.not_lt.mp fun q => h1 (Or.inr q), rfl⟩
theorem r_newarr (X : CX M G cc nL own rm) {atype : ArrayType} (t : Nat) {c : (Nat → Int32) ⊕ (Nat → Int64) ⊕ (Nat → Option Nat)} {n : Int32} {a : Nat} {g1 : AH} (N : Nat) (d : decode cc pc = .ok (.newarray atype, 2)) (ht : t < 4) (hty : newarray.typeOf atype = kT t) (hw : Cond.arrayClass (newarray.typeOf atype) ∈ TBL) (hca : ∀ (cA : ClassId) (N : Nat), hA G a (.inr (t, N, c)) = fun H => H[a]? = some (arrV (G.1.2 t) N (fun _ => defaultValue (kT t)))) (hb : componentBytes (newarray.typeOf atype) ≤ 8) (hn : n.toNatClampNeg ≤ N) (hR : kc + 1 ≤ rm.cells ∧ ks + N ≤ rm.slots) (h : newA t c g n = some (a, g1))
    (kk : WW M G nL Q (kc + 1) (ks + N) g1 (pc + 2) L (.ref a :: st)) : WW M G nL Q kc ks g pc L (.int n :: st) := by
  obtain ⟨hz, h0, h1, rfl⟩ := newA_spec h
  intro hk1 hk2 H locs ls hP hS hl
  have hB : G.2.1 ≤ H.size := Nat.le_trans X.2.2.1 hS.1
  have en : H.size = a := hP.2 a hz
  subst en
  refine va_newaK X.1.1 X.1.2.1 (X.w hw) rfl d rfl h0 rfl (Nat.le_trans (Nat.mul_le_mul h1 hb) (by decide)) (by rw [X.2.2.2.2.2]; exact hR.1) (by rw [X.2.2.2.2.2]; exact Nat.le_trans (Nat.add_le_add_left hn ks) hR.2) rfl fun H1 cA e1 z1 o1 hAr hNm => ?_
  have hcA : cA = G.1.2 t := by
    have h2 := (X.arr (t := t) (by omega)).2
    rw [← hty] at h2
    have h3 : (mS M).vm.findClass ("[" ++ (newarray.typeOf atype).toString) = some (G.1.2 t) := by
      cases atype <;> exact h2
    exact Option.some.inj (hNm.symm.trans h3)
  subst hcA
  obtain ⟨-, hP1⟩ := hP.push hz hB (e := .inr (t, n.toNatClampNeg, c)) (by rw [hca (G.1.2 t) n.toNatClampNeg, ← hty]; exact e1) z1 o1
  exact W.widen (Nat.le_refl _) (Nat.add_le_add_left hn ks) (kk (by rw [X.2.2.2.2.2]; exact hR.1) (by rw [X.2.2.2.2.2]; exact hR.2) H1 locs ls hP1 ⟨Nat.le_trans hS.1 (by omega), fun x h1 h2 => (o1 x (Nat.lt_of_lt_of_le h1 hS.1)).trans (hS.2.1 x h1 h2), hS.2.2⟩ hl)
theorem r_anew (X : CX M G cc nL own rm) {i : Nat} (t : Nat) {C : String} {n : Int32} {a : Nat} {g1 : AH} (N : Nat) (d : decode cc pc = .ok (.anewarray i, 3)) (ht : t < 7) (hC : kT t = .object C) (hcl : Cond.classLink own i C ∈ TBL) (hover : va_AO C (mS M)) (hn : n.toNatClampNeg ≤ N) (hR : kc + 1 ≤ rm.cells ∧ ks + N ≤ rm.slots) (h : newA t (.inr (.inr (fun _ => none))) g n = some (a, g1))
    (kk : WW M G nL Q (kc + 1) (ks + N) g1 (pc + 3) L (.ref a :: st)) : WW M G nL Q kc ks g pc L (.int n :: st) := by
  obtain ⟨hz, h0, h1, rfl⟩ := newA_spec h
  intro hk1 hk2 H locs ls hP hS hl
  have hB : G.2.1 ≤ H.size := Nat.le_trans X.2.2.1 hS.1
  have en : H.size = a := hP.2 a hz
  subst en
  refine W.anew X.1.1 X.1.2.1 X.1.2.2.2.1 (X.w hcl) (va_AO.use hover) rfl d rfl h0 (Nat.le_trans (Nat.mul_le_mul_right 4 h1) (by decide)) (by rw [X.2.2.2.2.2]; exact hR.1) (by rw [X.2.2.2.2.2]; exact Nat.le_trans (Nat.add_le_add_left hn ks) hR.2) fun cA kA comp f1 f2 f3 f4 => ?_
  have hRA := (X.arr ht).2
  rw [hC] at hRA
  obtain ⟨kA', comp', k1, k2, k3, k4⟩ := hRA
  have hcA : cA = G.1.2 t := Option.some.inj (f1.symm.trans k4)
  subst hcA
  generalize hH1 : H.push ({ cls := G.1.2 t, slots := Array.replicate n.toNatClampNeg .null, vm := .none } : Cell) = H1
  have z1 : H1.size = H.size + 1 := by rw [← hH1, Array.size_push]
  have e1 : H1[H.size]? = some (arrV (G.1.2 t) n.toNatClampNeg (fun _ => .null)) := by rw [← hH1, Array.getElem?_push_size, ← arrV_new]
  have o1 : ∀ q : Nat, q < H.size → H1[q]? = H[q]? := fun q hq => by rw [← hH1, Array.getElem?_push, if_neg (Nat.ne_of_lt hq)]
  obtain ⟨-, hP1⟩ := hP.push hz hB (e := .inr (t, n.toNatClampNeg, .inr (.inr (fun _ => none)))) e1 z1 o1
  exact W.widen (Nat.le_refl _) (Nat.add_le_add_left hn ks) (kk (by rw [X.2.2.2.2.2]; exact hR.1) (by rw [X.2.2.2.2.2]; exact hR.2) H1 locs ls hP1 ⟨Nat.le_trans hS.1 (by omega), fun x h1 h2 => (o1 x (Nat.lt_of_lt_of_le h1 hS.1)).trans (hS.2.1 x h1 h2), hS.2.2⟩ hl)
theorem r_objInit (X : CX M G cc nL own rm) {i a : Nat} (d : decode cc pc = .ok (.invokespecial i, 3)) (hm : Cond.methodLink own i Lib.objectInit ∈ TBL) (hR1 : 1 ≤ rm.frames) (hR2 : (st.map fun v => v.category).sum + 12 ≤ rm.locals) (kk : WW M G nL Q kc ks g (pc + 3) L st) : WW M G nL Q kc ks g pc L (.ref a :: st) := by
  intro hk1 hk2 H locs ls hP hS hl
  refine W.objInit X.1.1 X.1.2.1 X.1.2.2.2.1 (X.w hm) (X.w o_init.1) (X.w o_init.2) rfl (by rw [X.1.2.2.1]; exact hl.1) rfl d (by rw [X.2.2.2.2.2]; exact hR1) (by rw [X.2.2.2.2.2]; show 2 * 0 + _ + 12 ≤ _; omega) ?_
  exact W.eq (g2 := F0 (mI M) (pc + 3) ls st) rfl (kk hk1 hk2 H locs ls hP hS hl)
theorem r_min (X : CX M G cc nL own rm) {i : Nat} {x y : Int32} (d : decode cc pc = .ok (.invokestatic i, 3)) (hm : Cond.methodLink own i Lib.Math.min.name ∈ TBL) (hR1 : 1 ≤ rm.frames) (hR2 : (st.map fun v => v.category).sum + 13 ≤ rm.locals) (kk : WW M G nL Q kc ks g (pc + 3) L (.int (if y < x then y else x) :: st)) : WW M G nL Q kc ks g pc L (.int y :: .int x :: st) := fun hk1 hk2 H locs ls hP hS hl =>
  va_mmin X.1.1 X.1.2.1 (X.1.2.2.1.trans hl.1.symm) X.1.2.2.2.1 (X.w hm) (X.w z_min.1) (X.w z_min.2.1) (X.w z_min.2.2) (by rw [X.2.2.2.2.2]; exact hR1) (by rw [X.2.2.2.2.2]; exact hR2) hk1 hk2 d (kk hk1 hk2 H locs ls hP hS hl)
theorem r_max (X : CX M G cc nL own rm) {i : Nat} {x y : Int32} (d : decode cc pc = .ok (.invokestatic i, 3)) (hm : Cond.methodLink own i Lib.Math.max.name ∈ TBL) (hR1 : 1 ≤ rm.frames) (hR2 : (st.map fun v => v.category).sum + 13 ≤ rm.locals) (kk : WW M G nL Q kc ks g (pc + 3) L (.int (if x < y then y else x) :: st)) : WW M G nL Q kc ks g pc L (.int y :: .int x :: st) := fun hk1 hk2 H locs ls hP hS hl =>
  va_mmax X.1.1 X.1.2.1 (X.1.2.2.1.trans hl.1.symm) X.1.2.2.2.1 (X.w hm) (X.w z_max.1) (X.w z_max.2.1) (X.w z_max.2.2) (by rw [X.2.2.2.2.2]; exact hR1) (by rw [X.2.2.2.2.2]; exact hR2) hk1 hk2 d (kk hk1 hk2 H locs ls hP hS hl)
theorem r_abs (X : CX M G cc nL own rm) {i : Nat} {x : Int32} (d : decode cc pc = .ok (.invokestatic i, 3)) (hm : Cond.methodLink own i Lib.Math.abs.name ∈ TBL) (hR1 : 1 ≤ rm.frames) (hR2 : (st.map fun v => v.category).sum + 13 ≤ rm.locals) (kk : WW M G nL Q kc ks g (pc + 3) L (.int (if 0 ≤ x then x else 0 - x) :: st)) : WW M G nL Q kc ks g pc L (.int x :: st) := fun hk1 hk2 H locs ls hP hS hl =>
  va_mabs X.1.1 X.1.2.1 (X.1.2.2.1.trans hl.1.symm) X.1.2.2.2.1 (X.w hm) (X.w z_abs.1) (X.w z_abs.2.1) (X.w z_abs.2.2) (by rw [X.2.2.2.2.2]; exact hR1) (by rw [X.2.2.2.2.2]; exact hR2) hk1 hk2 d (kk hk1 hk2 H locs ls hP hS hl)
end RowsH
