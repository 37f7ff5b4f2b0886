/-! THE CORE: the heap as a function of addresses; one judgement WW over it; a row an instruction. -/
abbrev hE : Type := (Nat × (Nat → Value)) ⊕ (Nat × Nat × ((Nat → Int32) ⊕ (Nat → Int64) ⊕ (Nat → Option Nat)))
abbrev AH : Type := (Nat → Option hE) × Option Nat
abbrev GG : Type := (va_G × (Nat → ClassId)) × Nat × (Nat → Nat) × (Nat → Nat) × Nat × (Nat → Int32)
def kT : Nat → FieldType := fun k => match k with
  | 0 => .int
  | 1 => .byte
  | 2 => .boolean
  | 3 => .int
  | 4 => .object RX1
  | 5 => .object RX3
  | _ => .object "java/lang/Object"
abbrev tysG (G : GG) : List (ClassId × FieldType) := [(G.1.2 0, kT 0), (G.1.2 1, kT 1), (G.1.2 2, kT 2), (G.1.2 3, kT 3), (G.1.2 4, kT 4), (G.1.2 5, kT 5), (G.1.2 6, kT 6)]
theorem tysG_at (G : GG) {k : Nat} (h : k < 7) : (tysG G)[k]? = some (G.1.2 k, kT k) := by
  match k, h with
  | 0, _ => rfl
  | 1, _ => rfl
  | 2, _ => rfl
  | 3, _ => rfl
  | 4, _ => rfl
  | 5, _ => rfl
  | 6, _ => rfl
abbrev gA (G : GG) : Nat → Prop := fun q => G.2.1 ≤ q
def hA (G : GG) (a : Nat) (e : hE) (H : Heap) : Prop := match e with
  | .inl o => ∃ r : vw_C, vwCl[o.1]? = some r ∧ t_OB a (G.1.1.1 o.1) r.2.2 (G.1.1.2 o.1) H o.2
  | .inr (k, n, .inl f) => H[a]? = some (arrV (G.1.2 k) n (fun j => .int (f j)))
  | .inr (k, n, .inr (.inl f)) => H[a]? = some (arrV (G.1.2 k) n (fun j => .long (f j)))
  | .inr (k, n, .inr (.inr f)) => H[a]? = some (arrV (G.1.2 k) n (fun j => va_rf (f j)))
theorem hA.kept {G : GG} {a : Nat} {e : hE} {H H1 : Heap} (h : hA G a e H) (hq : H1[a]? = H[a]?) : hA G a e H1 := by
  match e, h with
  | .inl o, ⟨r, h1, h2⟩ => exact ⟨r, h1, h2.kept hq⟩
  | .inr (k, n, .inl f), h => exact hq.trans h
  | .inr (k, n, .inr (.inl f)), h => exact hq.trans h
  | .inr (k, n, .inr (.inr f)), h => exact hq.trans h
theorem hA.lt {G : GG} {a : Nat} {e : hE} {H : Heap} (h : hA G a e H) : a < H.size := by
  match e, h with
  | .inl o, h =>
    obtain ⟨r, h1, c9, h2, -⟩ := h
    exact (Array.getElem?_eq_some_iff.mp h2).1
  | .inr (k, n, .inl f), h => exact (Array.getElem?_eq_some_iff.mp h).1
  | .inr (k, n, .inr (.inl f)), h => exact (Array.getElem?_eq_some_iff.mp h).1
  | .inr (k, n, .inr (.inr f)), h => exact (Array.getElem?_eq_some_iff.mp h).1
/-- the heap holds the picture -/
def Pic (G : GG) (g : AH) (H : Heap) : Prop := (∀ (a : Nat) (e : hE), g.1 a = some e → hA G a e H ∧ G.2.1 ≤ a) ∧ ∀ n : Nat, g.2 = some n → H.size = n
def hset (g : AH) (a : Nat) (e : hE) : AH := (fun q => if q = a then some e else g.1 q, g.2)
def hnew (g : AH) (n : Nat) (e : hE) : AH := (fun q => if q = n then some e else g.1 q, some (n + 1))
def hcut (g : AH) : AH := (g.1, none)
theorem Pic.set {G : GG} {g : AH} {H H1 : Heap} {a : Nat} {e : hE} (h : Pic G g H) (hB : G.2.1 ≤ a) (he : hA G a e H1) (hz : H1.size = H.size) (ho : ∀ q : Nat, q ≠ a → H1[q]? = H[q]?) : Pic G (hset g a e) H1 := by
  refine ⟨fun b e' hb => ?_, fun n hn => hz.trans (h.2 n hn)⟩
  show hA G b e' H1 ∧ _
  by_cases hq : b = a
  · subst hq
    have h1 : (if b = b then some e else g.1 b) = some e' := hb
    rw [if_pos rfl] at h1
    cases h1
    exact ⟨he, hB⟩
  · have h1 : (if b = a then some e else g.1 b) = some e' := hb
    rw [if_neg hq] at h1
    exact ⟨(h.1 b e' h1).1.kept (ho b hq), (h.1 b e' h1).2⟩
theorem Pic.push {G : GG} {g : AH} {H H1 : Heap} {e : hE} {n : Nat} (h : Pic G g H) (hn : g.2 = some n) (hB : G.2.1 ≤ H.size) (he : hA G H.size e H1) (hz : H1.size = H.size + 1) (ho : ∀ q : Nat, q < H.size → H1[q]? = H[q]?) : n = H.size ∧ Pic G (hnew g n e) H1 := by
  have e0 : H.size = n := h.2 n hn
  subst e0
  refine ⟨rfl, fun b e' hb => ?_, fun k hk => ?_⟩
  · by_cases hq : b = H.size
    · subst hq
      have h1 : (if H.size = H.size then some e else g.1 H.size) = some e' := hb
      rw [if_pos rfl] at h1
      cases h1
      exact ⟨he, hB⟩
    · have h1 : (if b = H.size then some e else g.1 b) = some e' := hb
      rw [if_neg hq] at h1
      exact ⟨(h.1 b e' h1).1.kept (ho b (h.1 b e' h1).1.lt), (h.1 b e' h1).2⟩
  · cases hk
    exact hz
theorem Pic.cut {G : GG} {g : AH} {H H1 : Heap} (h : Pic G g H) (ho : ∀ q : Nat, q < H.size → H1[q]? = H[q]?) : Pic G (hcut g) H1 :=
  ⟨fun b e hb => ⟨(h.1 b e hb).1.kept (ho b (h.1 b e hb).1.lt), (h.1 b e hb).2⟩, fun n hn => by cases hn⟩
/-! what the programs' functions are made of -/
def gb {α β : Type} (o : Option α) (f : α → Option β) : Option β := match o with
  | none => none
  | some a => f a
def cb {α β : Type} (o : Option (α × AH)) (f : α → AH → Option β) : Option β := match o with
  | none => none
  | some a => f a.1 a.2
theorem gb_some {α β : Type} {o : Option α} {f : α → Option β} {r : β} (h : gb o f = some r) : ∃ a, o = some a ∧ f a = some r := by
  cases o with
  | none => cases h
  | some a => exact ⟨a, rfl, h⟩
theorem cb_some {α β : Type} {o : Option (α × AH)} {f : α → AH → Option β} {r : β} (h : cb o f = some r) : ∃ (a : α) (g : AH), o = some (a, g) ∧ f a g = some r := by
  match o, h with
  | some (a, g), h => exact ⟨a, g, rfl, h⟩
def isO (ci : Nat) (g : AH) (a : Nat) : Option Unit := match g.1 a with
  | some (.inl o) => if o.1 = ci then some () else none
  | _ => none
def getI (ci : Nat) (g : AH) (a k : Nat) : Option Int32 := match g.1 a with
  | some (.inl o) => if o.1 = ci then (match o.2 k with
    | .int x => some x
    | _ => none) else none
  | _ => none
def getR (ci : Nat) (g : AH) (a k : Nat) : Option Nat := match g.1 a with
  | some (.inl o) => if o.1 = ci then (match o.2 k with
    | .ref x => some x
    | _ => none) else none
  | _ => none
def putV (ci : Nat) (g : AH) (a k : Nat) (v : Value) : Option AH := match g.1 a with
  | some (.inl o) => if o.1 = ci then some (hset g a (.inl (ci, updV o.2 k v))) else none
  | _ => none
abbrev outI (i : Int32) (n : Nat) : Prop := i < 0 ∨ n ≤ i.toNatClampNeg
def aldI (t : Nat) (g : AH) (a : Nat) (i : Int32) : Option Int32 := match g.1 a with
  | some (.inr (k, n, .inl f)) => if k = t then (if outI i n then none else some (f i.toNatClampNeg)) else none
  | _ => none
def astI (t : Nat) (g : AH) (a : Nat) (i x : Int32) : Option AH := match g.1 a with
  | some (.inr (k, n, .inl f)) => if k = t then (if outI i n then none else some (hset g a (.inr (t, n, .inl (upd f i.toNatClampNeg x))))) else none
  | _ => none
def aldL (g : AH) (a : Nat) (i : Int32) : Option Int64 := match g.1 a with
  | some (.inr (k, n, .inr (.inl f))) => if k = 3 then (if outI i n then none else some (f i.toNatClampNeg)) else none
  | _ => none
def astL (g : AH) (a : Nat) (i : Int32) (x : Int64) : Option AH := match g.1 a with
  | some (.inr (k, n, .inr (.inl f))) => if k = 3 then (if outI i n then none else some (hset g a (.inr (3, n, .inr (.inl (vp_updL f i.toNatClampNeg x)))))) else none
  | _ => none
def aldR (t : Nat) (g : AH) (a : Nat) (i : Int32) : Option Nat := match g.1 a with
  | some (.inr (k, n, .inr (.inr f))) => if k = t then (if outI i n then none else f i.toNatClampNeg) else none
  | _ => none
def astR (t ci : Nat) (g : AH) (a : Nat) (i : Int32) (x : Nat) : Option AH := match g.1 a with
  | some (.inr (k, n, .inr (.inr f))) => if k = t then (if outI i n then none else gb (isO ci g x) fun _ => some (hset g a (.inr (t, n, .inr (.inr (va_up f i.toNatClampNeg (some x))))))) else none
  | _ => none
def alen (t : Nat) (g : AH) (a : Nat) : Option Int32 := match g.1 a with
  | some (.inr (k, n, _)) => if k = t then some (Int32.ofNat n) else none
  | _ => none
/-- System.arraycopy between two rows of ints -/
def acpy (g : AH) (a : Nat) (i : Int32) (b : Nat) (j n : Int32) : Option AH := match g.1 a, g.1 b with
  | some (.inr (k, n0, .inl f)), some (.inr (k1, n1, .inl f1)) => if k = 0 ∧ k1 = 0 ∧ ¬ i < 0 ∧ ¬ j < 0 ∧ ¬ n < 0 ∧ i.toNatClampNeg + n.toNatClampNeg ≤ n0 ∧ j.toNatClampNeg + n.toNatClampNeg ≤ n1 then some (hset g b (.inr (0, n1, .inl (va_cpy f f1 i.toNatClampNeg j.toNatClampNeg n.toNatClampNeg)))) else none
  | _, _ => none
/-- what a new object's fields hold, by its class -/
def dfl (ty : FieldType) : Value := defaultValue ty
def newO (ci : Nat) (ty : Nat → FieldType) (g : AH) : Option (Nat × AH) := match g.2 with
  | some n => some (n, hnew g n (.inl (ci, fun k => defaultValue (ty k))))
  | none => none
/-- a new array of kind t -/
def newA (t : Nat) (c : (Nat → Int32) ⊕ (Nat → Int64) ⊕ (Nat → Option Nat)) (g : AH) (n : Int32) : Option (Nat × AH) := match g.2 with
  | some q => if n < 0 ∨ 65536 < n.toNatClampNeg then none else some (q, hnew g q (.inr (t, n.toNatClampNeg, c)))
  | none => none
def loopX {σ τ : Type} (body : σ → AH → Option ((σ ⊕ τ) × AH)) : Nat → σ → AH → Option (τ × AH)
  | 0, _, _ => none
  | n + 1, s, g => match body s g with
    | none => none
    | some (.inl s1, g1) => loopX body n s1 g1
    | some (.inr t, g1) => some (t, g1)
theorem loop_cps {σ τ : Type} {body : σ → AH → Option ((σ ⊕ τ) × AH)} {K : τ → AH → Prop} (P : Nat → σ → AH → Prop)
    (hb : ∀ (n : Nat) (s : σ) (g : AH) (st : σ ⊕ τ) (g1 : AH), body s g = some (st, g1) → (∀ s1, st = .inl s1 → P n s1 g1) → (∀ t, st = .inr t → K t g1) → P (n + 1) s g) :
    ∀ (n : Nat) (s : σ) (g : AH) (t : τ) (g1 : AH), loopX body n s g = some (t, g1) → K t g1 → P n s g := by
  intro n
  induction n with
  | zero => intro s g t g1 h; cases h
  | succ n ih =>
    intro s g t g1 h hK
    rw [loopX] at h
    cases hbd : body s g with
    | none => rw [hbd] at h; cases h
    | some q =>
      obtain ⟨st, g2⟩ := q
      rw [hbd] at h
      cases st with
      | inl s1 =>
        refine hb n s g (.inl s1) g2 hbd (fun s2 e => ?_) (fun t2 e => by cases e)
        cases e
        exact ih s1 g2 t g1 h hK
      | inr t1 =>
        have h2 : (t1, g2) = (t, g1) := Option.some.inj h
        cases h2
        exact hb n s g (.inr _) _ hbd (fun s2 e => by cases e) (fun t2 e => by cases e; exact hK)
/-! the machine's side -/
abbrev MC : Type := Program × Launch × Env × Room × State × MethodId × Array Value × List Frame × Method × Code
abbrev mS (M : MC) : State := M.2.2.2.2.1
abbrev mI (M : MC) : MethodId := M.2.2.2.2.2.1
abbrev mA (M : MC) : Array Value := M.2.2.2.2.2.2.1
abbrev mB (M : MC) : List Frame := M.2.2.2.2.2.2.2.1
abbrev mM (M : MC) : Method := M.2.2.2.2.2.2.2.2.1
abbrev mC (M : MC) : Code := M.2.2.2.2.2.2.2.2.2
def WW (M : MC) (G : GG) (nL : Nat) (Q : State → Prop) (kc ks : Nat) (g : AH) (pc : Nat) (L : List (Nat × Value)) (st : List Value) : Prop :=
  kc ≤ M.2.2.2.1.cells → ks ≤ M.2.2.2.1.slots → ∀ (H : Heap) (locs : List Loc) (ls : Array Slot), Pic G g H → va_S (gA G) (mS M).heap H locs → lv_has ls nL L →
    W M.1 M.2.1 M.2.2.1 M.2.2.2.1 (mS M) (mI M) (mA M) (mB M) (mM M) (mC M) H locs kc ks Q (F0 (mI M) pc ls st)
