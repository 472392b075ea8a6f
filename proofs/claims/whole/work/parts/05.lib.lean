/-! the abstract machine state: typed values, a heap of typed parts by address -/
abbrev LV : Type := Int32 ⊕ Int64 ⊕ Option Nat
abbrev vI (x : Int32) : LV := .inl x
abbrev vJ (x : Int64) : LV := .inr (.inl x)
abbrev vR (o : Option Nat) : LV := .inr (.inr o)
def toV : LV → Value
  | .inl x => .int x
  | .inr (.inl x) => .long x
  | .inr (.inr o) => va_rf o
def isJ : Option LV → Bool
  | some (.inr (.inl _)) => true
  | _ => false
theorem toV_cat (v : LV) : (toV v).category = if isJ (some v) then 2 else 1 := by
  rcases v with x | x | o
  · rfl
  · rfl
  · cases o <;> rfl
/-- kinds (0: none), int fields, long fields, reference fields (by field number, then address), lengths, int elements, reference elements, size -/
abbrev AH : Type := (Nat → Nat) × (Nat → Nat → Int32) × (Nat → Nat → Int64) × (Nat → Nat → Option Nat) × (Nat → Nat) × (Nat → Nat → Int32) × (Nat → Nat → Option Nat) × Nat
def Hk (A : AH) : Nat → Nat := A.1
def Hi (A : AH) : Nat → Nat → Int32 := A.2.1
def Hj (A : AH) : Nat → Nat → Int64 := A.2.2.1
def Hr (A : AH) : Nat → Nat → Option Nat := A.2.2.2.1
def Hn (A : AH) : Nat → Nat := A.2.2.2.2.1
def He (A : AH) : Nat → Nat → Int32 := A.2.2.2.2.2.1
def Hq (A : AH) : Nat → Nat → Option Nat := A.2.2.2.2.2.2.1
def Hs (A : AH) : Nat := A.2.2.2.2.2.2.2
def up2 {α : Type} (f : Nat → Nat → α) (a b : Nat) (v : α) : Nat → Nat → α := fun x y => if x = a ∧ y = b then v else f x y
def si (A : AH) (f a : Nat) (v : Int32) : AH := (Hk A, up2 (Hi A) f a v, Hj A, Hr A, Hn A, He A, Hq A, Hs A)
def sj (A : AH) (f a : Nat) (v : Int64) : AH := (Hk A, Hi A, up2 (Hj A) f a v, Hr A, Hn A, He A, Hq A, Hs A)
def sr (A : AH) (f a : Nat) (v : Option Nat) : AH := (Hk A, Hi A, Hj A, up2 (Hr A) f a v, Hn A, He A, Hq A, Hs A)
def se (A : AH) (a i : Nat) (v : Int32) : AH := (Hk A, Hi A, Hj A, Hr A, Hn A, up2 (He A) a i v, Hq A, Hs A)
def sq (A : AH) (a i : Nat) (v : Option Nat) : AH := (Hk A, Hi A, Hj A, Hr A, Hn A, He A, up2 (Hq A) a i v, Hs A)
def nw (A : AH) (kd len : Nat) : AH := (fun x => if x = Hs A then kd else Hk A x, Hi A, Hj A, Hr A, fun x => if x = Hs A then len else Hn A x, He A, Hq A, Hs A + 1)
/-! what a step of the program does to it; none: the machine would throw -/
def gI (A : AH) (kd f : Nat) (o : Option Nat) : Option Int32 := match o with
  | none => none
  | some a => if Hk A a = kd then some (Hi A f a) else none
def gJ (A : AH) (kd f : Nat) (o : Option Nat) : Option Int64 := match o with
  | none => none
  | some a => if Hk A a = kd then some (Hj A f a) else none
def gR (A : AH) (kd f : Nat) (o : Option Nat) : Option (Option Nat) := match o with
  | none => none
  | some a => if Hk A a = kd then some (Hr A f a) else none
def pI (A : AH) (kd f : Nat) (o : Option Nat) (v : Int32) : Option AH := match o with
  | none => none
  | some a => if Hk A a = kd then some (si A f a v) else none
def pZ (A : AH) (kd f : Nat) (o : Option Nat) (v : Int32) : Option AH := match o with
  | none => none
  | some a => if Hk A a = kd ∧ (v = 0 ∨ v = 1) then some (si A f a v) else none
def pJ (A : AH) (kd f : Nat) (o : Option Nat) (v : Int64) : Option AH := match o with
  | none => none
  | some a => if Hk A a = kd then some (sj A f a v) else none
def pR (A : AH) (kd f : Nat) (o : Option Nat) (v : Option Nat) : Option AH := match o with
  | none => none
  | some a => if Hk A a = kd then some (sr A f a v) else none
def aI (A : AH) (kd : Nat) (o : Option Nat) (i : Int32) : Option Int32 := match o with
  | none => none
  | some a => if Hk A a = kd ∧ ¬ i < 0 ∧ i.toNatClampNeg < Hn A a then some (He A a i.toNatClampNeg) else none
def aR (A : AH) (kd : Nat) (o : Option Nat) (i : Int32) : Option (Option Nat) := match o with
  | none => none
  | some a => if Hk A a = kd ∧ ¬ i < 0 ∧ i.toNatClampNeg < Hn A a then some (Hq A a i.toNatClampNeg) else none
def sI (A : AH) (kd : Nat) (o : Option Nat) (i : Int32) (v : Int32) : Option AH := match o with
  | none => none
  | some a => if Hk A a = kd ∧ ¬ i < 0 ∧ i.toNatClampNeg < Hn A a then some (se A a i.toNatClampNeg v) else none
def sZ (A : AH) (kd : Nat) (o : Option Nat) (i : Int32) (v : Int32) : Option AH := match o with
  | none => none
  | some a => if Hk A a = kd ∧ ¬ i < 0 ∧ i.toNatClampNeg < Hn A a ∧ (v = 0 ∨ v = 1) then some (se A a i.toNatClampNeg v) else none
def okR (A : AH) (ek : Nat) (v : Option Nat) : Bool := match v with
  | none => true
  | some b => decide (Hk A b = ek)
def sR (A : AH) (kd ek : Nat) (o : Option Nat) (i : Int32) (v : Option Nat) : Option AH := match o with
  | none => none
  | some a => if Hk A a = kd ∧ ¬ i < 0 ∧ i.toNatClampNeg < Hn A a ∧ okR A ek v = true then some (sq A a i.toNatClampNeg v) else none
def aL (A : AH) (kd : Nat) (o : Option Nat) : Option Int32 := match o with
  | none => none
  | some a => if Hk A a = kd then some (Int32.ofNat (Hn A a)) else none
def nA (A : AH) (kd : Nat) (i : Int32) (bd : Nat) : Option AH := if ¬ i < 0 ∧ i.toNatClampNeg ≤ bd then some (nw A kd i.toNatClampNeg) else none
def rz (v : Int32) : Option Int32 := if v = 0 ∨ v = 1 then some v else none
def dvI (x y : Int32) : Option Int32 := if y = 0 then none else some (x / y)
def rmI (x y : Int32) : Option Int32 := if y = 0 then none else some (x - x / y * y)
def rmJ (x y : Int64) : Option Int64 := if y = 0 then none else some (x - x / y * y)
/-! loops -/
def itN {S T : Type} (b : S → Option (S ⊕ T)) : Nat → S → Option T
  | 0, _ => none
  | n + 1, s => match b s with
    | none => none
    | some (.inl s') => itN b n s'
    | some (.inr t) => some t
noncomputable def iter {S T : Type} (b : S → Option (S ⊕ T)) (s : S) : Option T :=
  @dite _ (∃ t n, itN b n s = some t) (Classical.propDecidable _) (fun h => some h.choose) (fun _ => none)
theorem itN_succ {S T : Type} {b : S → Option (S ⊕ T)} : ∀ {n : Nat} {s : S} {t : T}, itN b n s = some t → itN b (n + 1) s = some t
  | 0, _, _, h => by cases h
  | n + 1, s, t, h => by
    unfold itN at h ⊢
    cases hb : b s with
    | none => rw [hb] at h; cases h
    | some x =>
      rw [hb] at h
      cases x with
      | inl s' => exact itN_succ h
      | inr t' => exact h
theorem itN_add {S T : Type} {b : S → Option (S ⊕ T)} {n : Nat} {s : S} {t : T} (h : itN b n s = some t) : ∀ m, itN b (n + m) s = some t
  | 0 => h
  | m + 1 => itN_succ (itN_add h m)
theorem itN_det {S T : Type} {b : S → Option (S ⊕ T)} {n m : Nat} {s : S} {t t' : T} (h : itN b n s = some t) (h' : itN b m s = some t') : t = t' := by
  have h1 := itN_add h m
  have h2 := itN_add h' n
  rw [Nat.add_comm] at h2
  exact Option.some.inj (h1.symm.trans h2)
theorem iter_eq {S T : Type} {b : S → Option (S ⊕ T)} {n : Nat} {s : S} {t : T} (h : itN b n s = some t) : iter b s = some t := by
  have hx : ∃ t n, itN b n s = some t := ⟨t, n, h⟩
  unfold iter
  rw [dif_pos hx]
  obtain ⟨m, hm⟩ := hx.choose_spec
  exact congrArg some (itN_det hm h)
theorem iter_ex {S T : Type} {b : S → Option (S ⊕ T)} {s : S} {t : T} (h : iter b s = some t) : ∃ n, itN b n s = some t := by
  by_cases hx : ∃ t n, itN b n s = some t
  · unfold iter at h
    rw [dif_pos hx] at h
    have := hx.choose_spec
    rw [Option.some.inj h] at this
    exact this
  · unfold iter at h
    rw [dif_neg hx] at h
    cases h
def itM {S T : Type} (Ph : S → Prop) (Pt : T → Prop) : S ⊕ T → Prop
  | .inl s => Ph s
  | .inr t => Pt t
theorem itN_V {S T : Type} {b : S → Option (S ⊕ T)} {Ph : S → Prop} {Pt : T → Prop} (step : ∀ s x, b s = some x → itM Ph Pt x → Ph s) : ∀ {n : Nat} {s : S} {t : T}, itN b n s = some t → Pt t → Ph s
  | 0, _, _, h, _ => by cases h
  | n + 1, s, t, h, ht => by
    unfold itN at h
    cases hb : b s with
    | none => rw [hb] at h; cases h
    | some x =>
      rw [hb] at h
      cases x with
      | inl s' => exact step s _ hb (itN_V step h ht)
      | inr t' => cases h; exact step s _ hb ht
theorem iter_V {S T : Type} {b : S → Option (S ⊕ T)} {Ph : S → Prop} {Pt : T → Prop} {s : S} {t : T} (h : iter b s = some t) (step : ∀ s x, b s = some x → itM Ph Pt x → Ph s) (ht : Pt t) : Ph s := by
  obtain ⟨n, hn⟩ := iter_ex h
  exact itN_V step hn ht
theorem bnd_e {α β : Type} {x : Option α} {f : α → Option β} {y : β} (h : x.bind f = some y) : ∃ a, x = some a ∧ f a = some y := by
  cases x with
  | none => cases h
  | some a => exact ⟨a, rfl, h⟩
/-- a join: what comes behind it is told once -/
def jp {α β : Type} (k : α → β) (f : (α → β) → β) : β := f k
