/-! locals -/
def pr (lv : List (Option LV)) : List (Nat × Value) := (List.range lv.length).filterMap (fun i => match lv[i]? with
  | some (some v) => some (i, toV v)
  | _ => none)
theorem mem_pr {lv : List (Option LV)} {i : Nat} {x : Value} : (i, x) ∈ pr lv ↔ ∃ v, lv[i]? = some (some v) ∧ x = toV v := by
  unfold pr
  rw [List.mem_filterMap]
  constructor
  · rintro ⟨j, hj, h⟩
    split at h
    · rename_i v hv
      cases h
      exact ⟨v, hv, rfl⟩
    · cases h
  · rintro ⟨v, hv, rfl⟩
    refine ⟨i, List.mem_range.mpr (List.getElem?_eq_some_iff.mp hv).1, ?_⟩
    rw [hv]
def LH (ls : Array Slot) (nL : Nat) (lv : List (Option LV)) : Prop := lv_has ls nL (pr lv)
theorem LH.at {ls : Array Slot} {nL : Nat} {lv : List (Option LV)} (h : LH ls nL lv) {i : Nat} {v : LV} (hv : lv[i]? = some (some v)) : ls[i]? = some (.val (toV v)) := h.2.2 (i, toV v) (mem_pr.mpr ⟨v, hv, rfl⟩)
def clr (lv : List (Option LV)) (i : Nat) : List (Option LV) := match i with
  | 0 => lv
  | j + 1 => if isJ (lv.getD j none) then lv.set j none else lv
def st1 (lv : List (Option LV)) (i : Nat) (v : LV) : List (Option LV) := (clr lv i).set i (some v)
def st2 (lv : List (Option LV)) (i : Nat) (v : LV) : List (Option LV) := ((clr lv i).set (i + 1) none).set i (some v)
def dr (lv : List (Option LV)) : List Nat → List (Option LV)
  | [] => lv
  | k :: ks => dr (lv.set k none) ks
theorem set_get {lv : List (Option LV)} {i j : Nat} {x : Option LV} {w : LV} (h : (lv.set i x)[j]? = some (some w)) : (j = i ∧ x = some w) ∨ (j ≠ i ∧ lv[j]? = some (some w)) := by
  rw [List.getElem?_set] at h
  by_cases hij : i = j
  · rw [if_pos hij] at h
    split at h
    · exact Or.inl ⟨hij.symm, Option.some.inj h⟩
    · cases h
  · rw [if_neg hij] at h
    exact Or.inr ⟨fun q => hij q.symm, h⟩
theorem clr_get {lv : List (Option LV)} {i j : Nat} {w : LV} (h : (clr lv i)[j]? = some (some w)) : lv[j]? = some (some w) ∧ ¬ (j + 1 = i ∧ isJ (some w) = true) := by
  cases i with
  | zero => exact ⟨h, by omega⟩
  | succ k =>
    unfold clr at h
    dsimp only at h
    split at h
    · rcases set_get h with ⟨-, h2⟩ | ⟨h1, h2⟩
      · cases h2
      · exact ⟨h2, fun q => h1 (by omega)⟩
    · rename_i hJ
      refine ⟨h, fun q => ?_⟩
      have hjk : j = k := by omega
      subst hjk
      apply hJ
      rw [List.getD_eq_getElem?_getD, h]
      exact q.2
theorem LH.st1 {ls' : Array Slot} {nL : Nat} {lv : List (Option LV)} {i : Nat} {v : LV} (h : lv_has ls' nL ((i, toV v) :: (pr lv).filter (fun q => !(q.1 == i) && !(q.1 + 1 == i && q.2.category == 2)))) : LH ls' nL (st1 lv i v) := by
  refine ⟨h.1, h.2.1, ?_⟩
  rintro ⟨j, x⟩ hq
  obtain ⟨w, hw, rfl⟩ := mem_pr.mp hq
  apply h.2.2 (j, toV w)
  rcases set_get hw with ⟨h1, h2⟩ | ⟨h1, h2⟩
  · subst h1
    cases h2
    exact List.mem_cons_self
  · obtain ⟨h3, h4⟩ := clr_get h2
    refine List.mem_cons_of_mem _ (List.mem_filter.mpr ⟨mem_pr.mpr ⟨w, h3, rfl⟩, ?_⟩)
    have hc := toV_cat w
    by_cases hJ : isJ (some w) = true
    · have : ¬ j + 1 = i := fun q => h4 ⟨q, hJ⟩
      simp [h1, this]
    · rw [if_neg hJ] at hc
      simp [h1, hc]
theorem LH.st2 {ls' : Array Slot} {nL : Nat} {lv : List (Option LV)} {i : Nat} {v : LV} (h : lv_has ls' nL ((i, toV v) :: (pr lv).filter (fun q => !(q.1 == i) && (!(q.1 == i + 1) && !(q.1 + 1 == i && q.2.category == 2))))) : LH ls' nL (st2 lv i v) := by
  refine ⟨h.1, h.2.1, ?_⟩
  rintro ⟨j, x⟩ hq
  obtain ⟨w, hw, rfl⟩ := mem_pr.mp hq
  apply h.2.2 (j, toV w)
  rcases set_get hw with ⟨h1, h2⟩ | ⟨h1, h2⟩
  · subst h1
    cases h2
    exact List.mem_cons_self
  · rcases set_get h2 with ⟨-, h5⟩ | ⟨h5, h2⟩
    · cases h5
    obtain ⟨h3, h4⟩ := clr_get h2
    refine List.mem_cons_of_mem _ (List.mem_filter.mpr ⟨mem_pr.mpr ⟨w, h3, rfl⟩, ?_⟩)
    have hc := toV_cat w
    by_cases hJ : isJ (some w) = true
    · have : ¬ j + 1 = i := fun q => h4 ⟨q, hJ⟩
      simp [h1, h5, this]
    · rw [if_neg hJ] at hc
      simp [h1, h5, hc]
theorem dr_get : ∀ {ks : List Nat} {lv : List (Option LV)} {j : Nat} {w : LV}, (dr lv ks)[j]? = some (some w) → lv[j]? = some (some w)
  | [], _, _, _, h => h
  | k :: ks, lv, j, w, h => by
    rcases set_get (dr_get (ks := ks) h) with ⟨-, h2⟩ | ⟨-, h2⟩
    · cases h2
    · exact h2
theorem LH.dr {ls : Array Slot} {nL : Nat} {lv : List (Option LV)} (h : LH ls nL lv) (ks : List Nat) : LH ls nL (dr lv ks) := by
  refine ⟨h.1, h.2.1, ?_⟩
  rintro ⟨j, x⟩ hq
  obtain ⟨w, hw, rfl⟩ := mem_pr.mp hq
  exact h.at (dr_get hw)
/-- locals at a method's entry -/
def ent : List LV → List (Option LV)
  | [] => []
  | v :: vs => if isJ (some v) then some v :: none :: ent vs else some v :: ent vs
theorem ent_args : ∀ (vs : List LV) (i j : Nat) (w : LV), (ent vs)[j]? = some (some w) → (i + j, toV w) ∈ lv_args i (vs.map toV)
  | [], i, j, w, h => by simp [ent] at h
  | v :: vs, i, j, w, h => by
    have hc := toV_cat v
    unfold ent at h
    by_cases hJ : isJ (some v) = true
    · rw [if_pos hJ] at h hc
      show _ ∈ lv_args i (toV v :: vs.map toV)
      unfold lv_args
      cases j with
      | zero => cases h; exact List.mem_cons_self
      | succ j =>
        cases j with
        | zero => cases h
        | succ j =>
          have := ent_args vs (i + 2) j w (by simpa using h)
          rw [show i + 2 + j = i + (j + 1 + 1) by omega] at this
          exact List.mem_cons_of_mem _ (by simpa [hc] using this)
    · rw [if_neg hJ] at h hc
      show _ ∈ lv_args i (toV v :: vs.map toV)
      unfold lv_args
      cases j with
      | zero => cases h; exact List.mem_cons_self
      | succ j =>
        have := ent_args vs (i + 1) j w (by simpa using h)
        rw [show i + 1 + j = i + (j + 1) by omega] at this
        exact List.mem_cons_of_mem _ (by simpa [hc] using this)
theorem pad_get {lv : List (Option LV)} {n j : Nat} {w : LV} (h : (lv ++ List.replicate n none)[j]? = some (some w)) : lv[j]? = some (some w) := by
  rw [List.getElem?_append] at h
  split at h
  · exact h
  · rw [List.getElem?_replicate] at h
    split at h <;> cases h
theorem LH.entry {vs : List LV} {n : Nat} (h : (lg_sl (vs.map toV)).length ≤ n) (k : Nat) : LH ((lg_sl (vs.map toV) ++ List.replicate (n - (lg_sl (vs.map toV)).length) Slot.unset).toArray) n (ent vs ++ List.replicate k none) := by
  have hl := lv_entry (vs.map toV) (n := n) h
  refine ⟨hl.1, hl.2.1, ?_⟩
  rintro ⟨j, x⟩ hq
  obtain ⟨w, hw, rfl⟩ := mem_pr.mp hq
  have := ent_args vs 0 j w (pad_get hw)
  rw [Nat.zero_add] at this
  exact hl.2.2 _ this
/-! the heap -/
def nF (ci : Nat) : Nat := ([3, 2, 1, 8, 3, 3, 3, 14, 2, 3, 3, 8, 20] : List Nat).getD ci 0
def ftT : List (List Nat) := [[2, 2, 0], [2, 0], [0], [2, 0, 2, 2, 2, 2, 2, 0], [2, 0, 0], [2, 0, 0], [2, 0, 0], [0, 0, 2, 2, 2, 2, 0, 1, 0, 0, 0, 0, 0, 2], [2, 0], [2, 0, 0], [2, 0, 2], [2, 2, 2, 2, 2, 2, 2, 2], [2, 2, 2, 0, 0, 2, 0, 0, 0, 2, 2, 2, 0, 2, 0, 0, 2, 2, 2, 0]]
def ft (ci k : Nat) : Nat := (ftT.getD ci []).getD k 0
def fv (A : AH) (ci k a : Nat) : Value := if ft ci k = 0 then .int (Hi A (32 * ci + k) a) else if ft ci k = 1 then .long (Hj A (32 * ci + k) a) else va_rf (Hr A (32 * ci + k) a)
def CO (D : va_G) (cy : Nat → ClassId) (A : AH) (a : Nat) (H : Heap) : Prop :=
  (Hk A a ≤ 13 → t_OB a (D.1 (Hk A a - 1)) (nF (Hk A a - 1)) (D.2 (Hk A a - 1)) H (fun k => fv A (Hk A a - 1) k a)) ∧
  (Hk A a = 14 ∨ Hk A a = 15 → H[a]? = some (arrV (cy (Hk A a)) (Hn A a) (fun j => .int (He A a j)))) ∧
  (16 ≤ Hk A a → H[a]? = some (arrV (cy (Hk A a)) (Hn A a) (fun j => va_rf (Hq A a j))))
def WH (base : Nat) (D : va_G) (cy : Nat → ClassId) (A : AH) (H : Heap) : Prop :=
  H.size = Hs A ∧ (∀ a, Hk A a ≠ 0 → base ≤ a ∧ a < Hs A) ∧ (∀ a, Hs A ≤ a → ∀ f, Hi A f a = 0 ∧ Hj A f a = 0 ∧ Hr A f a = none ∧ He A a f = 0 ∧ Hq A a f = none) ∧ base ≤ Hs A ∧ ∀ a, Hk A a ≠ 0 → CO D cy A a H
def FS (base : Nat) (H0 H : Heap) (locs : List Loc) : Prop := (∀ q : Nat, q < base → H[q]? = H0[q]?) ∧ ∀ l ∈ locs, base ≤ l.base
theorem CO.congr {D : va_G} {cy : Nat → ClassId} {A A' : AH} {b : Nat} {H H' : Heap} (h : CO D cy A b H) (e1 : Hk A' b = Hk A b) (e2 : Hn A' b = Hn A b) (e3 : ∀ f, Hi A' f b = Hi A f b ∧ Hj A' f b = Hj A f b ∧ Hr A' f b = Hr A f b ∧ He A' b f = He A b f ∧ Hq A' b f = Hq A b f) (o : H'[b]? = H[b]?) : CO D cy A' b H' := by
  have e4 : ∀ ci k, fv A' ci k b = fv A ci k b := fun ci k => by
    unfold fv
    rw [(e3 _).1, (e3 _).2.1, (e3 _).2.2.1]
  have e5 : He A' b = He A b := funext fun f => (e3 f).2.2.2.1
  have e6 : Hq A' b = Hq A b := funext fun f => (e3 f).2.2.2.2
  unfold CO
  rw [e1, e2, e5, e6, o]
  refine ⟨fun q => ((h.1 q).kept o).to (fun k _ => (e4 _ k).symm), h.2.1, h.2.2⟩
theorem WH.put {base : Nat} {D : va_G} {cy : Nat → ClassId} {A A' : AH} {a : Nat} {H H' : Heap} (h : WH base D cy A H) (e1 : Hk A' = Hk A) (e2 : Hn A' = Hn A) (e0 : Hs A' = Hs A) (e3 : ∀ b, b ≠ a → ∀ f, Hi A' f b = Hi A f b ∧ Hj A' f b = Hj A f b ∧ Hr A' f b = Hr A f b ∧ He A' b f = He A b f ∧ Hq A' b f = Hq A b f)
    (z : H'.size = H.size) (o : ∀ q, q ≠ a → H'[q]? = H[q]?) (ha : Hk A a ≠ 0) (hc : CO D cy A' a H') : WH base D cy A' H' := by
  obtain ⟨h1, h2, h3, h4, h5⟩ := h
  refine ⟨by rw [z, e0]; exact h1, fun b hb => by rw [e0]; exact h2 b (by rw [← e1]; exact hb), fun b hb f => ?_, by rw [e0]; exact h4, fun b hb => ?_⟩
  · rw [e0] at hb
    have hba : b ≠ a := fun q => by
      have := (h2 a ha).2
      omega
    obtain ⟨g1, g2, g3, g4, g5⟩ := e3 b hba f
    rw [g1, g2, g3, g4, g5]
    exact h3 b hb f
  · by_cases hba : b = a
    · subst hba; exact hc
    · exact (h5 b (by rw [← e1]; exact hb)).congr (by rw [e1]) (by rw [e2]) (e3 b hba) (o b hba)
theorem WH.new {base : Nat} {D : va_G} {cy : Nat → ClassId} {A : AH} {kd len : Nat} {H H' : Heap} (h : WH base D cy A H) (z : H'.size = Hs A + 1) (o : ∀ q, q < Hs A → H'[q]? = H[q]?) (hc : CO D cy (nw A kd len) (Hs A) H') : WH base D cy (nw A kd len) H' := by
  obtain ⟨h1, h2, h3, h4, h5⟩ := h
  have ek : ∀ b, b ≠ Hs A → Hk (nw A kd len) b = Hk A b := fun b hb => if_neg hb
  refine ⟨z, fun b hb => ?_, fun b hb f => h3 b (by have : Hs (nw A kd len) = Hs A + 1 := rfl; omega) f, Nat.le_trans h4 (Nat.le_succ _), fun b hb => ?_⟩
  · show base ≤ b ∧ b < Hs A + 1
    by_cases hbs : b = Hs A
    · omega
    · rw [ek b hbs] at hb
      have := h2 b hb
      omega
  · by_cases hbs : b = Hs A
    · rw [hbs]; exact hc
    · have hb' := hb
      rw [ek b hbs] at hb'
      exact (h5 b hb').congr (ek b hbs) (if_neg hbs) (fun f => ⟨rfl, rfl, rfl, rfl, rfl⟩) (o b (h2 b hb').2)
theorem FS.put {base : Nat} {H0 H H' : Heap} {locs : List Loc} {a i : Nat} (h : FS base H0 H locs) (o : ∀ q : Nat, q ≠ a → H'[q]? = H[q]?) (ha : base ≤ a) : FS base H0 H' (locs ++ [⟨a, i⟩]) := by
  refine ⟨fun q hq => (o q (by omega)).trans (h.1 q hq), fun l hl => ?_⟩
  rcases List.mem_append.mp hl with h1 | h1
  · exact h.2 l h1
  · rw [List.mem_singleton.mp h1]; exact ha
theorem FS.new {base : Nat} {H0 H H' : Heap} {locs : List Loc} {n : Nat} (h : FS base H0 H locs) (o : ∀ q : Nat, q < n → H'[q]? = H[q]?) (hb : base ≤ n) : FS base H0 H' locs :=
  ⟨fun q hq => (o q (by omega)).trans (h.1 q hq), h.2⟩
/-- the array classes -/
def tyl (cy : Nat → ClassId) : List (ClassId × FieldType) := [(cy 14, .int), (cy 15, .boolean), (cy 16, .object "OneStrokes$Image"), (cy 17, .object "OneStrokes$Shelf"), (cy 18, .object "OneStrokes$Word")]
def lw_g : List Cond := lw_tbl.filter goodWord
theorem in_g {w : Cond} (h : w ∈ lw_tbl) (hg : goodWord w = true) : w ∈ lw_g := List.mem_filter.mpr ⟨h, hg⟩
theorem lw_gg : GoodIn lw_g lw_g := fun w h => ⟨h, good_of_word (List.mem_filter.mp h).2⟩
def nestW : List (String × Nat × MethodName × String) := [("OneStrokes", 9, ⟨"OneStrokes$Shelf", "<init>", "()V"⟩, "OneStrokes"), ("OneStrokes", 18, ⟨"OneStrokes$Text", "<init>", "()V"⟩, "OneStrokes"), ("OneStrokes", 25, ⟨"OneStrokes$Book", "<init>", "()V"⟩, "OneStrokes"), ("OneStrokes", 32, ⟨"OneStrokes$History", "<init>", "()V"⟩, "OneStrokes"), ("OneStrokes", 39, ⟨"OneStrokes$Image", "<init>", "()V"⟩, "OneStrokes"), ("OneStrokes$Image", 9, ⟨"OneStrokes$Shelf", "<init>", "()V"⟩, "OneStrokes"), ("OneStrokes", 46, ⟨"OneStrokes$Draws", "<init>", "()V"⟩, "OneStrokes"), ("OneStrokes", 53, ⟨"OneStrokes$Draft", "<init>", "()V"⟩, "OneStrokes"), ("OneStrokes", 60, ⟨"OneStrokes$Heaps", "<init>", "()V"⟩, "OneStrokes"), ("OneStrokes$History", 24, ⟨"OneStrokes$Shelf", "<init>", "()V"⟩, "OneStrokes"), ("OneStrokes$Row", 104, ⟨"OneStrokes", "isIn", "(II)Z"⟩, "OneStrokes"), ("OneStrokes$Row", 125, ⟨"OneStrokes", "isEven", "(I)Z"⟩, "OneStrokes"), ("OneStrokes$Faces", 96, ⟨"OneStrokes", "isIn", "(II)Z"⟩, "OneStrokes"), ("OneStrokes$Faces", 116, ⟨"OneStrokes", "isEven", "(I)Z"⟩, "OneStrokes"), ("OneStrokes$Draft", 58, ⟨"OneStrokes", "isIn", "(II)Z"⟩, "OneStrokes")]
def NW (U : State) : Prop := (∀ q ∈ nestW, va_Nw (.methodLinkNest q.1 q.2.1 q.2.2.1 q.2.2.2) U) ∧ va_AO "OneStrokes$Image" U ∧ va_AO "OneStrokes$Shelf" U ∧ va_AO "OneStrokes$Word" U
theorem NW.warm {s U : State} (h : NW s) (hW : s.WarmedH U.vm) : NW U := ⟨fun q hq => (h.1 q hq).warmM hW, h.2.1.moved hW.alike, h.2.2.1.moved hW.alike, h.2.2.2.moved hW.alike⟩
theorem NW.same {s U : State} (h : NW s) (e : s.vm = U.vm) : NW U := ⟨fun q hq => va_Nw.same rfl e (h.1 q hq), h.2.1.moved (by rw [e]; exact Vm.Alike.refl _), h.2.2.1.moved (by rw [e]; exact Vm.Alike.refl _), h.2.2.2.moved (by rw [e]; exact Vm.Alike.refl _)⟩
def Wd (base : Nat) (D : va_G) (cy : Nat → ClassId) (A : AH) (U : State) : Prop := va_K D vwCl (tyl cy) U ∧ NW U ∧ WH base D cy A U.heap
def Qd (base : Nat) (D : va_G) (cy : Nat → ClassId) (v : Option LV) (A1 : AH) : Array Value → State → Outcome → State → Prop := fun _ st oc t =>
  oc = .returned (v.map toV) ∧ WH base D cy A1 t.heap ∧ ∀ q : Nat, q < base → t.heap[q]? = st.heap[q]?
/-- a method's contract at one start: from the heap A with these arguments it answers v and leaves the heap A1 -/
def Cn (l : Launch) (y : MethodName) (cc : ByteArray) (nL : Nat) (ret : Option FieldType) (fr lo mc ms : Nat) (as : List LV) (A : AH) (v : Option LV) (A1 : AH) : Prop :=
  ∀ (base : Nat) (D : va_G) (cy : Nat → ClassId), Met l y (Cond.code y cc nL ret :: lw_g) { frames := fr, cells := mc, slots := ms, locals := lo } (va_Pc (as.map toV) (Wd base D cy A)) (Qd base D cy v A1) mc ms (fun q => base ≤ q)
def EN (p : Program) (s : State) (m : MethodId) (args : Array Value) (meth : Method) (c : Code) (D : va_G) (cy : Nat → ClassId) (own : String) (cc : ByteArray) (nL : Nat) (ret : Option FieldType) (nm : String) : Prop :=
  p.tables.exec = Jvm.exec ∧ c.code = cc ∧ c.maxLocals = nL ∧ s.vm.findClass own = some m.cls ∧ (∀ w ∈ lw_g, w.before args s = true) ∧ va_K D vwCl (tyl cy) s ∧ NW s ∧ meth.sig.returnType = ret ∧ meth.locks = false ∧ meth.name = nm
/-- from here the machine comes to Q -/
def V (p : Program) (l : Launch) (e : Env) (R : Room) (s : State) (m : MethodId) (args : Array Value) (below : List Frame) (meth : Method) (c : Code) (Q : State → Prop) (base : Nat) (D : va_G) (cy : Nat → ClassId) (nL : Nat) (pc : Nat) (lv : List (Option LV)) (st : List LV) (A : AH) (k n : Nat) : Prop :=
  ∀ (H : Heap) (locs : List Loc) (ls : Array Slot), WH base D cy A H → FS base s.heap H locs → LH ls nL lv → W p l e R s m args below meth c H locs k n Q (F0 m pc ls (st.map toV))
