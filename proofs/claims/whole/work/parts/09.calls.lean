section CV
variable {p : Program} {l : Launch} {e : Env} {R : Room} {s : State} {m : MethodId} {args : Array Value} {below : List Frame} {meth : Method} {c : Code} {Q : State → Prop} {base : Nat} {D : va_G} {cy : Nat → ClassId} {own : String} {cc : ByteArray} {nL : Nat} {ret : Option FieldType} {nm : String} {pc : Nat} {lv lv' : List (Option LV)} {st : List LV} {A : AH} {k n : Nat}
def catS : List LV → Nat
  | [] => 0
  | v :: vs => (if isJ (some v) then 2 else 1) + catS vs
theorem catS_eq : ∀ vs : List LV, ((vs.map toV).map fun v => v.category).sum = catS vs
  | [] => rfl
  | v :: vs => by
    show (toV v).category + ((vs.map toV).map fun v => v.category).sum = _
    rw [catS_eq vs, toV_cat]
    rfl
theorem slS_eq : ∀ vs : List LV, (lg_sl (vs.map toV)).length = catS vs
  | [] => rfl
  | v :: vs => by
    have h : lg_sl (toV v :: vs.map toV) = (if (toV v).category = 2 then [.val (toV v), .second] else [.val (toV v)]) ++ lg_sl (vs.map toV) := rfl
    rw [List.map_cons, h, List.length_append, slS_eq vs, toV_cat]
    by_cases hj : isJ (some v) = true
    · simp [hj, catS]
    · simp [hj, catS]
def fdef (ci j : Nat) : Value := if ft ci j = 0 then .int 0 else if ft ci j = 1 then .long 0 else .null
theorem v_new (E : EN p s m args meth c D cy own cc nL ret nm) {ci idx : Nat} {C : String} {T : u_T} {N : Nat} (tyT : Nat → FieldType) (hc : vwCl[ci]? = some (C, T, N)) (hin : ∀ w ∈ u_ws C T N, w ∈ lw_g) (htyT : ∀ j, j < N → parseFieldDescriptor (T j).2.2.1 = some (tyT j)) (hN : nF ci = N) (hcl : Cond.classLink own idx C ∈ lw_g) (hins : Cond.instantiable C N ∈ lw_g) (hini : Cond.initialized C ∈ lw_g) (hdef : ∀ j, j < N → defaultValue (tyT j) = fdef ci j) (hci : ci ≤ 12) (hk1 : k + 1 ≤ R.cells) (hn1 : n + N ≤ R.slots) (hd : decode cc pc = .ok (.new idx, 3))
    (kk : V p l e R s m args below meth c Q base D cy nL (pc + 3) lv (vR (some (Hs A)) :: st) (nw A (ci + 1) 0) (k + 1) (n + N)) : V p l e R s m args below meth c Q base D cy nL pc lv st A k n := by
  intro H locs ls hW hF hL
  obtain ⟨hex, hb, -, hown, hts, hK, -⟩ := E
  have hKn := hK.1 ci _ hc
  refine W.newcK hex hb hown (hts _ hcl) (hts _ hins) (hts _ hini) rfl hd hk1 hn1 hKn.2.1 hW.1 fun H1 kC hkC e1 z1 o1 => ?_
  have hk0 : Hk (nw A (ci + 1) 0) (Hs A) = ci + 1 := if_pos rfl
  refine kk H1 locs ls (hW.new z1 (fun q hq => o1 q hq) ⟨fun _ => ?_, fun q => ?_, fun q => ?_⟩) (hF.new o1 hW.2.2.2.1) hL
  · rw [hk0, Nat.add_sub_cancel, hN]
    refine (u_born tyT hts hin hKn hkC e1 htyT).to (fun j hj => ?_)
    have h0 := hW.2.2.1 (Hs A) (Nat.le_refl _) (32 * ci + j)
    rw [hdef j hj]
    show fdef ci j = if ft ci j = 0 then Value.int (Hi A (32 * ci + j) (Hs A)) else if ft ci j = 1 then Value.long (Hj A (32 * ci + j) (Hs A)) else va_rf (Hr A (32 * ci + j) (Hs A))
    rw [h0.1, h0.2.1, h0.2.2.1]
    rfl
  · rw [hk0] at q; omega
  · rw [hk0] at q; omega
theorem v_newi (E : EN p s m args meth c D cy own cc nL ret nm) {i : Int32} {bd : Nat} {A' : AH} (harr : Cond.arrayClass .int ∈ lw_g) (e1 : nA A 14 i bd = some A') (hk1 : k + 1 ≤ R.cells) (hn1 : n + bd ≤ R.slots) (hbd : bd ≤ 100000) (hd : decode cc pc = .ok (.newarray .int, 2)) (kk : V p l e R s m args below meth c Q base D cy nL (pc + 2) lv (vR (some (Hs A)) :: st) A' (k + 1) (n + bd)) : V p l e R s m args below meth c Q base D cy nL pc lv (vI i :: st) A k n := by
  unfold nA at e1
  split at e1
  · rename_i ha
    cases e1
    intro H locs ls hW hF hL
    obtain ⟨hex, hb, -, hown, hts, hK, -⟩ := E
    refine va_newaK (atype := .int) hex hb (hts _ harr) rfl hd rfl ha.1 rfl (by show i.toNatClampNeg * 4 ≤ _; have := ha.2; omega) hk1 (by have := ha.2; omega) hW.1 fun H' cA g1 z o1 hAr hNm => ?_
    have hcy : cA = cy 14 := Option.some.inj (hNm.symm.trans (hK.2 0 _ rfl).2)
    subst hcy
    have hk0 : Hk (nw A 14 i.toNatClampNeg) (Hs A) = 14 := if_pos rfl
    refine W.widen (Nat.le_refl _) (by have := ha.2; omega) (kk H' locs ls (hW.new z o1 ⟨fun q => ?_, fun _ => ?_, fun q => ?_⟩) (hF.new o1 hW.2.2.2.1) hL)
    · rw [hk0] at q; omega
    · rw [hk0, g1, show Hn (nw A 14 i.toNatClampNeg) (Hs A) = i.toNatClampNeg from if_pos rfl]
      congr 2
      funext j
      show Value.int 0 = Value.int (He A (Hs A) j)
      rw [(hW.2.2.1 (Hs A) (Nat.le_refl _) j).2.2.2.1]
    · rw [hk0] at q; omega
  · cases e1
theorem v_newz (E : EN p s m args meth c D cy own cc nL ret nm) {i : Int32} {bd : Nat} {A' : AH} (harr : Cond.arrayClass .boolean ∈ lw_g) (e1 : nA A 15 i bd = some A') (hk1 : k + 1 ≤ R.cells) (hn1 : n + bd ≤ R.slots) (hbd : bd ≤ 100000) (hd : decode cc pc = .ok (.newarray .boolean, 2)) (kk : V p l e R s m args below meth c Q base D cy nL (pc + 2) lv (vR (some (Hs A)) :: st) A' (k + 1) (n + bd)) : V p l e R s m args below meth c Q base D cy nL pc lv (vI i :: st) A k n := by
  unfold nA at e1
  split at e1
  · rename_i ha
    cases e1
    intro H locs ls hW hF hL
    obtain ⟨hex, hb, -, hown, hts, hK, -⟩ := E
    refine va_newaK (atype := .boolean) hex hb (hts _ harr) rfl hd rfl ha.1 rfl (by show i.toNatClampNeg * 1 ≤ _; have := ha.2; omega) hk1 (by have := ha.2; omega) hW.1 fun H' cA g1 z o1 hAr hNm => ?_
    have hcy : cA = cy 15 := Option.some.inj (hNm.symm.trans (hK.2 1 _ rfl).2)
    subst hcy
    have hk0 : Hk (nw A 15 i.toNatClampNeg) (Hs A) = 15 := if_pos rfl
    refine W.widen (Nat.le_refl _) (by have := ha.2; omega) (kk H' locs ls (hW.new z o1 ⟨fun q => ?_, fun _ => ?_, fun q => ?_⟩) (hF.new o1 hW.2.2.2.1) hL)
    · rw [hk0] at q; omega
    · rw [hk0, g1, show Hn (nw A 15 i.toNatClampNeg) (Hs A) = i.toNatClampNeg from if_pos rfl]
      congr 2
      funext j
      show Value.int 0 = Value.int (He A (Hs A) j)
      rw [(hW.2.2.1 (Hs A) (Nat.le_refl _) j).2.2.2.1]
    · rw [hk0] at q; omega
  · cases e1
theorem v_newr (E : EN p s m args meth c D cy own cc nL ret nm) {kd t0 idx : Nat} {C : String} (hkd : 16 ≤ kd) (ht : (tyl cy)[t0]? = some (cy kd, .object C)) (hAO : va_AO C s) (hcl : Cond.classLink own idx C ∈ lw_g) {i : Int32} {bd : Nat} {A' : AH} (e1 : nA A kd i bd = some A') (hk1 : k + 1 ≤ R.cells) (hn1 : n + bd ≤ R.slots) (hbd : bd ≤ 100000) (hd : decode cc pc = .ok (.anewarray idx, 3)) (kk : V p l e R s m args below meth c Q base D cy nL (pc + 3) lv (vR (some (Hs A)) :: st) A' (k + 1) (n + bd)) : V p l e R s m args below meth c Q base D cy nL pc lv (vI i :: st) A k n := by
  unfold nA at e1
  split at e1
  · rename_i ha
    cases e1
    intro H locs ls hW hF hL
    obtain ⟨hex, hb, -, hown, hts, hK, -⟩ := E
    refine W.anew hex hb hown (hts _ hcl) (va_AO.use hAO) rfl hd rfl ha.1 (by have := ha.2; omega) hk1 (by have := ha.2; omega) fun cA kA comp f1 f2 f3 f4 => ?_
    have hcy : cA = cy kd := by
      obtain ⟨_, _, -, -, -, h4⟩ := (hK.2 t0 _ ht).2
      exact Option.some.inj (f1.symm.trans h4)
    subst hcy
    generalize hH1 : H.push ({ cls := cy kd, slots := Array.replicate i.toNatClampNeg .null, vm := .none } : Cell) = H1
    have z1 : H1.size = Hs A + 1 := by rw [← hH1, Array.size_push, hW.1]
    have g1 : H1[Hs A]? = some (arrV (cy kd) i.toNatClampNeg (fun _ => .null)) := by rw [← hH1, ← hW.1, Array.getElem?_push_size, ← arrV_new]
    have o1 : ∀ q : Nat, q < Hs A → H1[q]? = H[q]? := fun q hq => by rw [← hH1, Array.getElem?_push, if_neg (by rw [hW.1]; exact Nat.ne_of_lt hq)]
    have hk0 : Hk (nw A kd i.toNatClampNeg) (Hs A) = kd := if_pos rfl
    have key := W.widen (k := k + 1) (n := n + bd) (Nat.le_refl _) (by have := ha.2; omega) (kk H1 locs ls (hW.new z1 o1 ⟨fun q => by rw [hk0] at q; omega, fun q => by rw [hk0] at q; omega, fun _ => by
      rw [hk0, g1, show Hn (nw A kd i.toNatClampNeg) (Hs A) = i.toNatClampNeg from if_pos rfl]
      congr 2
      funext j
      show Value.null = va_rf (Hq A (Hs A) j)
      rw [(hW.2.2.1 (Hs A) (Nat.le_refl _) j).2.2.2.2]
      rfl⟩) (hF.new o1 hW.2.2.2.1) hL) (cells := k + 1) (slots := n + i.toNatClampNeg)
    rw [hW.1]
    exact key
  · cases e1
/-! returns -/
theorem v_iret {x : Int32} (E : EN p s m args meth c D cy own cc nL (some .int) nm) (hd : decode cc pc = .ok (.ireturn, 1)) : V p l e R s m args below meth c (MQ below (Qd base D cy (some (vI x)) A) args s k n (fun q => base ≤ q)) base D cy nL pc lv [vI x] A k n := by
  intro H locs ls hW hF hL
  exact W.iret E.1 E.2.1 E.2.2.2.2.2.2.2.1 (fun t ht hw => ⟨rfl, by rw [ht]; exact hW, fun q hq => by rw [ht]; exact hF.1 q hq⟩) hF.2 hd E.2.2.2.2.2.2.2.2.1
theorem v_zret {x : Int32} (E : EN p s m args meth c D cy own cc nL (some .boolean) nm) (hz : x = 0 ∨ x = 1) (hd : decode cc pc = .ok (.ireturn, 1)) : V p l e R s m args below meth c (MQ below (Qd base D cy (some (vI x)) A) args s k n (fun q => base ≤ q)) base D cy nL pc lv [vI x] A k n := by
  intro H locs ls hW hF hL
  exact W.zret E.1 E.2.1 E.2.2.2.2.2.2.2.1 (by rcases hz with q | q <;> rw [q] <;> rfl) (fun t ht hw => ⟨rfl, by rw [ht]; exact hW, fun q hq => by rw [ht]; exact hF.1 q hq⟩) hF.2 hd E.2.2.2.2.2.2.2.2.1
theorem v_lret {x : Int64} (E : EN p s m args meth c D cy own cc nL (some .long) nm) (hd : decode cc pc = .ok (.lreturn, 1)) : V p l e R s m args below meth c (MQ below (Qd base D cy (some (vJ x)) A) args s k n (fun q => base ≤ q)) base D cy nL pc lv [vJ x] A k n := by
  intro H locs ls hW hF hL
  exact W.lret E.1 E.2.1 E.2.2.2.2.2.2.2.1 (fun t ht hw => ⟨rfl, by rw [ht]; exact hW, fun q hq => by rw [ht]; exact hF.1 q hq⟩) hF.2 hd E.2.2.2.2.2.2.2.2.1
theorem v_aret {x : Option Nat} {C : String} (E : EN p s m args meth c D cy own cc nL (some (.object C)) nm) (hd : decode cc pc = .ok (.areturn, 1)) : V p l e R s m args below meth c (MQ below (Qd base D cy (some (vR x)) A) args s k n (fun q => base ≤ q)) base D cy nL pc lv [vR x] A k n := by
  intro H locs ls hW hF hL
  exact W.aret (v := va_rf x) E.1 E.2.1 E.2.2.2.2.2.2.2.1 (Or.inl ⟨_, rfl⟩) (by cases x with
    | none => exact Or.inl rfl
    | some a => exact Or.inr ⟨a, rfl⟩) (fun t ht hw => ⟨rfl, by rw [ht]; exact hW, fun q hq => by rw [ht]; exact hF.1 q hq⟩) hF.2 hd E.2.2.2.2.2.2.2.2.1
theorem v_vret (E : EN p s m args meth c D cy own cc nL none nm) (hd : decode cc pc = .ok (.return_, 1)) : V p l e R s m args below meth c (MQ below (Qd base D cy none A) args s k n (fun q => base ≤ q)) base D cy nL pc lv [] A k n := by
  intro H locs ls hW hF hL
  exact W.vret E.1 E.2.1 E.2.2.2.2.2.2.2.1 (fun t ht hw => ⟨rfl, by rw [ht]; exact hW, fun q hq => by rw [ht]; exact hF.1 q hq⟩) hF.2 hd E.2.2.2.2.2.2.2.2.1
/-! Object's constructor -/
theorem v_objInit (E : EN p s m args meth c D cy own cc nL ret nm) {idx : Nat} {o : Option Nat} (hlink : Cond.methodLink own idx Lib.objectInit ∈ lw_g) (hinst : Cond.instanceMethod Lib.objectInit ∈ lw_g) (hcode : Cond.code Lib.objectInit ⟨#[0xb1]⟩ 1 none ∈ lw_g) (ho : ∃ a, o = some a) (hd : decode cc pc = .ok (.invokespecial idx, 3)) (hfr : 1 ≤ R.frames) (hlo : catS st + 12 ≤ R.locals) (kk : V p l e R s m args below meth c Q base D cy nL (pc + 3) lv st A k n) : V p l e R s m args below meth c Q base D cy nL pc lv (vR o :: st) A k n := by
  intro H locs ls hW hF hL
  obtain ⟨a, rfl⟩ := ho
  exact W.objInit E.1 E.2.1 E.2.2.2.1 (E.2.2.2.2.1 _ hlink) (E.2.2.2.2.1 _ hinst) (E.2.2.2.2.1 _ hcode) rfl (hL.1.trans E.2.2.1.symm) rfl hd hfr (by show 2 * 0 + _ + 12 ≤ _; rw [catS_eq]; omega) (kk H locs ls hW hF hL)
/-! calls -/
theorem Wd.pre {Ah : AH} {H : Heap} (hK : va_K D vwCl (tyl cy) s) (hN : NW s) (hW : WH base D cy Ah H) (U : State) (hU : U.heap = H) (hw : s.WarmedH U.vm) : Wd base D cy Ah U := ⟨va_K.moved hw.alike hK, hN.warm hw, by rw [hU]; exact hW⟩
theorem Wd.blind {as : List Value} {Ah : AH} : FrameBlind (va_Pc as (Wd base D cy Ah)) := fun a U g mk q => ⟨q.1, va_K.moved (u := U) (U := U.calling g mk a) (Vm.Alike.refl U.vm) q.2.1, q.2.2.1.same rfl, q.2.2.2⟩
theorem v_run {st0 rest : List LV} {v : Option LV} {mc ms : Nat} {A1 : AH} {ar : Array Value} (hrun : ∀ (H : Heap) (locs : List Loc) (ls : Array Slot), WH base D cy A H → FS base s.heap H locs → LH ls nL lv → va_Run p l e R s m args below meth c H locs k n mc ms (F0 m pc ls (st0.map toV)) (rest.map toV) (Qd base D cy v A1 ar) (fun q => base ≤ q))
    (kk : V p l e R s m args below meth c Q base D cy nL (pc + 3) lv (v.toList ++ rest) A1 (k + mc) (n + ms)) : V p l e R s m args below meth c Q base D cy nL pc lv st0 A k n := by
  intro H locs ls hW hF hL T hT X
  obtain ⟨v', st₀, t, T', L, h0, X', hLf, e1, e2, ⟨hv, hW1, hk1⟩, st⟩ := hrun H locs ls hW hF hL T hT X
  cases hv
  obtain ⟨t2, a1, b1⟩ := kk T'.heap (locs ++ L) ls (by rw [e1]; exact hW1) ⟨fun q hq => by rw [e1, hk1 q hq, h0]; exact hF.1 q hq, fun q hq => by
    rcases List.mem_append.mp hq with h | h
    · exact hF.2 q h
    · exact hLf q h⟩ hL T' rfl X'
  refine ⟨t2, st t2 ?_, b1⟩
  cases v with
  | none => exact a1
  | some x => exact a1
theorem gV {idx mL : Nat} {y : MethodName} {C : String} {b : ByteArray} {r : Option FieldType} (h1 : Cond.methodLink own idx y ∈ lw_g) (h2 : Cond.instanceMethod y ∈ lw_g) (h3 : Cond.selects C y y ∈ lw_g) (h4 : Cond.initialized C ∈ lw_g) (h5 : Cond.code y b mL r ∈ lw_g) : GoodIn lw_g (wsV own idx C y (Cond.code y b mL r :: lw_g)) := by
  intro w hw
  have hm : w ∈ lw_g := by
    unfold wsV at hw
    rcases List.mem_append.mp hw with hw | hw
    · simp only [List.mem_cons, List.not_mem_nil, or_false] at hw
      rcases hw with rfl | rfl | rfl | rfl
      · exact h1
      · exact h2
      · exact h3
      · exact h4
    · rcases List.mem_cons.mp hw with rfl | hw
      · exact h5
      · exact hw
  exact lw_gg w hm
theorem gC {mL : Nat} {y : MethodName} {b : ByteArray} {r : Option FieldType} (h5 : Cond.code y b mL r ∈ lw_g) : GoodIn lw_g (Cond.code y b mL r :: lw_g) := by
  intro w hw
  rcases List.mem_cons.mp hw with rfl | hw
  · exact lw_gg _ h5
  · exact lw_gg w hw
theorem gS {idx mL : Nat} {y : MethodName} {b : ByteArray} {r : Option FieldType} (h1 : Cond.methodLink own idx y ∈ lw_g) (h2 : Cond.static y ∈ lw_g) (h3 : Cond.initialized y.cls ∈ lw_g) (h5 : Cond.code y b mL r ∈ lw_g) : GoodIn lw_g (va_wsS own idx y (Cond.code y b mL r :: lw_g)) := by
  intro w hw
  have hm : w ∈ lw_g := by
    unfold va_wsS at hw
    rcases List.mem_append.mp hw with hw | hw
    · simp only [List.mem_cons, List.not_mem_nil, or_false] at hw
      rcases hw with rfl | rfl | rfl
      · exact h1
      · exact h2
      · exact h3
    · rcases List.mem_cons.mp hw with rfl | hw
      · exact h5
      · exact hw
  exact lw_gg w hm
/-- the words of y's descriptor -/
def okD (y : MethodName) (na : Nat) : Bool := decide (y.cls ≠ "java/lang/invoke/MethodHandle") && decide (y.cls ≠ "java/lang/invoke/VarHandle") && decide ((parseMethodDescriptor y.desc).map (fun d => d.parameters.length) = some na)
theorem okD.use {y : MethodName} {na : Nat} (h : okD y na = true) : y.cls ≠ "java/lang/invoke/MethodHandle" ∧ y.cls ≠ "java/lang/invoke/VarHandle" ∧ (parseMethodDescriptor y.desc).map (fun d => d.parameters.length) = some na := by
  unfold okD at h
  simp only [Bool.and_eq_true, decide_eq_true_eq] at h
  exact ⟨h.1.1, h.1.2, h.2⟩
theorem v_callV (E : EN p s m args meth c D cy own cc nL ret nm) {idx mL fr lo mc ms ci na : Nat} {y : MethodName} {b : ByteArray} {r : Option FieldType} {q : vw_C} {As rest : List LV} {o : Option Nat} {v : Option LV} {A1 : AH} (hG : GoodIn lw_g (wsV own idx q.1 y (Cond.code y b mL r :: lw_g))) (hok : okD y na = true) (hy : y.cls = q.1) (hc : vwCl[ci]? = some q) (hci : ci ≤ 12) (hC : Cn l y b mL r fr lo mc ms (vR o :: As) A v A1) (ho : ∃ a, o = some a ∧ Hk A a = ci + 1) (hna : As.length = na) (hst : st = As.reverse ++ vR o :: rest) (hd : decode cc pc = .ok (.invokevirtual idx, 3)) (hR : fr + 1 ≤ R.frames ∧ 8 + (mL + 11) + lo ≤ R.locals) (hcs : k + mc ≤ R.cells ∧ n + ms ≤ R.slots) (hcat : catS rest ≤ 8)
    (kk : V p l e R s m args below meth c Q base D cy nL (pc + 3) lv (v.toList ++ rest) A1 (k + mc) (n + ms)) : V p l e R s m args below meth c Q base D cy nL pc lv st A k n := by
  obtain ⟨a, rfl, ha⟩ := ho
  subst hst
  obtain ⟨hex, hb, hml, hown, hts, hK, hNw, -⟩ := E
  refine v_run (v := v) (A1 := A1) (rest := rest) (ar := (Value.ref a :: As.map toV).toArray) (fun H locs ls hW hF hL => ?_) kk
  obtain ⟨cell, q1, q2, q3, -⟩ := hW.ob ha hci
  refine va_runV (As := As.map toV) (rest := rest.map toV) (b := a) ⟨hex, hb, hml, hown, hts⟩ (hC base D cy) (cwV na hts hG rfl rfl rfl ⟨hy, (okD.use hok)⟩ hR) ⟨Wd.blind, ⟨cell, q1, by rw [q3]; rfl, by rw [q2]; exact (hK.1 ci q hc).2.1⟩, fun U hU hw => ⟨rfl, Wd.pre hK hNw hW U hU hw⟩⟩ rfl (by rw [List.length_map]; exact hna) hL.1 ?_ (lv_room (by rw [catS_eq]; exact hcat)) hd hcs
  show (As.reverse ++ vR (some a) :: rest).map toV = (As.map toV).reverse ++ .ref a :: rest.map toV
  rw [List.map_append, List.map_reverse]
  rfl
theorem v_callS (E : EN p s m args meth c D cy own cc nL ret nm) {idx mL fr lo mc ms na : Nat} {y : MethodName} {b : ByteArray} {r : Option FieldType} {As rest : List LV} {v : Option LV} {A1 : AH} (hG : GoodIn lw_g (va_wsS own idx y (Cond.code y b mL r :: lw_g))) (hok : okD y na = true) (hC : Cn l y b mL r fr lo mc ms As A v A1) (hna : As.length = na) (hst : st = As.reverse ++ rest) (hd : decode cc pc = .ok (.invokestatic idx, 3)) (hR : fr + 1 ≤ R.frames ∧ 8 + (mL + 11) + lo ≤ R.locals) (hcs : k + mc ≤ R.cells ∧ n + ms ≤ R.slots) (hcat : catS rest ≤ 8)
    (kk : V p l e R s m args below meth c Q base D cy nL (pc + 3) lv (v.toList ++ rest) A1 (k + mc) (n + ms)) : V p l e R s m args below meth c Q base D cy nL pc lv st A k n := by
  subst hst
  obtain ⟨hex, hb, hml, hown, hts, hK, hNw, -⟩ := E
  refine v_run (v := v) (A1 := A1) (rest := rest) (ar := (As.map toV).toArray) (fun H locs ls hW hF hL => ?_) kk
  refine va_runS (As := As.map toV) (rest := rest.map toV) ⟨hex, hb, hml, hown, hts⟩ (hC base D cy) (va_cwS na hts hG rfl rfl rfl (okD.use hok) hR) ⟨Wd.blind, fun U hU hw => ⟨rfl, Wd.pre hK hNw hW U hU hw⟩⟩ rfl (by rw [List.length_map]; exact hna) hL.1 ?_ (lv_room (by rw [catS_eq]; exact hcat)) hd hcs
  show (As.reverse ++ rest).map toV = (As.map toV).reverse ++ rest.map toV
  rw [List.map_append, List.map_reverse]
theorem v_callSN (E : EN p s m args meth c D cy own cc nL ret nm) {idx mL fr lo mc ms na : Nat} {y : MethodName} {host : String} {b : ByteArray} {r : Option FieldType} {As rest : List LV} {v : Option LV} {A1 : AH} (hG : GoodIn lw_g (Cond.code y b mL r :: lw_g)) (hl : (own, idx, y, host) ∈ nestW) (hsta : Cond.static y ∈ lw_g) (hini : Cond.initialized y.cls ∈ lw_g) (hok : okD y na = true) (hC : Cn l y b mL r fr lo mc ms As A v A1) (hna : As.length = na) (hst : st = As.reverse ++ rest) (hd : decode cc pc = .ok (.invokestatic idx, 3)) (hR : fr + 1 ≤ R.frames ∧ 8 + (mL + 11) + lo ≤ R.locals) (hcs : k + mc ≤ R.cells ∧ n + ms ≤ R.slots) (hcat : catS rest ≤ 8)
    (kk : V p l e R s m args below meth c Q base D cy nL (pc + 3) lv (v.toList ++ rest) A1 (k + mc) (n + ms)) : V p l e R s m args below meth c Q base D cy nL pc lv st A k n := by
  subst hst
  obtain ⟨hex, hb, hml, hown, hts, hK, hNw, -⟩ := E
  refine v_run (v := v) (A1 := A1) (rest := rest) (ar := (As.map toV).toArray) (fun H locs ls hW hF hL => ?_) kk
  refine va_runSN (As := As.map toV) (rest := rest.map toV) (host := host) ⟨hex, hb, hml, hown, hts⟩ (hC base D cy) ⟨va_cnB na hts hG rfl rfl rfl (hNw.1 _ hl) (hts _ hini) (okD.use hok) hR, hts _ hsta, trivial⟩ ⟨Wd.blind, fun U hU hw => ⟨rfl, Wd.pre hK hNw hW U hU hw⟩⟩ rfl (by rw [List.length_map]; exact hna) hL.1 ?_ (lv_room (by rw [catS_eq]; exact hcat)) hd hcs
  show (As.reverse ++ rest).map toV = (As.map toV).reverse ++ rest.map toV
  rw [List.map_append, List.map_reverse]
theorem v_callI (E : EN p s m args meth c D cy own cc nL ret nm) {idx mL fr lo mc ms na : Nat} {y : MethodName} {b : ByteArray} {As rest : List LV} {o : Option Nat} {v : Option LV} {A1 : AH} (hG : GoodIn lw_g (Cond.code y b mL none :: lw_g)) (hl : Cond.methodLink own idx y ∈ lw_g) (hinst : Cond.instanceMethod y ∈ lw_g) (hini : Cond.initialized y.cls ∈ lw_g) (hnm : y.name = "<init>") (hok : okD y na = true) (hC : Cn l y b mL none fr lo mc ms (vR o :: As) A v A1) (ho : ∃ a, o = some a) (hna : As.length = na) (hst : st = As.reverse ++ vR o :: rest) (hd : decode cc pc = .ok (.invokespecial idx, 3)) (hR : fr + 1 ≤ R.frames ∧ 8 + (mL + 11) + lo ≤ R.locals) (hcs : k + mc ≤ R.cells ∧ n + ms ≤ R.slots) (hcat : catS rest ≤ 8)
    (kk : V p l e R s m args below meth c Q base D cy nL (pc + 3) lv (v.toList ++ rest) A1 (k + mc) (n + ms)) : V p l e R s m args below meth c Q base D cy nL pc lv st A k n := by
  obtain ⟨a, rfl⟩ := ho
  subst hst
  obtain ⟨hex, hb, hml, hown, hts, hK, hNw, -⟩ := E
  refine v_run (v := v) (A1 := A1) (rest := rest) (ar := (Value.ref a :: As.map toV).toArray) (fun H locs ls hW hF hL => ?_) kk
  refine va_runI (As := As.map toV) (rest := rest.map toV) (b := a) ⟨hex, hb, hml, hown, hts⟩ (hC base D cy) (cwI na hts hG rfl rfl rfl (hts _ hini) (hts _ hl) (hts _ hinst) hnm (okD.use hok) hR) ⟨Wd.blind, fun U hU hw => ⟨rfl, Wd.pre hK hNw hW U hU hw⟩⟩ rfl (by rw [List.length_map]; exact hna) hL.1 ?_ (lv_room (by rw [catS_eq]; exact hcat)) hd hcs
  show (As.reverse ++ vR (some a) :: rest).map toV = (As.map toV).reverse ++ .ref a :: rest.map toV
  rw [List.map_append, List.map_reverse]
  rfl
theorem v_callIN (E : EN p s m args meth c D cy own cc nL ret nm) {idx mL fr lo mc ms na : Nat} {y : MethodName} {host : String} {b : ByteArray} {As rest : List LV} {o : Option Nat} {v : Option LV} {A1 : AH} (hG : GoodIn lw_g (Cond.code y b mL none :: lw_g)) (hl : (own, idx, y, host) ∈ nestW) (hinst : Cond.instanceMethod y ∈ lw_g) (hini : Cond.initialized y.cls ∈ lw_g) (hnm : y.name = "<init>") (hok : okD y na = true) (hC : Cn l y b mL none fr lo mc ms (vR o :: As) A v A1) (ho : ∃ a, o = some a) (hna : As.length = na) (hst : st = As.reverse ++ vR o :: rest) (hd : decode cc pc = .ok (.invokespecial idx, 3)) (hR : fr + 1 ≤ R.frames ∧ 8 + (mL + 11) + lo ≤ R.locals) (hcs : k + mc ≤ R.cells ∧ n + ms ≤ R.slots) (hcat : catS rest ≤ 8)
    (kk : V p l e R s m args below meth c Q base D cy nL (pc + 3) lv (v.toList ++ rest) A1 (k + mc) (n + ms)) : V p l e R s m args below meth c Q base D cy nL pc lv st A k n := by
  obtain ⟨a, rfl⟩ := ho
  subst hst
  obtain ⟨hex, hb, hml, hown, hts, hK, hNw, -⟩ := E
  refine v_run (v := v) (A1 := A1) (rest := rest) (ar := (Value.ref a :: As.map toV).toArray) (fun H locs ls hW hF hL => ?_) kk
  refine va_runIN (As := As.map toV) (rest := rest.map toV) (b := a) (host := host) ⟨hex, hb, hml, hown, hts⟩ (hC base D cy) ⟨va_cnB na hts hG rfl rfl rfl (hNw.1 _ hl) (hts _ hini) (okD.use hok) hR, hnm, hts _ hinst⟩ ⟨Wd.blind, fun U hU hw => ⟨rfl, Wd.pre hK hNw hW U hU hw⟩⟩ rfl (by rw [List.length_map]; exact hna) hL.1 ?_ (lv_room (by rw [catS_eq]; exact hcat)) hd hcs
  show (As.reverse ++ vR (some a) :: rest).map toV = (As.map toV).reverse ++ .ref a :: rest.map toV
  rw [List.map_append, List.map_reverse]
  rfl
end CV
/-- a contract out of a walk of the method's body -/
theorem Cn.of {l : Launch} {y : MethodName} {cc : ByteArray} {nL : Nat} {ret : Option FieldType} {fr lo mc ms : Nat} {as : List LV} {A : AH} {v : Option LV} {A1 : AH} {pad : Nat} {lv0 : List (Option LV)} (hy : plainName y.cls = true) (hlen : catS as ≤ nL) (hlv : ent as ++ List.replicate pad none = lv0)
    (body : ∀ (p : Program) (e : Env) (s : State) (m : MethodId) (below : List Frame) (meth : Method) (c : Code) (base : Nat) (D : va_G) (cy : Nat → ClassId), EN p s m (as.map toV).toArray meth c D cy y.cls cc nL ret y.name → V p l e { frames := fr, cells := mc, slots := ms, locals := lo } s m (as.map toV).toArray below meth c (MQ below (Qd base D cy v A1) (as.map toV).toArray s mc ms (fun q => base ≤ q)) base D cy nL 0 lv0 [] A 0 0) : Cn l y cc nL ret fr lo mc ms as A v A1 := by
  intro base D cy
  refine Met.ofW (cc := cc) (maxL := nL) (ret := ret) hy rfl ?_
  intro p e s m args below meth c s₁ B hml hv
  obtain ⟨rfl, hK, hN, hW⟩ := hv
  have hts := atoms_spec (ws := Cond.code y cc nL ret :: lw_g) B.pre
  have E : EN p s m (as.map toV).toArray meth c D cy y.cls cc nL ret y.name := ⟨B.exec, B.bytes, hml, findClass_of_methodNamed B.named, fun w h => hts w (List.mem_cons_of_mem _ h), hK, hN, B.returns, B.notSynchronized, (name_of_methodNamed B.named B.method).1⟩
  have h := body p e s m below meth c base D cy E s.heap [] _ hW ⟨fun _ _ => rfl, fun _ h => by cases h⟩ (hlv ▸ LH.entry (by rw [slS_eq]; exact hlen) pad)
  rw [lg_entry_eq]
  exact h
def rcv (A : AH) (kd : Nat) (o : Option Nat) : Option Nat := match o with
  | none => none
  | some a => if Hk A a = kd then some a else none
theorem rcv_e {A : AH} {kd a : Nat} {o : Option Nat} (h : rcv A kd o = some a) : o = some a ∧ Hk A a = kd := by
  unfold rcv at h
  split at h
  · cases h
  · split at h
    · rename_i ha
      cases h
      exact ⟨rfl, ha⟩
    · cases h
theorem rz_e {v v' : Int32} (h : rz v = some v') : v' = v ∧ (v = 0 ∨ v = 1) := by
  unfold rz at h
  split at h
  · rename_i hz
    cases h
    exact ⟨rfl, hz⟩
  · cases h
def jp1 {α β : Type} (a : α) (k : α → β) : β := k a
theorem jp_use {α β : Type} {k : α → Option β} {f : (α → Option β) → Option β} {out : β} {P : Prop} (h : jp k f = some out) (hP : ∀ K : α → Option β, K = k → f K = some out → P) : P := hP k rfl h
theorem jp1_use {α β : Type} {k : α → Option β} {a : α} {out : β} {P : Prop} (h : jp1 a k = some out) (hP : ∀ K : α → Option β, K = k → K a = some out → P) : P := hP k rfl h
def sm {T R β : Type} (x : T ⊕ R) (f : T → β) (g : R → β) : β := match x with
  | .inl t => f t
  | .inr r => g r
theorem swi_val {x : Int32} {lo hi : Int} {j : Nat} (h : swi x lo hi = j) (hj : (j : Int) < hi - lo + 1) : x.toInt = lo + j := by
  unfold swi at h
  split at h
  · omega
  · omega
