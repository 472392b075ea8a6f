section RV
variable {p : Program} {l : Launch} {e : Env} {R : Room} {s : State} {m : MethodId} {args : Array Value} {below : List Frame} {meth : Method} {c : Code} {Q : State → Prop} {base : Nat} {D : va_G} {cy : Nat → ClassId} {own : String} {cc : ByteArray} {nL : Nat} {ret : Option FieldType} {nm : String} {pc : Nat} {lv lv' : List (Option LV)} {st : List LV} {A : AH} {k n : Nat}
theorem v_iconst (E : EN p s m args meth c D cy own cc nL ret nm) {z : Int} {v : Int32} (hd : decode cc pc = .ok (.iconst z, 1)) (hv : Int32.ofInt z = v) (kk : V p l e R s m args below meth c Q base D cy nL (pc + 1) lv (vI v :: st) A k n) : V p l e R s m args below meth c Q base D cy nL pc lv (st) A k n :=
  fun H locs ls hW hF hL => lv_iconst E.1 E.2.1 hd hv (kk H locs ls hW hF hL)
theorem v_bipush (E : EN p s m args meth c D cy own cc nL ret nm) {z : Int} {v : Int32} (hd : decode cc pc = .ok (.bipush z, 2)) (hv : (Int8.ofInt z).toInt32 = v) (kk : V p l e R s m args below meth c Q base D cy nL (pc + 2) lv (vI v :: st) A k n) : V p l e R s m args below meth c Q base D cy nL pc lv (st) A k n :=
  fun H locs ls hW hF hL => lv_bipush E.1 E.2.1 hd hv (kk H locs ls hW hF hL)
theorem v_sipush (E : EN p s m args meth c D cy own cc nL ret nm) {z : Int} {v : Int32} (hd : decode cc pc = .ok (.sipush z, 3)) (hv : (Int16.ofInt z).toInt32 = v) (kk : V p l e R s m args below meth c Q base D cy nL (pc + 3) lv (vI v :: st) A k n) : V p l e R s m args below meth c Q base D cy nL pc lv (st) A k n :=
  fun H locs ls hW hF hL => lv_sipush E.1 E.2.1 hd hv (kk H locs ls hW hF hL)
theorem v_lconst (E : EN p s m args meth c D cy own cc nL ret nm) {z : Fin 2} {v : Int64} (hd : decode cc pc = .ok (.lconst z, 1)) (hv : Int64.ofNat (z : Nat) = v) (kk : V p l e R s m args below meth c Q base D cy nL (pc + 1) lv (vJ v :: st) A k n) : V p l e R s m args below meth c Q base D cy nL pc lv (st) A k n :=
  fun H locs ls hW hF hL => lv_lconst E.1 E.2.1 hd hv (kk H locs ls hW hF hL)
theorem v_ldc (E : EN p s m args meth c D cy own cc nL ret nm) {i : Nat} {v : Int32} (hd : decode cc pc = .ok (.ldc i, 2)) (hc : Cond.constant own i v ∈ lw_g) (kk : V p l e R s m args below meth c Q base D cy nL (pc + 2) lv (vI v :: st) A k n) : V p l e R s m args below meth c Q base D cy nL pc lv (st) A k n :=
  fun H locs ls hW hF hL => lv_ldc E.1 E.2.1 E.2.2.2.1 (E.2.2.2.2.1 _ hc) hd (kk H locs ls hW hF hL)
theorem v_ldcw (E : EN p s m args meth c D cy own cc nL ret nm) {i : Nat} {v : Int32} (hd : decode cc pc = .ok (.ldc_w i, 3)) (hc : Cond.constant own i v ∈ lw_g) (kk : V p l e R s m args below meth c Q base D cy nL (pc + 3) lv (vI v :: st) A k n) : V p l e R s m args below meth c Q base D cy nL pc lv (st) A k n :=
  fun H locs ls hW hF hL => lv_ldcw E.1 E.2.1 E.2.2.2.1 (E.2.2.2.2.1 _ hc) hd (kk H locs ls hW hF hL)
theorem v_ldc2 (E : EN p s m args meth c D cy own cc nL ret nm) {i : Nat} {v : Int64} (hd : decode cc pc = .ok (.ldc2_w i, 3)) (hc : Cond.constantLong own i v ∈ lw_g) (kk : V p l e R s m args below meth c Q base D cy nL (pc + 3) lv (vJ v :: st) A k n) : V p l e R s m args below meth c Q base D cy nL pc lv (st) A k n :=
  fun H locs ls hW hF hL => lv_ldc2 E.1 E.2.1 E.2.2.2.1 (E.2.2.2.2.1 _ hc) hd (kk H locs ls hW hF hL)
theorem v_iload_n (E : EN p s m args meth c D cy own cc nL ret nm) {j : Fin 4} {x : Int32} (hd : decode cc pc = .ok (.iload_n j, 1)) (hx : lv[j.val]? = some (some (vI x))) (kk : V p l e R s m args below meth c Q base D cy nL (pc + 1) lv (vI x :: st) A k n) : V p l e R s m args below meth c Q base D cy nL pc lv (st) A k n :=
  fun H locs ls hW hF hL => lv_iload_n E.1 E.2.1 hd rfl (hL.at hx) (kk H locs ls hW hF hL)
theorem v_iload (E : EN p s m args meth c D cy own cc nL ret nm) {j : Nat} {x : Int32} (hd : decode cc pc = .ok (.iload j, 2)) (hx : lv[j]? = some (some (vI x))) (kk : V p l e R s m args below meth c Q base D cy nL (pc + 2) lv (vI x :: st) A k n) : V p l e R s m args below meth c Q base D cy nL pc lv (st) A k n :=
  fun H locs ls hW hF hL => lv_iload E.1 E.2.1 hd (hL.at hx) (kk H locs ls hW hF hL)
theorem v_lload_n (E : EN p s m args meth c D cy own cc nL ret nm) {j : Fin 4} {x : Int64} (hd : decode cc pc = .ok (.lload_n j, 1)) (hx : lv[j.val]? = some (some (vJ x))) (kk : V p l e R s m args below meth c Q base D cy nL (pc + 1) lv (vJ x :: st) A k n) : V p l e R s m args below meth c Q base D cy nL pc lv (st) A k n :=
  fun H locs ls hW hF hL => lv_lload_n E.1 E.2.1 hd rfl (hL.at hx) (kk H locs ls hW hF hL)
theorem v_lload (E : EN p s m args meth c D cy own cc nL ret nm) {j : Nat} {x : Int64} (hd : decode cc pc = .ok (.lload j, 2)) (hx : lv[j]? = some (some (vJ x))) (kk : V p l e R s m args below meth c Q base D cy nL (pc + 2) lv (vJ x :: st) A k n) : V p l e R s m args below meth c Q base D cy nL pc lv (st) A k n :=
  fun H locs ls hW hF hL => lv_lload E.1 E.2.1 hd (hL.at hx) (kk H locs ls hW hF hL)
theorem v_aload_n (E : EN p s m args meth c D cy own cc nL ret nm) {j : Fin 4} {x : Option Nat} (hd : decode cc pc = .ok (.aload_n j, 1)) (hx : lv[j.val]? = some (some (vR x))) (kk : V p l e R s m args below meth c Q base D cy nL (pc + 1) lv (vR x :: st) A k n) : V p l e R s m args below meth c Q base D cy nL pc lv (st) A k n := by
  intro H locs ls hW hF hL
  cases x with
  | none => exact lv_aload_nN E.1 E.2.1 hd rfl (hL.at hx) (kk H locs ls hW hF hL)
  | some a => exact lv_aload_n E.1 E.2.1 hd rfl (hL.at hx) (kk H locs ls hW hF hL)
theorem v_aload (E : EN p s m args meth c D cy own cc nL ret nm) {j : Nat} {x : Option Nat} (hd : decode cc pc = .ok (.aload j, 2)) (hx : lv[j]? = some (some (vR x))) (kk : V p l e R s m args below meth c Q base D cy nL (pc + 2) lv (vR x :: st) A k n) : V p l e R s m args below meth c Q base D cy nL pc lv (st) A k n := by
  intro H locs ls hW hF hL
  cases x with
  | none => exact lv_aloadN E.1 E.2.1 hd (hL.at hx) (kk H locs ls hW hF hL)
  | some a => exact lv_aload E.1 E.2.1 hd (hL.at hx) (kk H locs ls hW hF hL)
theorem v_istore_n (E : EN p s m args meth c D cy own cc nL ret nm) {j : Fin 4} {x : Int32} (hd : decode cc pc = .ok (.istore_n j, 1)) (hn : j.val < nL) (hl : st1 lv j.val (vI x) = lv') (kk : V p l e R s m args below meth c Q base D cy nL (pc + 1) lv' st A k n) : V p l e R s m args below meth c Q base D cy nL pc lv (vI x :: st) A k n := by
  intro H locs ls hW hF hL
  subst hl
  exact lv_istore_n E.1 E.2.1 hd rfl hL hn rfl (fun ls' h' => kk H locs ls' hW hF (LH.st1 (v := vI x) h'))
theorem v_istore (E : EN p s m args meth c D cy own cc nL ret nm) {j : Nat} {x : Int32} (hd : decode cc pc = .ok (.istore j, 2)) (hn : j < nL) (hl : st1 lv j (vI x) = lv') (kk : V p l e R s m args below meth c Q base D cy nL (pc + 2) lv' st A k n) : V p l e R s m args below meth c Q base D cy nL pc lv (vI x :: st) A k n := by
  intro H locs ls hW hF hL
  subst hl
  exact lv_istore E.1 E.2.1 hd hL hn rfl (fun ls' h' => kk H locs ls' hW hF (LH.st1 (v := vI x) h'))
theorem v_lstore_n (E : EN p s m args meth c D cy own cc nL ret nm) {j : Fin 4} {x : Int64} (hd : decode cc pc = .ok (.lstore_n j, 1)) (hn : j.val + 1 < nL) (hl : st2 lv j.val (vJ x) = lv') (kk : V p l e R s m args below meth c Q base D cy nL (pc + 1) lv' st A k n) : V p l e R s m args below meth c Q base D cy nL pc lv (vJ x :: st) A k n := by
  intro H locs ls hW hF hL
  subst hl
  exact lv_lstore_n E.1 E.2.1 hd rfl hL hn rfl (fun ls' h' => kk H locs ls' hW hF (LH.st2 (v := vJ x) h'))
theorem v_lstore (E : EN p s m args meth c D cy own cc nL ret nm) {j : Nat} {x : Int64} (hd : decode cc pc = .ok (.lstore j, 2)) (hn : j + 1 < nL) (hl : st2 lv j (vJ x) = lv') (kk : V p l e R s m args below meth c Q base D cy nL (pc + 2) lv' st A k n) : V p l e R s m args below meth c Q base D cy nL pc lv (vJ x :: st) A k n := by
  intro H locs ls hW hF hL
  subst hl
  exact lv_lstore E.1 E.2.1 hd hL hn rfl (fun ls' h' => kk H locs ls' hW hF (LH.st2 (v := vJ x) h'))
theorem v_astore_n (E : EN p s m args meth c D cy own cc nL ret nm) {j : Fin 4} {x : Option Nat} (hd : decode cc pc = .ok (.astore_n j, 1)) (hn : j.val < nL) (hl : st1 lv j.val (vR x) = lv') (kk : V p l e R s m args below meth c Q base D cy nL (pc + 1) lv' st A k n) : V p l e R s m args below meth c Q base D cy nL pc lv (vR x :: st) A k n := by
  intro H locs ls hW hF hL
  subst hl
  cases x with
  | none => exact lv_astore_nN E.1 E.2.1 hd rfl hL hn rfl (fun ls' h' => kk H locs ls' hW hF (LH.st1 (v := vR none) h'))
  | some a => exact lv_astore_n E.1 E.2.1 hd rfl hL hn rfl (fun ls' h' => kk H locs ls' hW hF (LH.st1 (v := vR (some a)) h'))
theorem v_astore (E : EN p s m args meth c D cy own cc nL ret nm) {j : Nat} {x : Option Nat} (hd : decode cc pc = .ok (.astore j, 2)) (hn : j < nL) (hl : st1 lv j (vR x) = lv') (kk : V p l e R s m args below meth c Q base D cy nL (pc + 2) lv' st A k n) : V p l e R s m args below meth c Q base D cy nL pc lv (vR x :: st) A k n := by
  intro H locs ls hW hF hL
  subst hl
  cases x with
  | none => exact lv_astoreN E.1 E.2.1 hd hL hn rfl (fun ls' h' => kk H locs ls' hW hF (LH.st1 (v := vR none) h'))
  | some a => exact lv_astore E.1 E.2.1 hd hL hn rfl (fun ls' h' => kk H locs ls' hW hF (LH.st1 (v := vR (some a)) h'))
theorem v_iinc (E : EN p s m args meth c D cy own cc nL ret nm) {j : Nat} {z : Int} {x v : Int32} (hd : decode cc pc = .ok (.iinc j z, 3)) (hx : lv[j]? = some (some (vI x))) (hv : x + Int32.ofInt z = v) (hn : j < nL) (hl : st1 lv j (vI v) = lv') (kk : V p l e R s m args below meth c Q base D cy nL (pc + 3) lv' st A k n) : V p l e R s m args below meth c Q base D cy nL pc lv st A k n := by
  intro H locs ls hW hF hL
  subst hl
  obtain ⟨i, hi⟩ := List.getElem?_of_mem (mem_pr.mpr ⟨_, hx, rfl⟩ : (j, toV (vI x)) ∈ pr lv)
  exact lv_iinc E.1 E.2.1 hd hL hi hv hn rfl (fun ls' h' => kk H locs ls' hW hF (LH.st1 (v := vI v) h'))
theorem v_iadd (E : EN p s m args meth c D cy own cc nL ret nm) {x y : Int32} (hd : decode cc pc = .ok (.iadd, 1))  (kk : V p l e R s m args below meth c Q base D cy nL (pc + 1) lv (vI (x + y) :: st) A k n) : V p l e R s m args below meth c Q base D cy nL pc lv (vI y :: vI x :: st) A k n :=
  fun H locs ls hW hF hL => lv_iadd E.1 E.2.1 hd (kk H locs ls hW hF hL)
theorem v_isub (E : EN p s m args meth c D cy own cc nL ret nm) {x y : Int32} (hd : decode cc pc = .ok (.isub, 1))  (kk : V p l e R s m args below meth c Q base D cy nL (pc + 1) lv (vI (x - y) :: st) A k n) : V p l e R s m args below meth c Q base D cy nL pc lv (vI y :: vI x :: st) A k n :=
  fun H locs ls hW hF hL => lv_isub E.1 E.2.1 hd (kk H locs ls hW hF hL)
theorem v_imul (E : EN p s m args meth c D cy own cc nL ret nm) {x y : Int32} (hd : decode cc pc = .ok (.imul, 1))  (kk : V p l e R s m args below meth c Q base D cy nL (pc + 1) lv (vI (x * y) :: st) A k n) : V p l e R s m args below meth c Q base D cy nL pc lv (vI y :: vI x :: st) A k n :=
  fun H locs ls hW hF hL => lv_imul E.1 E.2.1 hd (kk H locs ls hW hF hL)
theorem v_iand (E : EN p s m args meth c D cy own cc nL ret nm) {x y : Int32} (hd : decode cc pc = .ok (.iand, 1))  (kk : V p l e R s m args below meth c Q base D cy nL (pc + 1) lv (vI (x &&& y) :: st) A k n) : V p l e R s m args below meth c Q base D cy nL pc lv (vI y :: vI x :: st) A k n :=
  fun H locs ls hW hF hL => lv_iand E.1 E.2.1 hd (kk H locs ls hW hF hL)
theorem v_ior (E : EN p s m args meth c D cy own cc nL ret nm) {x y : Int32} (hd : decode cc pc = .ok (.ior, 1))  (kk : V p l e R s m args below meth c Q base D cy nL (pc + 1) lv (vI (x ||| y) :: st) A k n) : V p l e R s m args below meth c Q base D cy nL pc lv (vI y :: vI x :: st) A k n :=
  fun H locs ls hW hF hL => lv_ior E.1 E.2.1 hd (kk H locs ls hW hF hL)
theorem v_ixor (E : EN p s m args meth c D cy own cc nL ret nm) {x y : Int32} (hd : decode cc pc = .ok (.ixor, 1))  (kk : V p l e R s m args below meth c Q base D cy nL (pc + 1) lv (vI (x ^^^ y) :: st) A k n) : V p l e R s m args below meth c Q base D cy nL pc lv (vI y :: vI x :: st) A k n :=
  fun H locs ls hW hF hL => lv_ixor E.1 E.2.1 hd (kk H locs ls hW hF hL)
theorem v_ishl (E : EN p s m args meth c D cy own cc nL ret nm) {x y : Int32} (hd : decode cc pc = .ok (.ishl, 1))  (kk : V p l e R s m args below meth c Q base D cy nL (pc + 1) lv (vI (x <<< (y &&& 31)) :: st) A k n) : V p l e R s m args below meth c Q base D cy nL pc lv (vI y :: vI x :: st) A k n :=
  fun H locs ls hW hF hL => lv_ishl E.1 E.2.1 hd (kk H locs ls hW hF hL)
theorem v_ishr (E : EN p s m args meth c D cy own cc nL ret nm) {x y : Int32} (hd : decode cc pc = .ok (.ishr, 1))  (kk : V p l e R s m args below meth c Q base D cy nL (pc + 1) lv (vI (x >>> (y &&& 31)) :: st) A k n) : V p l e R s m args below meth c Q base D cy nL pc lv (vI y :: vI x :: st) A k n :=
  fun H locs ls hW hF hL => lv_ishr E.1 E.2.1 hd (kk H locs ls hW hF hL)
theorem v_iushr (E : EN p s m args meth c D cy own cc nL ret nm) {x y : Int32} (hd : decode cc pc = .ok (.iushr, 1))  (kk : V p l e R s m args below meth c Q base D cy nL (pc + 1) lv (vI ((x.toUInt32 >>> (y.toUInt32 &&& Int32.toUInt32 31)).toInt32) :: st) A k n) : V p l e R s m args below meth c Q base D cy nL pc lv (vI y :: vI x :: st) A k n :=
  fun H locs ls hW hF hL => lv_iushr E.1 E.2.1 hd rfl (kk H locs ls hW hF hL)
theorem v_ladd (E : EN p s m args meth c D cy own cc nL ret nm) {x y : Int64} (hd : decode cc pc = .ok (.ladd, 1))  (kk : V p l e R s m args below meth c Q base D cy nL (pc + 1) lv (vJ (x + y) :: st) A k n) : V p l e R s m args below meth c Q base D cy nL pc lv (vJ y :: vJ x :: st) A k n :=
  fun H locs ls hW hF hL => lv_ladd E.1 E.2.1 hd (kk H locs ls hW hF hL)
theorem v_lmul (E : EN p s m args meth c D cy own cc nL ret nm) {x y : Int64} (hd : decode cc pc = .ok (.lmul, 1))  (kk : V p l e R s m args below meth c Q base D cy nL (pc + 1) lv (vJ (x * y) :: st) A k n) : V p l e R s m args below meth c Q base D cy nL pc lv (vJ y :: vJ x :: st) A k n :=
  fun H locs ls hW hF hL => lv_lmul E.1 E.2.1 hd (kk H locs ls hW hF hL)
theorem v_land (E : EN p s m args meth c D cy own cc nL ret nm) {x y : Int64} (hd : decode cc pc = .ok (.land, 1))  (kk : V p l e R s m args below meth c Q base D cy nL (pc + 1) lv (vJ (x &&& y) :: st) A k n) : V p l e R s m args below meth c Q base D cy nL pc lv (vJ y :: vJ x :: st) A k n :=
  fun H locs ls hW hF hL => lv_land E.1 E.2.1 hd (kk H locs ls hW hF hL)
theorem v_i2l (E : EN p s m args meth c D cy own cc nL ret nm) {x : Int32} (hd : decode cc pc = .ok (.i2l, 1))  (kk : V p l e R s m args below meth c Q base D cy nL (pc + 1) lv (vJ x.toInt64 :: st) A k n) : V p l e R s m args below meth c Q base D cy nL pc lv (vI x :: st) A k n :=
  fun H locs ls hW hF hL => lv_i2l E.1 E.2.1 hd rfl (kk H locs ls hW hF hL)
theorem v_l2i (E : EN p s m args meth c D cy own cc nL ret nm) {x : Int64} (hd : decode cc pc = .ok (.l2i, 1))  (kk : V p l e R s m args below meth c Q base D cy nL (pc + 1) lv (vI x.toInt32 :: st) A k n) : V p l e R s m args below meth c Q base D cy nL pc lv (vJ x :: st) A k n :=
  fun H locs ls hW hF hL => lv_l2i E.1 E.2.1 hd rfl (kk H locs ls hW hF hL)
theorem v_lcmp (E : EN p s m args meth c D cy own cc nL ret nm) {x y : Int64} (hd : decode cc pc = .ok (.lcmp, 1))  (kk : V p l e R s m args below meth c Q base D cy nL (pc + 1) lv (vI (lg_cmp x y) :: st) A k n) : V p l e R s m args below meth c Q base D cy nL pc lv (vJ y :: vJ x :: st) A k n :=
  fun H locs ls hW hF hL => W.lcmp E.1 E.2.1 hd (kk H locs ls hW hF hL)
theorem v_idiv (E : EN p s m args meth c D cy own cc nL ret nm) {x y v : Int32} (hv : dvI x y = some v) (hd : decode cc pc = .ok (.idiv, 1)) (kk : V p l e R s m args below meth c Q base D cy nL (pc + 1) lv (vI v :: st) A k n) : V p l e R s m args below meth c Q base D cy nL pc lv (vI y :: vI x :: st) A k n := by
  intro H locs ls hW hF hL
  unfold dvI at hv
  split at hv
  · cases hv
  · rename_i hne
    cases hv
    exact lv_idiv E.1 E.2.1 hd hne (kk H locs ls hW hF hL)
theorem v_irem (E : EN p s m args meth c D cy own cc nL ret nm) {x y v : Int32} (hv : rmI x y = some v) (hd : decode cc pc = .ok (.irem, 1)) (kk : V p l e R s m args below meth c Q base D cy nL (pc + 1) lv (vI v :: st) A k n) : V p l e R s m args below meth c Q base D cy nL pc lv (vI y :: vI x :: st) A k n := by
  intro H locs ls hW hF hL
  unfold rmI at hv
  split at hv
  · cases hv
  · rename_i hne
    cases hv
    exact lv_irem E.1 E.2.1 hd hne (kk H locs ls hW hF hL)
theorem v_lrem (E : EN p s m args meth c D cy own cc nL ret nm) {x y v : Int64} (hv : rmJ x y = some v) (hd : decode cc pc = .ok (.lrem, 1)) (kk : V p l e R s m args below meth c Q base D cy nL (pc + 1) lv (vJ v :: st) A k n) : V p l e R s m args below meth c Q base D cy nL pc lv (vJ y :: vJ x :: st) A k n := by
  intro H locs ls hW hF hL
  unfold rmJ at hv
  split at hv
  · cases hv
  · rename_i hne
    cases hv
    exact lv_lrem E.1 E.2.1 hd hne (kk H locs ls hW hF hL)
theorem cat1 {x : LV} (h : isJ (some x) = false) : (toV x).category = 1 := by rw [toV_cat, h]; rfl
theorem cat2 {x : LV} (h : isJ (some x) = true) : (toV x).category = 2 := by rw [toV_cat, h]; rfl
theorem v_dup (E : EN p s m args meth c D cy own cc nL ret nm) {x : LV} (hd : decode cc pc = .ok (.dup, 1)) (hx : isJ (some x) = false) (kk : V p l e R s m args below meth c Q base D cy nL (pc + 1) lv (x :: x :: st) A k n) : V p l e R s m args below meth c Q base D cy nL pc lv (x :: st) A k n :=
  fun H locs ls hW hF hL => lv_dup E.1 E.2.1 hd (cat1 hx) (kk H locs ls hW hF hL)
theorem v_dup2 (E : EN p s m args meth c D cy own cc nL ret nm) {x y : LV} (hd : decode cc pc = .ok (.dup2, 1)) (hx : isJ (some x) = false) (hy : isJ (some y) = false) (kk : V p l e R s m args below meth c Q base D cy nL (pc + 1) lv (x :: y :: x :: y :: st) A k n) : V p l e R s m args below meth c Q base D cy nL pc lv (x :: y :: st) A k n :=
  fun H locs ls hW hF hL => lv_dup2_11 E.1 E.2.1 hd (cat1 hx) (cat1 hy) (kk H locs ls hW hF hL)
theorem v_pop (E : EN p s m args meth c D cy own cc nL ret nm) {x : LV} (hd : decode cc pc = .ok (.pop, 1)) (hx : isJ (some x) = false) (kk : V p l e R s m args below meth c Q base D cy nL (pc + 1) lv (st) A k n) : V p l e R s m args below meth c Q base D cy nL pc lv (x :: st) A k n :=
  fun H locs ls hW hF hL => lv_pop E.1 E.2.1 hd (cat1 hx) (kk H locs ls hW hF hL)
theorem v_pop2 (E : EN p s m args meth c D cy own cc nL ret nm) {x : LV} (hd : decode cc pc = .ok (.pop2, 1)) (hx : isJ (some x) = true) (kk : V p l e R s m args below meth c Q base D cy nL (pc + 1) lv (st) A k n) : V p l e R s m args below meth c Q base D cy nL pc lv (x :: st) A k n :=
  fun H locs ls hW hF hL => lv_pop2_2 E.1 E.2.1 hd (cat2 hx) (kk H locs ls hW hF hL)
theorem v_aconst_null (E : EN p s m args meth c D cy own cc nL ret nm) (hd : decode cc pc = .ok (.aconst_null, 1)) (kk : V p l e R s m args below meth c Q base D cy nL (pc + 1) lv (vR none :: st) A k n) : V p l e R s m args below meth c Q base D cy nL pc lv st A k n :=
  fun H locs ls hW hF hL => lv_null E.1 E.2.1 hd (kk H locs ls hW hF hL)
theorem v_if_eq (E : EN p s m args meth c D cy own cc nL ret nm) {x : Int32} {off : Int} {tgt : Nat} (hd : decode cc pc = .ok (.ifCond .eq off, 3)) (ht : (pc : Int) + off = (tgt : Int)) (kt : x = 0 → V p l e R s m args below meth c Q base D cy nL tgt lv st A k n) (kf : ¬ x = 0 → V p l e R s m args below meth c Q base D cy nL (pc + 3) lv st A k n) : V p l e R s m args below meth c Q base D cy nL pc lv (vI x :: st) A k n :=
  fun H locs ls hW hF hL => lv_if_eq E.1 E.2.1 hd ht (fun q => kt q H locs ls hW hF hL) (fun q => kf q H locs ls hW hF hL)
theorem v_icmp_eq (E : EN p s m args meth c D cy own cc nL ret nm) {x y : Int32} {off : Int} {tgt : Nat} (hd : decode cc pc = .ok (.if_icmp .eq off, 3)) (ht : (pc : Int) + off = (tgt : Int)) (kt : x = y → V p l e R s m args below meth c Q base D cy nL tgt lv st A k n) (kf : ¬ x = y → V p l e R s m args below meth c Q base D cy nL (pc + 3) lv st A k n) : V p l e R s m args below meth c Q base D cy nL pc lv (vI y :: vI x :: st) A k n :=
  fun H locs ls hW hF hL => lv_icmp_eq E.1 E.2.1 hd ht (fun q => kt q H locs ls hW hF hL) (fun q => kf q H locs ls hW hF hL)
theorem v_if_ne (E : EN p s m args meth c D cy own cc nL ret nm) {x : Int32} {off : Int} {tgt : Nat} (hd : decode cc pc = .ok (.ifCond .ne off, 3)) (ht : (pc : Int) + off = (tgt : Int)) (kt : ¬ x = 0 → V p l e R s m args below meth c Q base D cy nL tgt lv st A k n) (kf : x = 0 → V p l e R s m args below meth c Q base D cy nL (pc + 3) lv st A k n) : V p l e R s m args below meth c Q base D cy nL pc lv (vI x :: st) A k n :=
  fun H locs ls hW hF hL => lv_if_ne E.1 E.2.1 hd ht (fun q => kt q H locs ls hW hF hL) (fun q => kf q H locs ls hW hF hL)
theorem v_icmp_ne (E : EN p s m args meth c D cy own cc nL ret nm) {x y : Int32} {off : Int} {tgt : Nat} (hd : decode cc pc = .ok (.if_icmp .ne off, 3)) (ht : (pc : Int) + off = (tgt : Int)) (kt : ¬ x = y → V p l e R s m args below meth c Q base D cy nL tgt lv st A k n) (kf : x = y → V p l e R s m args below meth c Q base D cy nL (pc + 3) lv st A k n) : V p l e R s m args below meth c Q base D cy nL pc lv (vI y :: vI x :: st) A k n :=
  fun H locs ls hW hF hL => lv_icmp_ne E.1 E.2.1 hd ht (fun q => kt q H locs ls hW hF hL) (fun q => kf q H locs ls hW hF hL)
theorem v_if_lt (E : EN p s m args meth c D cy own cc nL ret nm) {x : Int32} {off : Int} {tgt : Nat} (hd : decode cc pc = .ok (.ifCond .lt off, 3)) (ht : (pc : Int) + off = (tgt : Int)) (kt : x < 0 → V p l e R s m args below meth c Q base D cy nL tgt lv st A k n) (kf : ¬ x < 0 → V p l e R s m args below meth c Q base D cy nL (pc + 3) lv st A k n) : V p l e R s m args below meth c Q base D cy nL pc lv (vI x :: st) A k n :=
  fun H locs ls hW hF hL => lv_if_lt E.1 E.2.1 hd ht (fun q => kt q H locs ls hW hF hL) (fun q => kf q H locs ls hW hF hL)
theorem v_icmp_lt (E : EN p s m args meth c D cy own cc nL ret nm) {x y : Int32} {off : Int} {tgt : Nat} (hd : decode cc pc = .ok (.if_icmp .lt off, 3)) (ht : (pc : Int) + off = (tgt : Int)) (kt : x < y → V p l e R s m args below meth c Q base D cy nL tgt lv st A k n) (kf : ¬ x < y → V p l e R s m args below meth c Q base D cy nL (pc + 3) lv st A k n) : V p l e R s m args below meth c Q base D cy nL pc lv (vI y :: vI x :: st) A k n :=
  fun H locs ls hW hF hL => lv_icmp_lt E.1 E.2.1 hd ht (fun q => kt q H locs ls hW hF hL) (fun q => kf q H locs ls hW hF hL)
theorem v_if_ge (E : EN p s m args meth c D cy own cc nL ret nm) {x : Int32} {off : Int} {tgt : Nat} (hd : decode cc pc = .ok (.ifCond .ge off, 3)) (ht : (pc : Int) + off = (tgt : Int)) (kt : 0 ≤ x → V p l e R s m args below meth c Q base D cy nL tgt lv st A k n) (kf : ¬ 0 ≤ x → V p l e R s m args below meth c Q base D cy nL (pc + 3) lv st A k n) : V p l e R s m args below meth c Q base D cy nL pc lv (vI x :: st) A k n :=
  fun H locs ls hW hF hL => lv_if_ge E.1 E.2.1 hd ht (fun q => kt q H locs ls hW hF hL) (fun q => kf q H locs ls hW hF hL)
theorem v_icmp_ge (E : EN p s m args meth c D cy own cc nL ret nm) {x y : Int32} {off : Int} {tgt : Nat} (hd : decode cc pc = .ok (.if_icmp .ge off, 3)) (ht : (pc : Int) + off = (tgt : Int)) (kt : y ≤ x → V p l e R s m args below meth c Q base D cy nL tgt lv st A k n) (kf : ¬ y ≤ x → V p l e R s m args below meth c Q base D cy nL (pc + 3) lv st A k n) : V p l e R s m args below meth c Q base D cy nL pc lv (vI y :: vI x :: st) A k n :=
  fun H locs ls hW hF hL => lv_icmp_ge E.1 E.2.1 hd ht (fun q => kt q H locs ls hW hF hL) (fun q => kf q H locs ls hW hF hL)
theorem v_if_gt (E : EN p s m args meth c D cy own cc nL ret nm) {x : Int32} {off : Int} {tgt : Nat} (hd : decode cc pc = .ok (.ifCond .gt off, 3)) (ht : (pc : Int) + off = (tgt : Int)) (kt : 0 < x → V p l e R s m args below meth c Q base D cy nL tgt lv st A k n) (kf : ¬ 0 < x → V p l e R s m args below meth c Q base D cy nL (pc + 3) lv st A k n) : V p l e R s m args below meth c Q base D cy nL pc lv (vI x :: st) A k n :=
  fun H locs ls hW hF hL => lv_if_gt E.1 E.2.1 hd ht (fun q => kt q H locs ls hW hF hL) (fun q => kf q H locs ls hW hF hL)
theorem v_icmp_gt (E : EN p s m args meth c D cy own cc nL ret nm) {x y : Int32} {off : Int} {tgt : Nat} (hd : decode cc pc = .ok (.if_icmp .gt off, 3)) (ht : (pc : Int) + off = (tgt : Int)) (kt : y < x → V p l e R s m args below meth c Q base D cy nL tgt lv st A k n) (kf : ¬ y < x → V p l e R s m args below meth c Q base D cy nL (pc + 3) lv st A k n) : V p l e R s m args below meth c Q base D cy nL pc lv (vI y :: vI x :: st) A k n :=
  fun H locs ls hW hF hL => lv_icmp_gt E.1 E.2.1 hd ht (fun q => kt q H locs ls hW hF hL) (fun q => kf q H locs ls hW hF hL)
theorem v_if_le (E : EN p s m args meth c D cy own cc nL ret nm) {x : Int32} {off : Int} {tgt : Nat} (hd : decode cc pc = .ok (.ifCond .le off, 3)) (ht : (pc : Int) + off = (tgt : Int)) (kt : x ≤ 0 → V p l e R s m args below meth c Q base D cy nL tgt lv st A k n) (kf : ¬ x ≤ 0 → V p l e R s m args below meth c Q base D cy nL (pc + 3) lv st A k n) : V p l e R s m args below meth c Q base D cy nL pc lv (vI x :: st) A k n :=
  fun H locs ls hW hF hL => lv_if_le E.1 E.2.1 hd ht (fun q => kt q H locs ls hW hF hL) (fun q => kf q H locs ls hW hF hL)
theorem v_icmp_le (E : EN p s m args meth c D cy own cc nL ret nm) {x y : Int32} {off : Int} {tgt : Nat} (hd : decode cc pc = .ok (.if_icmp .le off, 3)) (ht : (pc : Int) + off = (tgt : Int)) (kt : x ≤ y → V p l e R s m args below meth c Q base D cy nL tgt lv st A k n) (kf : ¬ x ≤ y → V p l e R s m args below meth c Q base D cy nL (pc + 3) lv st A k n) : V p l e R s m args below meth c Q base D cy nL pc lv (vI y :: vI x :: st) A k n :=
  fun H locs ls hW hF hL => lv_icmp_le E.1 E.2.1 hd ht (fun q => kt q H locs ls hW hF hL) (fun q => kf q H locs ls hW hF hL)
theorem v_goto (E : EN p s m args meth c D cy own cc nL ret nm) {off : Int} {tgt : Nat} (hd : decode cc pc = .ok (.goto off, 3)) (ht : (pc : Int) + off = (tgt : Int)) (kk : V p l e R s m args below meth c Q base D cy nL tgt lv st A k n) : V p l e R s m args below meth c Q base D cy nL pc lv st A k n :=
  fun H locs ls hW hF hL => lv_goto E.1 E.2.1 hd ht (kk H locs ls hW hF hL)
theorem v_ifnull (E : EN p s m args meth c D cy own cc nL ret nm) {x : Option Nat} {off : Int} {tgt : Nat} (hd : decode cc pc = .ok (.ifnull off, 3)) (ht : (pc : Int) + off = (tgt : Int)) (kt : x = none → V p l e R s m args below meth c Q base D cy nL tgt lv st A k n) (kf : ¬ x = none → V p l e R s m args below meth c Q base D cy nL (pc + 3) lv st A k n) : V p l e R s m args below meth c Q base D cy nL pc lv (vR x :: st) A k n := by
  intro H locs ls hW hF hL
  cases x with
  | none => exact lv_ifnullN E.1 E.2.1 hd ht (kt rfl H locs ls hW hF hL)
  | some a => exact lv_ifnull E.1 E.2.1 hd (kf (fun q => by cases q) H locs ls hW hF hL)
theorem v_ifnonnull (E : EN p s m args meth c D cy own cc nL ret nm) {x : Option Nat} {off : Int} {tgt : Nat} (hd : decode cc pc = .ok (.ifnonnull off, 3)) (ht : (pc : Int) + off = (tgt : Int)) (kt : ¬ x = none → V p l e R s m args below meth c Q base D cy nL tgt lv st A k n) (kf : x = none → V p l e R s m args below meth c Q base D cy nL (pc + 3) lv st A k n) : V p l e R s m args below meth c Q base D cy nL pc lv (vR x :: st) A k n := by
  intro H locs ls hW hF hL
  cases x with
  | none => exact lv_ifnonnullN E.1 E.2.1 hd (kf rfl H locs ls hW hF hL)
  | some a => exact lv_ifnonnull E.1 E.2.1 hd ht (kt (fun q => by cases q) H locs ls hW hF hL)
/-- a switch: the place of the number among the cases (their count: none of them) -/
def swi (x : Int32) (lo hi : Int) : Nat := if x.toInt < lo ∨ hi < x.toInt then (hi - lo + 1).toNat else (x.toInt - lo).toNat
theorem v_tsw (E : EN p s m args meth c D cy own cc nL ret nm) {x : Int32} {dflt lo hi : Int} {offs : Array Int} {len : Nat} {tgts : List Nat} (hd : decode cc pc = .ok (.tableswitch dflt lo hi offs, len)) (ht : ∀ (j : Nat) (off : Int), offs[j]? = some off → ∃ t : Nat, tgts[j]? = some t ∧ (pc : Int) + off = (t : Int)) (hz : (hi - lo + 1).toNat = offs.size) (hzt : tgts[offs.size]? = some ((pc : Int) + dflt).toNat) (hdf : 0 ≤ (pc : Int) + dflt) (hlh : lo ≤ hi + 1)
    (kk : ∀ (j t : Nat), swi x lo hi = j → tgts[j]? = some t → V p l e R s m args below meth c Q base D cy nL t lv st A k n) : V p l e R s m args below meth c Q base D cy nL pc lv (vI x :: st) A k n := by
  intro H locs ls hW hF hL
  by_cases hx : x.toInt < lo ∨ hi < x.toInt
  · exact lv_tableOut (tgt := ((pc : Int) + dflt).toNat) E.1 E.2.1 hd hx (by omega) (kk _ _ (if_pos hx) (by rw [hz]; exact hzt) H locs ls hW hF hL)
  · have hlt : (x.toInt - lo).toNat < offs.size := by omega
    obtain ⟨t, h1, h2⟩ := ht (x.toInt - lo).toNat _ (Array.getElem?_eq_getElem hlt)
    exact lv_tableIn E.1 E.2.1 hd (fun q => hx (Or.inl q)) (fun q => hx (Or.inr q)) (Array.getElem?_eq_getElem hlt) h2 (kk _ t (if_neg hx) h1 H locs ls hW hF hL)
theorem v_drop (ks : List Nat) (hl : dr lv ks = lv') (kk : V p l e R s m args below meth c Q base D cy nL pc lv' st A k n) : V p l e R s m args below meth c Q base D cy nL pc lv st A k n := fun H locs ls hW hF hL => kk H locs ls hW hF (hl ▸ hL.dr ks)
theorem v_widen {k' n' : Nat} (h1 : k ≤ k') (h2 : n ≤ n') (kk : V p l e R s m args below meth c Q base D cy nL pc lv st A k' n') : V p l e R s m args below meth c Q base D cy nL pc lv st A k n := fun H locs ls hW hF hL => W.widen h1 h2 (kk H locs ls hW hF hL)
end RV
