theorem itB_V {S T : Type} {b : S → Option (S ⊕ T)} {Ph : Nat → Nat → S → Prop} {Pt : T → Prop} {c d k0 n0 : Nat} (N : Nat) {s : S} {t : T} (h : itN b N s = some t)
    (step : ∀ k n s x, k + c ≤ k0 + N * c → n + d ≤ n0 + N * d → b s = some x → itM (Ph (k + c) (n + d)) Pt x → Ph k n s) (ht : Pt t) : Ph k0 n0 s := by
  have key : ∀ (f k n : Nat) (s : S), k + f * c = k0 + N * c → n + f * d = n0 + N * d → itN b f s = some t → Ph k n s := by
    intro f
    induction f with
    | zero => intro k n s _ _ h; cases h
    | succ f ih =>
      intro k n s hk hn h
      have e1 : (f + 1) * c = f * c + c := Nat.succ_mul f c
      have e2 : (f + 1) * d = f * d + d := Nat.succ_mul f d
      unfold itN at h
      cases hb : b s with
      | none => rw [hb] at h; cases h
      | some x =>
        rw [hb] at h
        cases x with
        | inl s' => exact step k n s _ (by omega) (by omega) hb (ih (k + c) (n + d) s' (by omega) (by omega) h)
        | inr t' => cases h; exact step k n s _ (by omega) (by omega) hb ht
  exact key N k0 n0 s rfl rfl h
theorem Cn.ofF {l : Launch} {y : MethodName} {cc : ByteArray} {nL : Nat} {ret : Option FieldType} {fr lo mc ms : Nat} {as : List LV} {A : AH} {v : Option LV} {A1 : AH} {pad : Nat} {lv0 : List (Option LV)} (hy : plainFor y = true) (hlen : catS as ≤ nL) (hlv : ent as ++ List.replicate pad none = lv0)
    (body : ∀ (p : Program) (e : Env) (s : State) (m : MethodId) (below : List Frame) (meth : Method) (c : Code) (base : Nat) (D : va_G) (cy : Nat → ClassId), EN p s m (as.map toV).toArray meth c D cy y.cls cc nL ret y.name → V p l e { frames := fr, cells := mc, slots := ms, locals := lo } s m (as.map toV).toArray below meth c (MQ below (Qd base D cy v A1) (as.map toV).toArray s mc ms (fun q => base ≤ q)) base D cy nL 0 lv0 [] A 0 0) : Cn l y cc nL ret fr lo mc ms as A v A1 := by
  intro base D cy
  refine MetFree.of_bodySF (code := cc) (maxLocals := nL) (ret := ret) hy ?_ ?_
  · intro args s m h hn
    obtain ⟨meth, c, h1, h2, h3, h4, h5, h6, -, -⟩ := Cond.code_spec hn (atoms_spec (ws := Cond.code y cc nL ret :: lw_g) h _ List.mem_cons_self)
    exact ⟨meth, c, h1, h2, h3, h4, h5, h6⟩
  · intro p e s m args below meth c s₁ B hml hv _
    have hh0 : s₁.heap = s.heap := by rw [B.state]; rfl
    obtain ⟨rfl, hK, hN, hW⟩ := hv
    have hts := atoms_spec (ws := Cond.code y cc nL ret :: lw_g) B.pre
    have E : EN p s m (as.map toV).toArray meth c D cy y.cls cc nL ret y.name := ⟨B.exec, B.bytes, hml, findClass_of_methodNamed B.named, fun w h => hts w (List.mem_cons_of_mem _ h), hK, hN, B.returns, B.notSynchronized, (name_of_methodNamed B.named B.method).1⟩
    have hb := body p e s m below meth c base D cy E s.heap [] _ hW ⟨fun _ _ => rfl, fun _ h => by cases h⟩ (hlv ▸ LH.entry (by rw [slS_eq]; exact hlen) pad)
    rw [List.map_nil, ← lg_entry_eq] at hb
    obtain ⟨t, a1, o, b1, b2, b3⟩ := hb s₁ hh0 (Stand.of_body B)
    exact ⟨t, o, a1, b1, b2, ⟨b3.1, b3.2⟩⟩

noncomputable def fJ6_bitCount_0f7a4 (A0 : AH) (a1 : Int32) : Option (Int32) :=
  some (((((((((a1 - ((((a1).toUInt32 >>> ((1 : Int32).toUInt32 &&& Int32.toUInt32 31)).toInt32) &&& 1431655765)) &&& 858993459) + (((((a1 - ((((a1).toUInt32 >>> ((1 : Int32).toUInt32 &&& Int32.toUInt32 31)).toInt32) &&& 1431655765))).toUInt32 >>> ((2 : Int32).toUInt32 &&& Int32.toUInt32 31)).toInt32) &&& 858993459)) + ((((((a1 - ((((a1).toUInt32 >>> ((1 : Int32).toUInt32 &&& Int32.toUInt32 31)).toInt32) &&& 1431655765)) &&& 858993459) + (((((a1 - ((((a1).toUInt32 >>> ((1 : Int32).toUInt32 &&& Int32.toUInt32 31)).toInt32) &&& 1431655765))).toUInt32 >>> ((2 : Int32).toUInt32 &&& Int32.toUInt32 31)).toInt32) &&& 858993459))).toUInt32 >>> ((4 : Int32).toUInt32 &&& Int32.toUInt32 31)).toInt32)) &&& 252645135) + ((((((((a1 - ((((a1).toUInt32 >>> ((1 : Int32).toUInt32 &&& Int32.toUInt32 31)).toInt32) &&& 1431655765)) &&& 858993459) + (((((a1 - ((((a1).toUInt32 >>> ((1 : Int32).toUInt32 &&& Int32.toUInt32 31)).toInt32) &&& 1431655765))).toUInt32 >>> ((2 : Int32).toUInt32 &&& Int32.toUInt32 31)).toInt32) &&& 858993459)) + ((((((a1 - ((((a1).toUInt32 >>> ((1 : Int32).toUInt32 &&& Int32.toUInt32 31)).toInt32) &&& 1431655765)) &&& 858993459) + (((((a1 - ((((a1).toUInt32 >>> ((1 : Int32).toUInt32 &&& Int32.toUInt32 31)).toInt32) &&& 1431655765))).toUInt32 >>> ((2 : Int32).toUInt32 &&& Int32.toUInt32 31)).toInt32) &&& 858993459))).toUInt32 >>> ((4 : Int32).toUInt32 &&& Int32.toUInt32 31)).toInt32)) &&& 252645135)).toUInt32 >>> ((8 : Int32).toUInt32 &&& Int32.toUInt32 31)).toInt32)) + (((((((((a1 - ((((a1).toUInt32 >>> ((1 : Int32).toUInt32 &&& Int32.toUInt32 31)).toInt32) &&& 1431655765)) &&& 858993459) + (((((a1 - ((((a1).toUInt32 >>> ((1 : Int32).toUInt32 &&& Int32.toUInt32 31)).toInt32) &&& 1431655765))).toUInt32 >>> ((2 : Int32).toUInt32 &&& Int32.toUInt32 31)).toInt32) &&& 858993459)) + ((((((a1 - ((((a1).toUInt32 >>> ((1 : Int32).toUInt32 &&& Int32.toUInt32 31)).toInt32) &&& 1431655765)) &&& 858993459) + (((((a1 - ((((a1).toUInt32 >>> ((1 : Int32).toUInt32 &&& Int32.toUInt32 31)).toInt32) &&& 1431655765))).toUInt32 >>> ((2 : Int32).toUInt32 &&& Int32.toUInt32 31)).toInt32) &&& 858993459))).toUInt32 >>> ((4 : Int32).toUInt32 &&& Int32.toUInt32 31)).toInt32)) &&& 252645135) + ((((((((a1 - ((((a1).toUInt32 >>> ((1 : Int32).toUInt32 &&& Int32.toUInt32 31)).toInt32) &&& 1431655765)) &&& 858993459) + (((((a1 - ((((a1).toUInt32 >>> ((1 : Int32).toUInt32 &&& Int32.toUInt32 31)).toInt32) &&& 1431655765))).toUInt32 >>> ((2 : Int32).toUInt32 &&& Int32.toUInt32 31)).toInt32) &&& 858993459)) + ((((((a1 - ((((a1).toUInt32 >>> ((1 : Int32).toUInt32 &&& Int32.toUInt32 31)).toInt32) &&& 1431655765)) &&& 858993459) + (((((a1 - ((((a1).toUInt32 >>> ((1 : Int32).toUInt32 &&& Int32.toUInt32 31)).toInt32) &&& 1431655765))).toUInt32 >>> ((2 : Int32).toUInt32 &&& Int32.toUInt32 31)).toInt32) &&& 858993459))).toUInt32 >>> ((4 : Int32).toUInt32 &&& Int32.toUInt32 31)).toInt32)) &&& 252645135)).toUInt32 >>> ((8 : Int32).toUInt32 &&& Int32.toUInt32 31)).toInt32))).toUInt32 >>> ((16 : Int32).toUInt32 &&& Int32.toUInt32 31)).toInt32)) &&& 63))
set_option maxRecDepth 100000 in
set_option maxHeartbeats 4000000 in
theorem kJ6_bitCount_0f7a4 (l : Launch) {A0 : AH} {a1 : Int32} {r : Int32} (h : fJ6_bitCount_0f7a4 A0 a1 = some r) : Cn l yJ6_bitCount_0f7a4 cJ6_bitCount_0f7a4 1 (some .int) 0 0 0 0 [vI a1] A0 (some (vI r)) A0 := by
  unfold fJ6_bitCount_0f7a4 at h
  refine Cn.of (pad := 0) (lv0 := [some (vI a1)]) (by decide +kernel) (Nat.le_of_ble_eq_true rfl) rfl ?_
  intro p e s m below meth c base D cy E
  generalize (List.map toV [vI a1]).toArray = ar at E ⊢
  have E : EN p s m ar meth c D cy RJ6 cJ6_bitCount_0f7a4 1 (some .int) "bitCount" := E
  refine v_iload_n E dJ6_bitCount_0f7a4_0 rfl ?_
  refine v_iload_n E dJ6_bitCount_0f7a4_1 rfl ?_
  refine v_iconst (v := 1) E dJ6_bitCount_0f7a4_2 (by decide) ?_
  refine v_iushr E dJ6_bitCount_0f7a4_3 ?_
  refine v_ldcw (v := 1431655765) E dJ6_bitCount_0f7a4_4 q537 ?_
  refine v_iand E dJ6_bitCount_0f7a4_7 ?_
  refine v_isub E dJ6_bitCount_0f7a4_8 ?_
  refine v_istore_n (lv' := [some (vI (a1 - ((((a1).toUInt32 >>> ((1 : Int32).toUInt32 &&& Int32.toUInt32 31)).toInt32) &&& 1431655765)))]) E dJ6_bitCount_0f7a4_9 (by decide) rfl ?_
  refine v_iload_n E dJ6_bitCount_0f7a4_10 rfl ?_
  refine v_ldcw (v := 858993459) E dJ6_bitCount_0f7a4_11 q538 ?_
  refine v_iand E dJ6_bitCount_0f7a4_14 ?_
  refine v_iload_n E dJ6_bitCount_0f7a4_15 rfl ?_
  refine v_iconst (v := 2) E dJ6_bitCount_0f7a4_16 (by decide) ?_
  refine v_iushr E dJ6_bitCount_0f7a4_17 ?_
  refine v_ldcw (v := 858993459) E dJ6_bitCount_0f7a4_18 q538 ?_
  refine v_iand E dJ6_bitCount_0f7a4_21 ?_
  refine v_iadd E dJ6_bitCount_0f7a4_22 ?_
  refine v_istore_n (lv' := [some (vI (((a1 - ((((a1).toUInt32 >>> ((1 : Int32).toUInt32 &&& Int32.toUInt32 31)).toInt32) &&& 1431655765)) &&& 858993459) + (((((a1 - ((((a1).toUInt32 >>> ((1 : Int32).toUInt32 &&& Int32.toUInt32 31)).toInt32) &&& 1431655765))).toUInt32 >>> ((2 : Int32).toUInt32 &&& Int32.toUInt32 31)).toInt32) &&& 858993459)))]) E dJ6_bitCount_0f7a4_23 (by decide) rfl ?_
  refine v_iload_n E dJ6_bitCount_0f7a4_24 rfl ?_
  refine v_iload_n E dJ6_bitCount_0f7a4_25 rfl ?_
  refine v_iconst (v := 4) E dJ6_bitCount_0f7a4_26 (by decide) ?_
  refine v_iushr E dJ6_bitCount_0f7a4_27 ?_
  refine v_iadd E dJ6_bitCount_0f7a4_28 ?_
  refine v_ldcw (v := 252645135) E dJ6_bitCount_0f7a4_29 q539 ?_
  refine v_iand E dJ6_bitCount_0f7a4_32 ?_
  refine v_istore_n (lv' := [some (vI (((((a1 - ((((a1).toUInt32 >>> ((1 : Int32).toUInt32 &&& Int32.toUInt32 31)).toInt32) &&& 1431655765)) &&& 858993459) + (((((a1 - ((((a1).toUInt32 >>> ((1 : Int32).toUInt32 &&& Int32.toUInt32 31)).toInt32) &&& 1431655765))).toUInt32 >>> ((2 : Int32).toUInt32 &&& Int32.toUInt32 31)).toInt32) &&& 858993459)) + ((((((a1 - ((((a1).toUInt32 >>> ((1 : Int32).toUInt32 &&& Int32.toUInt32 31)).toInt32) &&& 1431655765)) &&& 858993459) + (((((a1 - ((((a1).toUInt32 >>> ((1 : Int32).toUInt32 &&& Int32.toUInt32 31)).toInt32) &&& 1431655765))).toUInt32 >>> ((2 : Int32).toUInt32 &&& Int32.toUInt32 31)).toInt32) &&& 858993459))).toUInt32 >>> ((4 : Int32).toUInt32 &&& Int32.toUInt32 31)).toInt32)) &&& 252645135))]) E dJ6_bitCount_0f7a4_33 (by decide) rfl ?_
  refine v_iload_n E dJ6_bitCount_0f7a4_34 rfl ?_
  refine v_iload_n E dJ6_bitCount_0f7a4_35 rfl ?_
  refine v_bipush (v := 8) E dJ6_bitCount_0f7a4_36 (by decide) ?_
  refine v_iushr E dJ6_bitCount_0f7a4_38 ?_
  refine v_iadd E dJ6_bitCount_0f7a4_39 ?_
  refine v_istore_n (lv' := [some (vI ((((((a1 - ((((a1).toUInt32 >>> ((1 : Int32).toUInt32 &&& Int32.toUInt32 31)).toInt32) &&& 1431655765)) &&& 858993459) + (((((a1 - ((((a1).toUInt32 >>> ((1 : Int32).toUInt32 &&& Int32.toUInt32 31)).toInt32) &&& 1431655765))).toUInt32 >>> ((2 : Int32).toUInt32 &&& Int32.toUInt32 31)).toInt32) &&& 858993459)) + ((((((a1 - ((((a1).toUInt32 >>> ((1 : Int32).toUInt32 &&& Int32.toUInt32 31)).toInt32) &&& 1431655765)) &&& 858993459) + (((((a1 - ((((a1).toUInt32 >>> ((1 : Int32).toUInt32 &&& Int32.toUInt32 31)).toInt32) &&& 1431655765))).toUInt32 >>> ((2 : Int32).toUInt32 &&& Int32.toUInt32 31)).toInt32) &&& 858993459))).toUInt32 >>> ((4 : Int32).toUInt32 &&& Int32.toUInt32 31)).toInt32)) &&& 252645135) + ((((((((a1 - ((((a1).toUInt32 >>> ((1 : Int32).toUInt32 &&& Int32.toUInt32 31)).toInt32) &&& 1431655765)) &&& 858993459) + (((((a1 - ((((a1).toUInt32 >>> ((1 : Int32).toUInt32 &&& Int32.toUInt32 31)).toInt32) &&& 1431655765))).toUInt32 >>> ((2 : Int32).toUInt32 &&& Int32.toUInt32 31)).toInt32) &&& 858993459)) + ((((((a1 - ((((a1).toUInt32 >>> ((1 : Int32).toUInt32 &&& Int32.toUInt32 31)).toInt32) &&& 1431655765)) &&& 858993459) + (((((a1 - ((((a1).toUInt32 >>> ((1 : Int32).toUInt32 &&& Int32.toUInt32 31)).toInt32) &&& 1431655765))).toUInt32 >>> ((2 : Int32).toUInt32 &&& Int32.toUInt32 31)).toInt32) &&& 858993459))).toUInt32 >>> ((4 : Int32).toUInt32 &&& Int32.toUInt32 31)).toInt32)) &&& 252645135)).toUInt32 >>> ((8 : Int32).toUInt32 &&& Int32.toUInt32 31)).toInt32)))]) E dJ6_bitCount_0f7a4_40 (by decide) rfl ?_
  refine v_iload_n E dJ6_bitCount_0f7a4_41 rfl ?_
  refine v_iload_n E dJ6_bitCount_0f7a4_42 rfl ?_
  refine v_bipush (v := 16) E dJ6_bitCount_0f7a4_43 (by decide) ?_
  refine v_iushr E dJ6_bitCount_0f7a4_45 ?_
  refine v_iadd E dJ6_bitCount_0f7a4_46 ?_
  refine v_istore_n (lv' := [some (vI (((((((a1 - ((((a1).toUInt32 >>> ((1 : Int32).toUInt32 &&& Int32.toUInt32 31)).toInt32) &&& 1431655765)) &&& 858993459) + (((((a1 - ((((a1).toUInt32 >>> ((1 : Int32).toUInt32 &&& Int32.toUInt32 31)).toInt32) &&& 1431655765))).toUInt32 >>> ((2 : Int32).toUInt32 &&& Int32.toUInt32 31)).toInt32) &&& 858993459)) + ((((((a1 - ((((a1).toUInt32 >>> ((1 : Int32).toUInt32 &&& Int32.toUInt32 31)).toInt32) &&& 1431655765)) &&& 858993459) + (((((a1 - ((((a1).toUInt32 >>> ((1 : Int32).toUInt32 &&& Int32.toUInt32 31)).toInt32) &&& 1431655765))).toUInt32 >>> ((2 : Int32).toUInt32 &&& Int32.toUInt32 31)).toInt32) &&& 858993459))).toUInt32 >>> ((4 : Int32).toUInt32 &&& Int32.toUInt32 31)).toInt32)) &&& 252645135) + ((((((((a1 - ((((a1).toUInt32 >>> ((1 : Int32).toUInt32 &&& Int32.toUInt32 31)).toInt32) &&& 1431655765)) &&& 858993459) + (((((a1 - ((((a1).toUInt32 >>> ((1 : Int32).toUInt32 &&& Int32.toUInt32 31)).toInt32) &&& 1431655765))).toUInt32 >>> ((2 : Int32).toUInt32 &&& Int32.toUInt32 31)).toInt32) &&& 858993459)) + ((((((a1 - ((((a1).toUInt32 >>> ((1 : Int32).toUInt32 &&& Int32.toUInt32 31)).toInt32) &&& 1431655765)) &&& 858993459) + (((((a1 - ((((a1).toUInt32 >>> ((1 : Int32).toUInt32 &&& Int32.toUInt32 31)).toInt32) &&& 1431655765))).toUInt32 >>> ((2 : Int32).toUInt32 &&& Int32.toUInt32 31)).toInt32) &&& 858993459))).toUInt32 >>> ((4 : Int32).toUInt32 &&& Int32.toUInt32 31)).toInt32)) &&& 252645135)).toUInt32 >>> ((8 : Int32).toUInt32 &&& Int32.toUInt32 31)).toInt32)) + (((((((((a1 - ((((a1).toUInt32 >>> ((1 : Int32).toUInt32 &&& Int32.toUInt32 31)).toInt32) &&& 1431655765)) &&& 858993459) + (((((a1 - ((((a1).toUInt32 >>> ((1 : Int32).toUInt32 &&& Int32.toUInt32 31)).toInt32) &&& 1431655765))).toUInt32 >>> ((2 : Int32).toUInt32 &&& Int32.toUInt32 31)).toInt32) &&& 858993459)) + ((((((a1 - ((((a1).toUInt32 >>> ((1 : Int32).toUInt32 &&& Int32.toUInt32 31)).toInt32) &&& 1431655765)) &&& 858993459) + (((((a1 - ((((a1).toUInt32 >>> ((1 : Int32).toUInt32 &&& Int32.toUInt32 31)).toInt32) &&& 1431655765))).toUInt32 >>> ((2 : Int32).toUInt32 &&& Int32.toUInt32 31)).toInt32) &&& 858993459))).toUInt32 >>> ((4 : Int32).toUInt32 &&& Int32.toUInt32 31)).toInt32)) &&& 252645135) + ((((((((a1 - ((((a1).toUInt32 >>> ((1 : Int32).toUInt32 &&& Int32.toUInt32 31)).toInt32) &&& 1431655765)) &&& 858993459) + (((((a1 - ((((a1).toUInt32 >>> ((1 : Int32).toUInt32 &&& Int32.toUInt32 31)).toInt32) &&& 1431655765))).toUInt32 >>> ((2 : Int32).toUInt32 &&& Int32.toUInt32 31)).toInt32) &&& 858993459)) + ((((((a1 - ((((a1).toUInt32 >>> ((1 : Int32).toUInt32 &&& Int32.toUInt32 31)).toInt32) &&& 1431655765)) &&& 858993459) + (((((a1 - ((((a1).toUInt32 >>> ((1 : Int32).toUInt32 &&& Int32.toUInt32 31)).toInt32) &&& 1431655765))).toUInt32 >>> ((2 : Int32).toUInt32 &&& Int32.toUInt32 31)).toInt32) &&& 858993459))).toUInt32 >>> ((4 : Int32).toUInt32 &&& Int32.toUInt32 31)).toInt32)) &&& 252645135)).toUInt32 >>> ((8 : Int32).toUInt32 &&& Int32.toUInt32 31)).toInt32))).toUInt32 >>> ((16 : Int32).toUInt32 &&& Int32.toUInt32 31)).toInt32)))]) E dJ6_bitCount_0f7a4_47 (by decide) rfl ?_
  refine v_iload_n E dJ6_bitCount_0f7a4_48 rfl ?_
  refine v_bipush (v := 63) E dJ6_bitCount_0f7a4_49 (by decide) ?_
  refine v_iand E dJ6_bitCount_0f7a4_51 ?_
  replace h := Option.some.inj h
  subst h
  refine v_widen (k' := 0) (n' := 0) (Nat.le_of_ble_eq_true rfl) (Nat.le_of_ble_eq_true rfl) ?_
  exact v_iret E dJ6_bitCount_0f7a4_52
noncomputable def fJ9_floorMod_7cf53 (A0 : AH) (a1 : Int32) (a2 : Int32) : Option (Int32) :=
  (rmI a1 a2).bind fun v1 =>
  if 0 ≤ (a1 ^^^ a2) then
    some v1
  else
    if v1 = 0 then
      some v1
    else
      some ((v1 + a2))
set_option maxRecDepth 100000 in
set_option maxHeartbeats 4000000 in
theorem kJ9_floorMod_7cf53 (l : Launch) {A0 : AH} {a1 : Int32} {a2 : Int32} {r : Int32} (h : fJ9_floorMod_7cf53 A0 a1 a2 = some r) : Cn l yJ9_floorMod_7cf53 cJ9_floorMod_7cf53 3 (some .int) 0 0 0 0 [vI a1, vI a2] A0 (some (vI r)) A0 := by
  unfold fJ9_floorMod_7cf53 at h
  refine Cn.ofF (pad := 1) (lv0 := [some (vI a1), some (vI a2), none]) (by decide +kernel) (Nat.le_of_ble_eq_true rfl) rfl ?_
  intro p e s m below meth c base D cy E
  generalize (List.map toV [vI a1, vI a2]).toArray = ar at E ⊢
  have E : EN p s m ar meth c D cy RJ9 cJ9_floorMod_7cf53 3 (some .int) "floorMod" := E
  refine v_iload_n E dJ9_floorMod_7cf53_0 rfl ?_
  refine v_iload_n E dJ9_floorMod_7cf53_1 rfl ?_
  replace h := bnd_e h
  obtain ⟨v1, ev1, h⟩ := h
  refine v_irem E ev1 dJ9_floorMod_7cf53_2 ?_
  refine v_istore_n (lv' := [some (vI a1), some (vI a2), some (vI v1)]) E dJ9_floorMod_7cf53_3 (by decide) rfl ?_
  refine v_iload_n E dJ9_floorMod_7cf53_4 rfl ?_
  refine v_iload_n E dJ9_floorMod_7cf53_5 rfl ?_
  refine v_ixor E dJ9_floorMod_7cf53_6 ?_
  refine v_if_ge (tgt := 18) E dJ9_floorMod_7cf53_7 (by decide) (fun c3 => ?_) (fun c3 => ?_)
  · rw [if_pos c3] at h
    refine v_iload_n E dJ9_floorMod_7cf53_18 rfl ?_
    replace h := Option.some.inj h
    subst h
    refine v_widen (k' := 0) (n' := 0) (Nat.le_of_ble_eq_true rfl) (Nat.le_of_ble_eq_true rfl) ?_
    exact v_iret E dJ9_floorMod_7cf53_19
  · rw [if_neg c3] at h
    refine v_iload_n E dJ9_floorMod_7cf53_10 rfl ?_
    refine v_if_eq (tgt := 18) E dJ9_floorMod_7cf53_11 (by decide) (fun c2 => ?_) (fun c2 => ?_)
    · rw [if_pos c2] at h
      refine v_iload_n E dJ9_floorMod_7cf53_18 rfl ?_
      replace h := Option.some.inj h
      subst h
      refine v_widen (k' := 0) (n' := 0) (Nat.le_of_ble_eq_true rfl) (Nat.le_of_ble_eq_true rfl) ?_
      exact v_iret E dJ9_floorMod_7cf53_19
    · rw [if_neg c2] at h
      refine v_iload_n E dJ9_floorMod_7cf53_14 rfl ?_
      refine v_iload_n E dJ9_floorMod_7cf53_15 rfl ?_
      refine v_iadd E dJ9_floorMod_7cf53_16 ?_
      replace h := Option.some.inj h
      subst h
      refine v_widen (k' := 0) (n' := 0) (Nat.le_of_ble_eq_true rfl) (Nat.le_of_ble_eq_true rfl) ?_
      exact v_iret E dJ9_floorMod_7cf53_17
noncomputable def fJ9_max_7cf53 (A0 : AH) (a1 : Int32) (a2 : Int32) : Option (Int32) :=
  if a1 < a2 then
    some a2
  else
    some a1
set_option maxRecDepth 100000 in
set_option maxHeartbeats 4000000 in
theorem kJ9_max_7cf53 (l : Launch) {A0 : AH} {a1 : Int32} {a2 : Int32} {r : Int32} (h : fJ9_max_7cf53 A0 a1 a2 = some r) : Cn l yJ9_max_7cf53 cJ9_max_7cf53 2 (some .int) 0 0 0 0 [vI a1, vI a2] A0 (some (vI r)) A0 := by
  unfold fJ9_max_7cf53 at h
  refine Cn.ofF (pad := 0) (lv0 := [some (vI a1), some (vI a2)]) (by decide +kernel) (Nat.le_of_ble_eq_true rfl) rfl ?_
  intro p e s m below meth c base D cy E
  generalize (List.map toV [vI a1, vI a2]).toArray = ar at E ⊢
  have E : EN p s m ar meth c D cy RJ9 cJ9_max_7cf53 2 (some .int) "max" := E
  refine v_iload_n E dJ9_max_7cf53_0 rfl ?_
  refine v_iload_n E dJ9_max_7cf53_1 rfl ?_
  refine v_icmp_lt (tgt := 9) E dJ9_max_7cf53_2 (by decide) (fun c1 => ?_) (fun c1 => ?_)
  · rw [if_pos c1] at h
    refine v_iload_n E dJ9_max_7cf53_9 rfl ?_
    replace h := Option.some.inj h
    subst h
    refine v_widen (k' := 0) (n' := 0) (Nat.le_of_ble_eq_true rfl) (Nat.le_of_ble_eq_true rfl) ?_
    exact v_iret E dJ9_max_7cf53_10
  · rw [if_neg c1] at h
    refine v_iload_n E dJ9_max_7cf53_5 rfl ?_
    refine v_goto (tgt := 10) E dJ9_max_7cf53_6 (by decide) ?_
    replace h := Option.some.inj h
    subst h
    refine v_widen (k' := 0) (n' := 0) (Nat.le_of_ble_eq_true rfl) (Nat.le_of_ble_eq_true rfl) ?_
    exact v_iret E dJ9_max_7cf53_10
noncomputable def fJ9_min_7cf53 (A0 : AH) (a1 : Int32) (a2 : Int32) : Option (Int32) :=
  if a2 < a1 then
    some a2
  else
    some a1
set_option maxRecDepth 100000 in
set_option maxHeartbeats 4000000 in
theorem kJ9_min_7cf53 (l : Launch) {A0 : AH} {a1 : Int32} {a2 : Int32} {r : Int32} (h : fJ9_min_7cf53 A0 a1 a2 = some r) : Cn l yJ9_min_7cf53 cJ9_min_7cf53 2 (some .int) 0 0 0 0 [vI a1, vI a2] A0 (some (vI r)) A0 := by
  unfold fJ9_min_7cf53 at h
  refine Cn.ofF (pad := 0) (lv0 := [some (vI a1), some (vI a2)]) (by decide +kernel) (Nat.le_of_ble_eq_true rfl) rfl ?_
  intro p e s m below meth c base D cy E
  generalize (List.map toV [vI a1, vI a2]).toArray = ar at E ⊢
  have E : EN p s m ar meth c D cy RJ9 cJ9_min_7cf53 2 (some .int) "min" := E
  refine v_iload_n E dJ9_min_7cf53_0 rfl ?_
  refine v_iload_n E dJ9_min_7cf53_1 rfl ?_
  refine v_icmp_gt (tgt := 9) E dJ9_min_7cf53_2 (by decide) (fun c1 => ?_) (fun c1 => ?_)
  · rw [if_pos c1] at h
    refine v_iload_n E dJ9_min_7cf53_9 rfl ?_
    replace h := Option.some.inj h
    subst h
    refine v_widen (k' := 0) (n' := 0) (Nat.le_of_ble_eq_true rfl) (Nat.le_of_ble_eq_true rfl) ?_
    exact v_iret E dJ9_min_7cf53_10
  · rw [if_neg c1] at h
    refine v_iload_n E dJ9_min_7cf53_5 rfl ?_
    refine v_goto (tgt := 10) E dJ9_min_7cf53_6 (by decide) ?_
    replace h := Option.some.inj h
    subst h
    refine v_widen (k' := 0) (n' := 0) (Nat.le_of_ble_eq_true rfl) (Nat.le_of_ble_eq_true rfl) ?_
    exact v_iret E dJ9_min_7cf53_10
noncomputable def fJ9_min_f86c9 (A0 : AH) (a1 : Int64) (a2 : Int64) : Option (Int64) :=
  if 0 < (lg_cmp a1 a2) then
    some a2
  else
    some a1
set_option maxRecDepth 100000 in
set_option maxHeartbeats 4000000 in
theorem kJ9_min_f86c9 (l : Launch) {A0 : AH} {a1 : Int64} {a2 : Int64} {r : Int64} (h : fJ9_min_f86c9 A0 a1 a2 = some r) : Cn l yJ9_min_f86c9 cJ9_min_f86c9 4 (some .long) 0 0 0 0 [vJ a1, vJ a2] A0 (some (vJ r)) A0 := by
  unfold fJ9_min_f86c9 at h
  refine Cn.ofF (pad := 0) (lv0 := [some (vJ a1), none, some (vJ a2), none]) (by decide +kernel) (Nat.le_of_ble_eq_true rfl) rfl ?_
  intro p e s m below meth c base D cy E
  generalize (List.map toV [vJ a1, vJ a2]).toArray = ar at E ⊢
  have E : EN p s m ar meth c D cy RJ9 cJ9_min_f86c9 4 (some .long) "min" := E
  refine v_lload_n E dJ9_min_f86c9_0 rfl ?_
  refine v_lload_n E dJ9_min_f86c9_1 rfl ?_
  refine v_lcmp E dJ9_min_f86c9_2 ?_
  refine v_if_gt (tgt := 10) E dJ9_min_f86c9_3 (by decide) (fun c1 => ?_) (fun c1 => ?_)
  · rw [if_pos c1] at h
    refine v_lload_n E dJ9_min_f86c9_10 rfl ?_
    replace h := Option.some.inj h
    subst h
    refine v_widen (k' := 0) (n' := 0) (Nat.le_of_ble_eq_true rfl) (Nat.le_of_ble_eq_true rfl) ?_
    exact v_lret E dJ9_min_f86c9_11
  · rw [if_neg c1] at h
    refine v_lload_n E dJ9_min_f86c9_6 rfl ?_
    refine v_goto (tgt := 11) E dJ9_min_f86c9_7 (by decide) ?_
    replace h := Option.some.inj h
    subst h
    refine v_widen (k' := 0) (n' := 0) (Nat.le_of_ble_eq_true rfl) (Nat.le_of_ble_eq_true rfl) ?_
    exact v_lret E dJ9_min_f86c9_11
noncomputable def fX12_init (A0 : AH) (o0 : Option Nat) : Option (AH) :=
  (rcv A0 13 o0).bind fun o0 =>
  (nA A0 14 2071 2071).bind fun A1 =>
  (pR A1 13 384 ((some o0)) ((some (Hs A0)))).bind fun A2 =>
  (nA A2 14 2 2).bind fun A3 =>
  (pR A3 13 385 ((some o0)) ((some (Hs A2)))).bind fun A4 =>
  (nA A4 15 2 2).bind fun A5 =>
  (pR A5 13 386 ((some o0)) ((some (Hs A4)))).bind fun A6 =>
  (nA A6 14 20 20).bind fun A7 =>
  (pR A7 13 389 ((some o0)) ((some (Hs A6)))).bind fun A8 =>
  (pI A8 13 391 ((some o0)) ((-1))).bind fun A9 =>
  (nA A9 14 20 20).bind fun A10 =>
  (pR A10 13 393 ((some o0)) ((some (Hs A9)))).bind fun A11 =>
  (nA A11 14 20 20).bind fun A12 =>
  (pR A12 13 394 ((some o0)) ((some (Hs A11)))).bind fun A13 =>
  (nA A13 14 32 32).bind fun A14 =>
  (pR A14 13 395 ((some o0)) ((some (Hs A13)))).bind fun A15 =>
  (nA A15 14 32 32).bind fun A16 =>
  (pR A16 13 397 ((some o0)) ((some (Hs A15)))).bind fun A17 =>
  (nA A17 14 10 10).bind fun A18 =>
  (pR A18 13 400 ((some o0)) ((some (Hs A17)))).bind fun A19 =>
  (nA A19 15 10 10).bind fun A20 =>
  (pR A20 13 401 ((some o0)) ((some (Hs A19)))).bind fun A21 =>
  (nA A21 14 10 10).bind fun A22 =>
  (pR A22 13 402 ((some o0)) ((some (Hs A21)))).bind fun A23 =>
  some A23
set_option maxRecDepth 100000 in
set_option maxHeartbeats 4000000 in
theorem kX12_init (l : Launch) {A0 : AH} {o0 : Option Nat} {r : AH} (h : fX12_init A0 o0 = some r) : (∃ a, o0 = some a ∧ Hk A0 a = 13) ∧ Cn l yX12_init cX12_init 1 none 1 20 11 2229 [vR o0] A0 none r := by
  unfold fX12_init at h
  replace h := bnd_e h
  obtain ⟨o1, e1, h⟩ := h
  obtain ⟨rfl, hk0⟩ := rcv_e e1
  refine ⟨⟨o1, rfl, hk0⟩, ?_⟩
  refine Cn.of (pad := 0) (lv0 := [some (vR (some o1))]) (by decide +kernel) (Nat.le_of_ble_eq_true rfl) rfl ?_
  intro p e s m below meth c base D cy E
  generalize (List.map toV [vR (some o1)]).toArray = ar at E ⊢
  have E : EN p s m ar meth c D cy RX12 cX12_init 1 none "<init>" := E
  refine v_aload_n E dX12_init_0 rfl ?_
  refine v_objInit E q1022 q107 q108 ⟨_, rfl⟩ dX12_init_1 (Nat.le_of_ble_eq_true rfl) (Nat.le_of_ble_eq_true rfl) ?_
  refine v_aload_n E dX12_init_4 rfl ?_
  refine v_sipush (v := 2071) E dX12_init_5 (by decide) ?_
  replace h := bnd_e h
  obtain ⟨A1, eA1, h⟩ := h
  refine v_newi E q140 eA1 (Nat.le_of_ble_eq_true rfl) (Nat.le_of_ble_eq_true rfl) (by decide) dX12_init_8 ?_
  replace h := bnd_e h
  obtain ⟨A2, eA2, h⟩ := h
  refine p12_7 E eA2 dX12_init_10 ?_
  refine v_aload_n E dX12_init_13 rfl ?_
  refine v_iconst (v := 2) E dX12_init_14 (by decide) ?_
  replace h := bnd_e h
  obtain ⟨A3, eA3, h⟩ := h
  refine v_newi E q140 eA3 (Nat.le_of_ble_eq_true rfl) (Nat.le_of_ble_eq_true rfl) (by decide) dX12_init_15 ?_
  replace h := bnd_e h
  obtain ⟨A4, eA4, h⟩ := h
  refine p12_13 E eA4 dX12_init_17 ?_
  refine v_aload_n E dX12_init_20 rfl ?_
  refine v_iconst (v := 2) E dX12_init_21 (by decide) ?_
  replace h := bnd_e h
  obtain ⟨A5, eA5, h⟩ := h
  refine v_newz E q664 eA5 (Nat.le_of_ble_eq_true rfl) (Nat.le_of_ble_eq_true rfl) (by decide) dX12_init_22 ?_
  replace h := bnd_e h
  obtain ⟨A6, eA6, h⟩ := h
  refine p12_16 E eA6 dX12_init_24 ?_
  refine v_aload_n E dX12_init_27 rfl ?_
  refine v_bipush (v := 20) E dX12_init_28 (by decide) ?_
  replace h := bnd_e h
  obtain ⟨A7, eA7, h⟩ := h
  refine v_newi E q140 eA7 (Nat.le_of_ble_eq_true rfl) (Nat.le_of_ble_eq_true rfl) (by decide) dX12_init_30 ?_
  replace h := bnd_e h
  obtain ⟨A8, eA8, h⟩ := h
  refine p12_20 E eA8 dX12_init_32 ?_
  refine v_aload_n E dX12_init_35 rfl ?_
  refine v_iconst (v := (-1)) E dX12_init_36 (by decide) ?_
  replace h := bnd_e h
  obtain ⟨A9, eA9, h⟩ := h
  refine p12_23 E eA9 dX12_init_37 ?_
  refine v_aload_n E dX12_init_40 rfl ?_
  refine v_bipush (v := 20) E dX12_init_41 (by decide) ?_
  replace h := bnd_e h
  obtain ⟨A10, eA10, h⟩ := h
  refine v_newi E q140 eA10 (Nat.le_of_ble_eq_true rfl) (Nat.le_of_ble_eq_true rfl) (by decide) dX12_init_43 ?_
  replace h := bnd_e h
  obtain ⟨A11, eA11, h⟩ := h
  refine p12_27 E eA11 dX12_init_45 ?_
  refine v_aload_n E dX12_init_48 rfl ?_
  refine v_bipush (v := 20) E dX12_init_49 (by decide) ?_
  replace h := bnd_e h
  obtain ⟨A12, eA12, h⟩ := h
  refine v_newi E q140 eA12 (Nat.le_of_ble_eq_true rfl) (Nat.le_of_ble_eq_true rfl) (by decide) dX12_init_51 ?_
  replace h := bnd_e h
  obtain ⟨A13, eA13, h⟩ := h
  refine p12_30 E eA13 dX12_init_53 ?_
  refine v_aload_n E dX12_init_56 rfl ?_
  refine v_bipush (v := 32) E dX12_init_57 (by decide) ?_
  replace h := bnd_e h
  obtain ⟨A14, eA14, h⟩ := h
  refine v_newi E q140 eA14 (Nat.le_of_ble_eq_true rfl) (Nat.le_of_ble_eq_true rfl) (by decide) dX12_init_59 ?_
  replace h := bnd_e h
  obtain ⟨A15, eA15, h⟩ := h
  refine p12_33 E eA15 dX12_init_61 ?_
  refine v_aload_n E dX12_init_64 rfl ?_
  refine v_bipush (v := 32) E dX12_init_65 (by decide) ?_
  replace h := bnd_e h
  obtain ⟨A16, eA16, h⟩ := h
  refine v_newi E q140 eA16 (Nat.le_of_ble_eq_true rfl) (Nat.le_of_ble_eq_true rfl) (by decide) dX12_init_67 ?_
  replace h := bnd_e h
  obtain ⟨A17, eA17, h⟩ := h
  refine p12_36 E eA17 dX12_init_69 ?_
  refine v_aload_n E dX12_init_72 rfl ?_
  refine v_bipush (v := 10) E dX12_init_73 (by decide) ?_
  replace h := bnd_e h
  obtain ⟨A18, eA18, h⟩ := h
  refine v_newi E q140 eA18 (Nat.le_of_ble_eq_true rfl) (Nat.le_of_ble_eq_true rfl) (by decide) dX12_init_75 ?_
  replace h := bnd_e h
  obtain ⟨A19, eA19, h⟩ := h
  refine p12_39 E eA19 dX12_init_77 ?_
  refine v_aload_n E dX12_init_80 rfl ?_
  refine v_bipush (v := 10) E dX12_init_81 (by decide) ?_
  replace h := bnd_e h
  obtain ⟨A20, eA20, h⟩ := h
  refine v_newz E q664 eA20 (Nat.le_of_ble_eq_true rfl) (Nat.le_of_ble_eq_true rfl) (by decide) dX12_init_83 ?_
  replace h := bnd_e h
  obtain ⟨A21, eA21, h⟩ := h
  refine p12_42 E eA21 dX12_init_85 ?_
  refine v_aload_n E dX12_init_88 rfl ?_
  refine v_bipush (v := 10) E dX12_init_89 (by decide) ?_
  replace h := bnd_e h
  obtain ⟨A22, eA22, h⟩ := h
  refine v_newi E q140 eA22 (Nat.le_of_ble_eq_true rfl) (Nat.le_of_ble_eq_true rfl) (by decide) dX12_init_91 ?_
  replace h := bnd_e h
  obtain ⟨A23, eA23, h⟩ := h
  refine p12_45 E eA23 dX12_init_93 ?_
  replace h := Option.some.inj h
  subst h
  refine v_widen (k' := 11) (n' := 2229) (Nat.le_of_ble_eq_true rfl) (Nat.le_of_ble_eq_true rfl) ?_
  exact v_vret E dX12_init_96
noncomputable def fX12_in (A0 : AH) (a1 : Int64) (a2 : Int64) (a3 : Int64) : Option (Int32) :=
  if (lg_cmp a1 a2) < 0 then
    some 0
  else
    if 0 < (lg_cmp a1 a3) then
      some 0
    else
      some 1
set_option maxRecDepth 100000 in
set_option maxHeartbeats 4000000 in
theorem kX12_in (l : Launch) {A0 : AH} {a1 : Int64} {a2 : Int64} {a3 : Int64} {r : Int32} (h : fX12_in A0 a1 a2 a3 = some r) : Cn l yX12_in cX12_in 6 (some .boolean) 0 0 0 0 [vJ a1, vJ a2, vJ a3] A0 (some (vI r)) A0 := by
  unfold fX12_in at h
  refine Cn.of (pad := 0) (lv0 := [some (vJ a1), none, some (vJ a2), none, some (vJ a3), none]) (by decide +kernel) (Nat.le_of_ble_eq_true rfl) rfl ?_
  intro p e s m below meth c base D cy E
  generalize (List.map toV [vJ a1, vJ a2, vJ a3]).toArray = ar at E ⊢
  have E : EN p s m ar meth c D cy RX12 cX12_in 6 (some .boolean) "in" := E
  refine v_lload_n E dX12_in_0 rfl ?_
  refine v_lload_n E dX12_in_1 rfl ?_
  refine v_lcmp E dX12_in_2 ?_
  refine v_if_lt (tgt := 17) E dX12_in_3 (by decide) (fun c2 => ?_) (fun c2 => ?_)
  · rw [if_pos c2] at h
    refine v_iconst (v := 0) E dX12_in_17 (by decide) ?_
    replace h := Option.some.inj h
    subst h
    refine v_widen (k' := 0) (n' := 0) (Nat.le_of_ble_eq_true rfl) (Nat.le_of_ble_eq_true rfl) ?_
    exact v_zret E (Or.inl rfl) dX12_in_18
  · rw [if_neg c2] at h
    refine v_lload_n E dX12_in_6 rfl ?_
    refine v_lload E dX12_in_7 rfl ?_
    refine v_lcmp E dX12_in_9 ?_
    refine v_if_gt (tgt := 17) E dX12_in_10 (by decide) (fun c1 => ?_) (fun c1 => ?_)
    · rw [if_pos c1] at h
      refine v_iconst (v := 0) E dX12_in_17 (by decide) ?_
      replace h := Option.some.inj h
      subst h
      refine v_widen (k' := 0) (n' := 0) (Nat.le_of_ble_eq_true rfl) (Nat.le_of_ble_eq_true rfl) ?_
      exact v_zret E (Or.inl rfl) dX12_in_18
    · rw [if_neg c1] at h
      refine v_iconst (v := 1) E dX12_in_13 (by decide) ?_
      refine v_goto (tgt := 18) E dX12_in_14 (by decide) ?_
      replace h := Option.some.inj h
      subst h
      refine v_widen (k' := 0) (n' := 0) (Nat.le_of_ble_eq_true rfl) (Nat.le_of_ble_eq_true rfl) ?_
      exact v_zret E (Or.inr rfl) dX12_in_18
noncomputable def fX12_has (A0 : AH) (a1 : Int32) (a2 : Int32) : Option (Int32) :=
  if (((a1 : Int32) >>> ((a2 : Int32) &&& 31)) &&& 1) = 1 then
    some 1
  else
    some 0
set_option maxRecDepth 100000 in
set_option maxHeartbeats 4000000 in
theorem kX12_has (l : Launch) {A0 : AH} {a1 : Int32} {a2 : Int32} {r : Int32} (h : fX12_has A0 a1 a2 = some r) : Cn l yX12_has cX12_has 2 (some .boolean) 0 0 0 0 [vI a1, vI a2] A0 (some (vI r)) A0 := by
  unfold fX12_has at h
  refine Cn.of (pad := 0) (lv0 := [some (vI a1), some (vI a2)]) (by decide +kernel) (Nat.le_of_ble_eq_true rfl) rfl ?_
  intro p e s m below meth c base D cy E
  generalize (List.map toV [vI a1, vI a2]).toArray = ar at E ⊢
  have E : EN p s m ar meth c D cy RX12 cX12_has 2 (some .boolean) "has" := E
  refine v_iload_n E dX12_has_0 rfl ?_
  refine v_iload_n E dX12_has_1 rfl ?_
  refine v_ishr E dX12_has_2 ?_
  refine v_iconst (v := 1) E dX12_has_3 (by decide) ?_
  refine v_iand E dX12_has_4 ?_
  refine v_iconst (v := 1) E dX12_has_5 (by decide) ?_
  refine v_icmp_ne (tgt := 13) E dX12_has_6 (by decide) (fun c1 => ?_) (fun c1 => ?_)
  · rw [if_neg c1] at h
    refine v_iconst (v := 0) E dX12_has_13 (by decide) ?_
    replace h := Option.some.inj h
    subst h
    refine v_widen (k' := 0) (n' := 0) (Nat.le_of_ble_eq_true rfl) (Nat.le_of_ble_eq_true rfl) ?_
    exact v_zret E (Or.inl rfl) dX12_has_14
  · rw [if_pos c1] at h
    refine v_iconst (v := 1) E dX12_has_9 (by decide) ?_
    refine v_goto (tgt := 14) E dX12_has_10 (by decide) ?_
    replace h := Option.some.inj h
    subst h
    refine v_widen (k' := 0) (n' := 0) (Nat.le_of_ble_eq_true rfl) (Nat.le_of_ble_eq_true rfl) ?_
    exact v_zret E (Or.inr rfl) dX12_has_14
noncomputable def fX12_ones (A0 : AH) (a1 : Int32) : Option (Int32) :=
  (iter (S := Int32 × Int32) (T := Int32) (fun s1 =>
      if 16 ≤ s1.2 then
        some (.inr s1.1)
      else
        some (.inl ((s1.1 + (((a1 : Int32) >>> ((s1.2 : Int32) &&& 31)) &&& 1)), (s1.2 + 1)))) (0, 0)).bind fun t2 =>
  some t2
set_option maxRecDepth 100000 in
set_option maxHeartbeats 4000000 in
theorem kX12_ones (l : Launch) {A0 : AH} {a1 : Int32} {r : Int32} (h : fX12_ones A0 a1 = some r) : Cn l yX12_ones cX12_ones 3 (some .int) 0 0 0 0 [vI a1] A0 (some (vI r)) A0 := by
  unfold fX12_ones at h
  refine Cn.of (pad := 2) (lv0 := [some (vI a1), none, none]) (by decide +kernel) (Nat.le_of_ble_eq_true rfl) rfl ?_
  intro p e s m below meth c base D cy E
  generalize (List.map toV [vI a1]).toArray = ar at E ⊢
  have E : EN p s m ar meth c D cy RX12 cX12_ones 3 (some .int) "ones" := E
  refine v_iconst (v := 0) E dX12_ones_0 (by decide) ?_
  refine v_istore_n (lv' := [some (vI a1), some (vI 0), none]) E dX12_ones_1 (by decide) rfl ?_
  refine v_iconst (v := 0) E dX12_ones_2 (by decide) ?_
  refine v_istore_n (lv' := [some (vI a1), some (vI 0), some (vI 0)]) E dX12_ones_3 (by decide) rfl ?_
  replace h := bnd_e h
  obtain ⟨t2, et2, h⟩ := h
  refine iter_V (S := Int32 × Int32) (T := Int32) (Ph := fun s1 => V p l e { frames := 0, cells := 0, slots := 0, locals := 0 } s m ar below meth c (MQ below (Qd base D cy (some (vI r)) A0) ar s 0 0 (fun q => base ≤ q)) base D cy 3 4 [some (vI a1), some (vI s1.1), some (vI s1.2)] [] A0 0 0) (Pt := fun t2 => V p l e { frames := 0, cells := 0, slots := 0, locals := 0 } s m ar below meth c (MQ below (Qd base D cy (some (vI r)) A0) ar s 0 0 (fun q => base ≤ q)) base D cy 3 24 [none, some (vI t2), none] [] A0 0 0) et2 (fun s1 w3 h hx => ?_) ?_
  · try dsimp only at h
    refine v_iload_n E dX12_ones_4 rfl ?_
    refine v_bipush (v := 16) E dX12_ones_5 (by decide) ?_
    refine v_icmp_ge (tgt := 24) E dX12_ones_7 (by decide) (fun c4 => ?_) (fun c4 => ?_)
    · rw [if_pos c4] at h
      refine v_drop (lv' := [none, some (vI s1.1), none]) [0, 2] rfl ?_
      replace h := Option.some.inj h
      subst h
      exact hx
    · rw [if_neg c4] at h
      refine v_iload_n E dX12_ones_10 rfl ?_
      refine v_iload_n E dX12_ones_11 rfl ?_
      refine v_iload_n E dX12_ones_12 rfl ?_
      refine v_ishr E dX12_ones_13 ?_
      refine v_iconst (v := 1) E dX12_ones_14 (by decide) ?_
      refine v_iand E dX12_ones_15 ?_
      refine v_iadd E dX12_ones_16 ?_
      refine v_istore_n (lv' := [some (vI a1), some (vI (s1.1 + (((a1 : Int32) >>> ((s1.2 : Int32) &&& 31)) &&& 1))), some (vI s1.2)]) E dX12_ones_17 (by decide) rfl ?_
      refine v_iinc (v := (s1.2 + 1)) (lv' := [some (vI a1), some (vI (s1.1 + (((a1 : Int32) >>> ((s1.2 : Int32) &&& 31)) &&& 1))), some (vI (s1.2 + 1))]) E dX12_ones_18 rfl (by rfl) (by decide) rfl ?_
      refine v_goto (tgt := 4) E dX12_ones_21 (by decide) ?_
      replace h := Option.some.inj h
      subst h
      exact hx
  · refine v_iload_n E dX12_ones_24 rfl ?_
    replace h := Option.some.inj h
    subst h
    refine v_widen (k' := 0) (n' := 0) (Nat.le_of_ble_eq_true rfl) (Nat.le_of_ble_eq_true rfl) ?_
    exact v_iret E dX12_ones_25
noncomputable def fX12_copy (A0 : AH) (o0 : Option Nat) (a1 : Int32) (a2 : Int32) : Option (AH) :=
  (rcv A0 13 o0).bind fun o0 =>
  (iter (S := Int32 × AH) (T := AH) (fun s1 =>
      if 109 ≤ s1.1 then
        some (.inr s1.2)
      else
        (gR s1.2 13 384 ((some o0))).bind fun v4 =>
        (gR s1.2 13 384 ((some o0))).bind fun v5 =>
        (aI s1.2 14 v5 ((a1 + s1.1))).bind fun v6 =>
        (sI s1.2 14 v4 ((a2 + s1.1)) v6).bind fun A7 =>
        some (.inl ((s1.1 + 1), A7))) (0, A0)).bind fun t2 =>
  some t2
set_option maxRecDepth 100000 in
set_option maxHeartbeats 4000000 in
theorem kX12_copy (l : Launch) {A0 : AH} {o0 : Option Nat} {a1 : Int32} {a2 : Int32} {r : AH} (h : fX12_copy A0 o0 a1 a2 = some r) : (∃ a, o0 = some a ∧ Hk A0 a = 13) ∧ Cn l yX12_copy cX12_copy 4 none 0 0 0 0 [vR o0, vI a1, vI a2] A0 none r := by
  unfold fX12_copy at h
  replace h := bnd_e h
  obtain ⟨o1, e1, h⟩ := h
  obtain ⟨rfl, hk0⟩ := rcv_e e1
  refine ⟨⟨o1, rfl, hk0⟩, ?_⟩
  refine Cn.of (pad := 1) (lv0 := [some (vR (some o1)), some (vI a1), some (vI a2), none]) (by decide +kernel) (Nat.le_of_ble_eq_true rfl) rfl ?_
  intro p e s m below meth c base D cy E
  generalize (List.map toV [vR (some o1), vI a1, vI a2]).toArray = ar at E ⊢
  have E : EN p s m ar meth c D cy RX12 cX12_copy 4 none "copy" := E
  refine v_iconst (v := 0) E dX12_copy_0 (by decide) ?_
  refine v_istore_n (lv' := [some (vR (some o1)), some (vI a1), some (vI a2), some (vI 0)]) E dX12_copy_1 (by decide) rfl ?_
  replace h := bnd_e h
  obtain ⟨t2, et2, h⟩ := h
  refine iter_V (S := Int32 × AH) (T := AH) (Ph := fun s1 => V p l e { frames := 0, cells := 0, slots := 0, locals := 0 } s m ar below meth c (MQ below (Qd base D cy none r) ar s 0 0 (fun q => base ≤ q)) base D cy 4 2 [some (vR (some o1)), some (vI a1), some (vI a2), some (vI s1.1)] [] s1.2 0 0) (Pt := fun t2 => V p l e { frames := 0, cells := 0, slots := 0, locals := 0 } s m ar below meth c (MQ below (Qd base D cy none r) ar s 0 0 (fun q => base ≤ q)) base D cy 4 30 [none, none, none, none] [] t2 0 0) et2 (fun s1 w3 h hx => ?_) ?_
  · try dsimp only at h
    refine v_iload_n E dX12_copy_2 rfl ?_
    refine v_bipush (v := 109) E dX12_copy_3 (by decide) ?_
    refine v_icmp_ge (tgt := 30) E dX12_copy_5 (by decide) (fun c8 => ?_) (fun c8 => ?_)
    · rw [if_pos c8] at h
      refine v_drop (lv' := [none, none, none, none]) [0, 1, 2, 3] rfl ?_
      replace h := Option.some.inj h
      subst h
      exact hx
    · rw [if_neg c8] at h
      refine v_aload_n E dX12_copy_8 rfl ?_
      replace h := bnd_e h
      obtain ⟨v4, ev4, h⟩ := h
      refine g12_7 E ev4 dX12_copy_9 ?_
      refine v_iload_n E dX12_copy_12 rfl ?_
      refine v_iload_n E dX12_copy_13 rfl ?_
      refine v_iadd E dX12_copy_14 ?_
      refine v_aload_n E dX12_copy_15 rfl ?_
      replace h := bnd_e h
      obtain ⟨v5, ev5, h⟩ := h
      refine g12_7 E ev5 dX12_copy_16 ?_
      refine v_iload_n E dX12_copy_19 rfl ?_
      refine v_iload_n E dX12_copy_20 rfl ?_
      refine v_iadd E dX12_copy_21 ?_
      replace h := bnd_e h
      obtain ⟨v6, ev6, h⟩ := h
      refine v_iaload E ev6 dX12_copy_22 ?_
      replace h := bnd_e h
      obtain ⟨A7, eA7, h⟩ := h
      refine v_iastore E eA7 dX12_copy_23 ?_
      refine v_iinc (v := (s1.1 + 1)) (lv' := [some (vR (some o1)), some (vI a1), some (vI a2), some (vI (s1.1 + 1))]) E dX12_copy_24 rfl (by rfl) (by decide) rfl ?_
      refine v_goto (tgt := 2) E dX12_copy_27 (by decide) ?_
      replace h := Option.some.inj h
      subst h
      exact hx
  · replace h := Option.some.inj h
    subst h
    refine v_widen (k' := 0) (n' := 0) (Nat.le_of_ble_eq_true rfl) (Nat.le_of_ble_eq_true rfl) ?_
    exact v_vret E dX12_copy_30
noncomputable def fX12_minds (A0 : AH) (o0 : Option Nat) : Option (AH) :=
  (rcv A0 13 o0).bind fun o0 =>
  (gI A0 13 387 ((some o0))).bind fun v1 =>
  jp (fun (x15 : AH) =>
    (gI x15 13 387 ((some o0))).bind fun v16 =>
    (fX12_copy x15 ((some o0)) 0 ((327 + (109 * v16)))).bind fun r17 =>
    (gI r17 13 387 ((some o0))).bind fun v18 =>
    (pI r17 13 387 ((some o0)) ((v18 + 1))).bind fun A19 =>
    some A19) fun K2 =>
    if v1 = 16 then
      (iter (S := Int32 × AH) (T := AH) (fun s3 =>
          if 1635 ≤ s3.1 then
            some (.inr s3.2)
          else
            (gR s3.2 13 384 ((some o0))).bind fun v6 =>
            (gR s3.2 13 384 ((some o0))).bind fun v7 =>
            (aI s3.2 14 v7 ((436 + s3.1))).bind fun v8 =>
            (sI s3.2 14 v6 ((327 + s3.1)) v8).bind fun A9 =>
            some (.inl ((s3.1 + 1), A9))) (0, A0)).bind fun t4 =>
      (gI t4 13 387 ((some o0))).bind fun v11 =>
      (pI t4 13 387 ((some o0)) ((v11 - 1))).bind fun A12 =>
      K2 A12
    else
      K2 A0
set_option maxRecDepth 100000 in
set_option maxHeartbeats 4000000 in
theorem kX12_minds (l : Launch) {A0 : AH} {o0 : Option Nat} {r : AH} (h : fX12_minds A0 o0 = some r) : (∃ a, o0 = some a ∧ Hk A0 a = 13) ∧ Cn l yX12_minds cX12_minds 2 none 1 23 0 0 [vR o0] A0 none r := by
  unfold fX12_minds at h
  replace h := bnd_e h
  obtain ⟨o1, e1, h⟩ := h
  obtain ⟨rfl, hk0⟩ := rcv_e e1
  refine ⟨⟨o1, rfl, hk0⟩, ?_⟩
  refine Cn.of (pad := 1) (lv0 := [some (vR (some o1)), none]) (by decide +kernel) (Nat.le_of_ble_eq_true rfl) rfl ?_
  intro p e s m below meth c base D cy E
  generalize (List.map toV [vR (some o1)]).toArray = ar at E ⊢
  have E : EN p s m ar meth c D cy RX12 cX12_minds 2 none "minds" := E
  refine v_aload_n E dX12_minds_0 rfl ?_
  replace h := bnd_e h
  obtain ⟨v1, ev1, h⟩ := h
  refine g12_48 E ev1 dX12_minds_1 ?_
  refine v_bipush (v := 16) E dX12_minds_4 (by decide) ?_
  refine jp_use h (fun K2 eK2 h => ?_)
  have hK2 : ∀ x15 : AH, K2 x15 = some r → V p l e { frames := 1, cells := 0, slots := 0, locals := 23 } s m ar below meth c (MQ below (Qd base D cy none r) ar s 0 0 (fun q => base ≤ q)) base D cy 2 54 [some (vR (some o1)), none] [] x15 0 0 := by
    intro x15 h
    rw [eK2] at h
    try dsimp only at h
    refine v_aload_n E dX12_minds_54 rfl ?_
    refine v_iconst (v := 0) E dX12_minds_55 (by decide) ?_
    refine v_sipush (v := 327) E dX12_minds_56 (by decide) ?_
    refine v_bipush (v := 109) E dX12_minds_59 (by decide) ?_
    refine v_aload_n E dX12_minds_61 rfl ?_
    replace h := bnd_e h
    obtain ⟨v16, ev16, h⟩ := h
    refine g12_48 E ev16 dX12_minds_62 ?_
    refine v_imul E dX12_minds_65 ?_
    refine v_iadd E dX12_minds_66 ?_
    replace h := bnd_e h
    obtain ⟨r17, er17, h⟩ := h
    refine v_callV (na := 2) (As := [vI 0, vI (327 + (109 * v16))]) (rest := []) (ci := 12) (q := (RX12, TX12, 20)) E gw12_51 (by decide +kernel) rfl rfl (by decide) (kX12_copy l er17).2 (kX12_copy l er17).1 rfl rfl dX12_minds_67 ⟨Nat.le_of_ble_eq_true rfl, Nat.le_of_ble_eq_true rfl⟩ ⟨(Nat.le_of_ble_eq_true rfl), (Nat.le_of_ble_eq_true rfl)⟩ (Nat.le_of_ble_eq_true rfl) ?_
    refine v_aload_n E dX12_minds_70 rfl ?_
    refine v_dup E dX12_minds_71 rfl ?_
    replace h := bnd_e h
    obtain ⟨v18, ev18, h⟩ := h
    refine g12_48 E ev18 dX12_minds_72 ?_
    refine v_iconst (v := 1) E dX12_minds_75 (by decide) ?_
    refine v_iadd E dX12_minds_76 ?_
    replace h := bnd_e h
    obtain ⟨A19, eA19, h⟩ := h
    refine p12_48 E eA19 dX12_minds_77 ?_
    replace h := Option.some.inj h
    subst h
    refine v_widen (k' := 0) (n' := 0) (Nat.le_of_ble_eq_true rfl) (Nat.le_of_ble_eq_true rfl) ?_
    exact v_vret E dX12_minds_80
  refine v_icmp_ne (tgt := 54) E dX12_minds_6 (by decide) (fun c14 => ?_) (fun c14 => ?_)
  · rw [if_neg c14] at h
    exact hK2 A0 h
  · rw [if_pos c14] at h
    refine v_iconst (v := 0) E dX12_minds_9 (by decide) ?_
    refine v_istore_n (lv' := [some (vR (some o1)), some (vI 0)]) E dX12_minds_10 (by decide) rfl ?_
    replace h := bnd_e h
    obtain ⟨t4, et4, h⟩ := h
    refine iter_V (S := Int32 × AH) (T := AH) (Ph := fun s3 => V p l e { frames := 1, cells := 0, slots := 0, locals := 23 } s m ar below meth c (MQ below (Qd base D cy none r) ar s 0 0 (fun q => base ≤ q)) base D cy 2 11 [some (vR (some o1)), some (vI s3.1)] [] s3.2 0 0) (Pt := fun t4 => V p l e { frames := 1, cells := 0, slots := 0, locals := 23 } s m ar below meth c (MQ below (Qd base D cy none r) ar s 0 0 (fun q => base ≤ q)) base D cy 2 44 [some (vR (some o1)), none] [] t4 0 0) et4 (fun s3 w5 h hx => ?_) ?_
    · try dsimp only at h
      refine v_iload_n E dX12_minds_11 rfl ?_
      refine v_sipush (v := 1635) E dX12_minds_12 (by decide) ?_
      refine v_icmp_ge (tgt := 44) E dX12_minds_15 (by decide) (fun c10 => ?_) (fun c10 => ?_)
      · rw [if_pos c10] at h
        refine v_drop (lv' := [some (vR (some o1)), none]) [1] rfl ?_
        replace h := Option.some.inj h
        subst h
        exact hx
      · rw [if_neg c10] at h
        refine v_aload_n E dX12_minds_18 rfl ?_
        replace h := bnd_e h
        obtain ⟨v6, ev6, h⟩ := h
        refine g12_7 E ev6 dX12_minds_19 ?_
        refine v_sipush (v := 327) E dX12_minds_22 (by decide) ?_
        refine v_iload_n E dX12_minds_25 rfl ?_
        refine v_iadd E dX12_minds_26 ?_
        refine v_aload_n E dX12_minds_27 rfl ?_
        replace h := bnd_e h
        obtain ⟨v7, ev7, h⟩ := h
        refine g12_7 E ev7 dX12_minds_28 ?_
        refine v_sipush (v := 436) E dX12_minds_31 (by decide) ?_
        refine v_iload_n E dX12_minds_34 rfl ?_
        refine v_iadd E dX12_minds_35 ?_
        replace h := bnd_e h
        obtain ⟨v8, ev8, h⟩ := h
        refine v_iaload E ev8 dX12_minds_36 ?_
        replace h := bnd_e h
        obtain ⟨A9, eA9, h⟩ := h
        refine v_iastore E eA9 dX12_minds_37 ?_
        refine v_iinc (v := (s3.1 + 1)) (lv' := [some (vR (some o1)), some (vI (s3.1 + 1))]) E dX12_minds_38 rfl (by rfl) (by decide) rfl ?_
        refine v_goto (tgt := 11) E dX12_minds_41 (by decide) ?_
        replace h := Option.some.inj h
        subst h
        exact hx
    · refine v_aload_n E dX12_minds_44 rfl ?_
      refine v_dup E dX12_minds_45 rfl ?_
      replace h := bnd_e h
      obtain ⟨v11, ev11, h⟩ := h
      refine g12_48 E ev11 dX12_minds_46 ?_
      refine v_iconst (v := 1) E dX12_minds_49 (by decide) ?_
      refine v_isub E dX12_minds_50 ?_
      replace h := bnd_e h
      obtain ⟨A12, eA12, h⟩ := h
      refine p12_48 E eA12 dX12_minds_51 ?_
      exact hK2 A12 h
noncomputable def fX12_isWord (A0 : AH) (o0 : Option Nat) (a1 : Int32) : Option (Int32) :=
  (rcv A0 13 o0).bind fun o0 =>
  (gR A0 13 384 ((some o0))).bind fun v1 =>
  (aI A0 14 v1 0).bind fun v2 =>
  (fX12_in A0 (((a1 : Int32).toInt64)) 0 ((((v2 - 1) : Int32).toInt64))).bind fun r3 =>
  (rz r3).bind fun z4 => some z4
set_option maxRecDepth 100000 in
set_option maxHeartbeats 4000000 in
theorem kX12_isWord (l : Launch) {A0 : AH} {o0 : Option Nat} {a1 : Int32} {r : Int32} (h : fX12_isWord A0 o0 a1 = some r) : (∃ a, o0 = some a ∧ Hk A0 a = 13) ∧ Cn l yX12_isWord cX12_isWord 2 (some .boolean) 1 25 0 0 [vR o0, vI a1] A0 (some (vI r)) A0 := by
  unfold fX12_isWord at h
  replace h := bnd_e h
  obtain ⟨o1, e1, h⟩ := h
  obtain ⟨rfl, hk0⟩ := rcv_e e1
  refine ⟨⟨o1, rfl, hk0⟩, ?_⟩
  refine Cn.of (pad := 0) (lv0 := [some (vR (some o1)), some (vI a1)]) (by decide +kernel) (Nat.le_of_ble_eq_true rfl) rfl ?_
  intro p e s m below meth c base D cy E
  generalize (List.map toV [vR (some o1), vI a1]).toArray = ar at E ⊢
  have E : EN p s m ar meth c D cy RX12 cX12_isWord 2 (some .boolean) "isWord" := E
  refine v_iload_n E dX12_isWord_0 rfl ?_
  refine v_i2l E dX12_isWord_1 ?_
  refine v_lconst (v := 0) E dX12_isWord_2 (by decide) ?_
  refine v_aload_n E dX12_isWord_3 rfl ?_
  replace h := bnd_e h
  obtain ⟨v1, ev1, h⟩ := h
  refine g12_7 E ev1 dX12_isWord_4 ?_
  refine v_iconst (v := 0) E dX12_isWord_7 (by decide) ?_
  replace h := bnd_e h
  obtain ⟨v2, ev2, h⟩ := h
  refine v_iaload E ev2 dX12_isWord_8 ?_
  refine v_iconst (v := 1) E dX12_isWord_9 (by decide) ?_
  refine v_isub E dX12_isWord_10 ?_
  refine v_i2l E dX12_isWord_11 ?_
  replace h := bnd_e h
  obtain ⟨r3, er3, h⟩ := h
  refine v_callS (na := 3) (As := [vJ ((a1 : Int32).toInt64), vJ 0, vJ (((v2 - 1) : Int32).toInt64)]) (rest := []) E gw12_55 (by decide +kernel) (kX12_in l er3) rfl rfl dX12_isWord_12 ⟨Nat.le_of_ble_eq_true rfl, Nat.le_of_ble_eq_true rfl⟩ ⟨(Nat.le_of_ble_eq_true rfl), (Nat.le_of_ble_eq_true rfl)⟩ (Nat.le_of_ble_eq_true rfl) ?_
  replace h := bnd_e h
  obtain ⟨z4, ez4, h⟩ := h
  obtain ⟨rfl, ez4⟩ := rz_e ez4
  replace h := Option.some.inj h
  subst h
  refine v_widen (k' := 0) (n' := 0) (Nat.le_of_ble_eq_true rfl) (Nat.le_of_ble_eq_true rfl) ?_
  exact v_zret E ez4 dX12_isWord_15
noncomputable def fX12_size (A0 : AH) (o0 : Option Nat) (a1 : Int32) : Option (Int32) :=
  (rcv A0 13 o0).bind fun o0 =>
  (gR A0 13 384 ((some o0))).bind fun v1 =>
  (aI A0 14 v1 ((1 + (18 * a1)))).bind fun v2 =>
  some v2
set_option maxRecDepth 100000 in
set_option maxHeartbeats 4000000 in
theorem kX12_size (l : Launch) {A0 : AH} {o0 : Option Nat} {a1 : Int32} {r : Int32} (h : fX12_size A0 o0 a1 = some r) : (∃ a, o0 = some a ∧ Hk A0 a = 13) ∧ Cn l yX12_size cX12_size 2 (some .int) 0 0 0 0 [vR o0, vI a1] A0 (some (vI r)) A0 := by
  unfold fX12_size at h
  replace h := bnd_e h
  obtain ⟨o1, e1, h⟩ := h
  obtain ⟨rfl, hk0⟩ := rcv_e e1
  refine ⟨⟨o1, rfl, hk0⟩, ?_⟩
  refine Cn.of (pad := 0) (lv0 := [some (vR (some o1)), some (vI a1)]) (by decide +kernel) (Nat.le_of_ble_eq_true rfl) rfl ?_
  intro p e s m below meth c base D cy E
  generalize (List.map toV [vR (some o1), vI a1]).toArray = ar at E ⊢
  have E : EN p s m ar meth c D cy RX12 cX12_size 2 (some .int) "size" := E
  refine v_aload_n E dX12_size_0 rfl ?_
  replace h := bnd_e h
  obtain ⟨v1, ev1, h⟩ := h
  refine g12_7 E ev1 dX12_size_1 ?_
  refine v_iconst (v := 1) E dX12_size_4 (by decide) ?_
  refine v_bipush (v := 18) E dX12_size_5 (by decide) ?_
  refine v_iload_n E dX12_size_7 rfl ?_
  refine v_imul E dX12_size_8 ?_
  refine v_iadd E dX12_size_9 ?_
  replace h := bnd_e h
  obtain ⟨v2, ev2, h⟩ := h
  refine v_iaload E ev2 dX12_size_10 ?_
  replace h := Option.some.inj h
  subst h
  refine v_widen (k' := 0) (n' := 0) (Nat.le_of_ble_eq_true rfl) (Nat.le_of_ble_eq_true rfl) ?_
  exact v_iret E dX12_size_11
noncomputable def fX12_signsOf (A0 : AH) (o0 : Option Nat) (a1 : Int32) : Option (Int32) :=
  (rcv A0 13 o0).bind fun o0 =>
  (gR A0 13 384 ((some o0))).bind fun v1 =>
  (aI A0 14 v1 (((1 + (18 * a1)) + 1))).bind fun v2 =>
  some v2
set_option maxRecDepth 100000 in
set_option maxHeartbeats 4000000 in
theorem kX12_signsOf (l : Launch) {A0 : AH} {o0 : Option Nat} {a1 : Int32} {r : Int32} (h : fX12_signsOf A0 o0 a1 = some r) : (∃ a, o0 = some a ∧ Hk A0 a = 13) ∧ Cn l yX12_signsOf cX12_signsOf 2 (some .int) 0 0 0 0 [vR o0, vI a1] A0 (some (vI r)) A0 := by
  unfold fX12_signsOf at h
  replace h := bnd_e h
  obtain ⟨o1, e1, h⟩ := h
  obtain ⟨rfl, hk0⟩ := rcv_e e1
  refine ⟨⟨o1, rfl, hk0⟩, ?_⟩
  refine Cn.of (pad := 0) (lv0 := [some (vR (some o1)), some (vI a1)]) (by decide +kernel) (Nat.le_of_ble_eq_true rfl) rfl ?_
  intro p e s m below meth c base D cy E
  generalize (List.map toV [vR (some o1), vI a1]).toArray = ar at E ⊢
  have E : EN p s m ar meth c D cy RX12 cX12_signsOf 2 (some .int) "signsOf" := E
  refine v_aload_n E dX12_signsOf_0 rfl ?_
  replace h := bnd_e h
  obtain ⟨v1, ev1, h⟩ := h
  refine g12_7 E ev1 dX12_signsOf_1 ?_
  refine v_iconst (v := 1) E dX12_signsOf_4 (by decide) ?_
  refine v_bipush (v := 18) E dX12_signsOf_5 (by decide) ?_
  refine v_iload_n E dX12_signsOf_7 rfl ?_
  refine v_imul E dX12_signsOf_8 ?_
  refine v_iadd E dX12_signsOf_9 ?_
  refine v_iconst (v := 1) E dX12_signsOf_10 (by decide) ?_
  refine v_iadd E dX12_signsOf_11 ?_
  replace h := bnd_e h
  obtain ⟨v2, ev2, h⟩ := h
  refine v_iaload E ev2 dX12_signsOf_12 ?_
  replace h := Option.some.inj h
  subst h
  refine v_widen (k' := 0) (n' := 0) (Nat.le_of_ble_eq_true rfl) (Nat.le_of_ble_eq_true rfl) ?_
  exact v_iret E dX12_signsOf_13
noncomputable def fX12_letterAt (A0 : AH) (o0 : Option Nat) (a1 : Int32) (a2 : Int32) : Option (Int32) :=
  (rcv A0 13 o0).bind fun o0 =>
  (gR A0 13 384 ((some o0))).bind fun v1 =>
  (aI A0 14 v1 ((((1 + (18 * a1)) + 2) + a2))).bind fun v2 =>
  some v2
set_option maxRecDepth 100000 in
set_option maxHeartbeats 4000000 in
theorem kX12_letterAt (l : Launch) {A0 : AH} {o0 : Option Nat} {a1 : Int32} {a2 : Int32} {r : Int32} (h : fX12_letterAt A0 o0 a1 a2 = some r) : (∃ a, o0 = some a ∧ Hk A0 a = 13) ∧ Cn l yX12_letterAt cX12_letterAt 3 (some .int) 0 0 0 0 [vR o0, vI a1, vI a2] A0 (some (vI r)) A0 := by
  unfold fX12_letterAt at h
  replace h := bnd_e h
  obtain ⟨o1, e1, h⟩ := h
  obtain ⟨rfl, hk0⟩ := rcv_e e1
  refine ⟨⟨o1, rfl, hk0⟩, ?_⟩
  refine Cn.of (pad := 0) (lv0 := [some (vR (some o1)), some (vI a1), some (vI a2)]) (by decide +kernel) (Nat.le_of_ble_eq_true rfl) rfl ?_
  intro p e s m below meth c base D cy E
  generalize (List.map toV [vR (some o1), vI a1, vI a2]).toArray = ar at E ⊢
  have E : EN p s m ar meth c D cy RX12 cX12_letterAt 3 (some .int) "letterAt" := E
  refine v_aload_n E dX12_letterAt_0 rfl ?_
  replace h := bnd_e h
  obtain ⟨v1, ev1, h⟩ := h
  refine g12_7 E ev1 dX12_letterAt_1 ?_
  refine v_iconst (v := 1) E dX12_letterAt_4 (by decide) ?_
  refine v_bipush (v := 18) E dX12_letterAt_5 (by decide) ?_
  refine v_iload_n E dX12_letterAt_7 rfl ?_
  refine v_imul E dX12_letterAt_8 ?_
  refine v_iadd E dX12_letterAt_9 ?_
  refine v_iconst (v := 2) E dX12_letterAt_10 (by decide) ?_
  refine v_iadd E dX12_letterAt_11 ?_
  refine v_iload_n E dX12_letterAt_12 rfl ?_
  refine v_iadd E dX12_letterAt_13 ?_
  replace h := bnd_e h
  obtain ⟨v2, ev2, h⟩ := h
  refine v_iaload E ev2 dX12_letterAt_14 ?_
  replace h := Option.some.inj h
  subst h
  refine v_widen (k' := 0) (n' := 0) (Nat.le_of_ble_eq_true rfl) (Nat.le_of_ble_eq_true rfl) ?_
  exact v_iret E dX12_letterAt_15
noncomputable def fX12_isLetter (A0 : AH) (o0 : Option Nat) (a1 : Int32) (a2 : Int32) : Option (Int32) :=
  (rcv A0 13 o0).bind fun o0 =>
  (fX12_size A0 ((some o0)) a1).bind fun r1 =>
  (fX12_in A0 (((a2 : Int32).toInt64)) 0 ((((r1 - 1) : Int32).toInt64))).bind fun r2 =>
  (rz r2).bind fun z3 => some z3
set_option maxRecDepth 100000 in
set_option maxHeartbeats 4000000 in
theorem kX12_isLetter (l : Launch) {A0 : AH} {o0 : Option Nat} {a1 : Int32} {a2 : Int32} {r : Int32} (h : fX12_isLetter A0 o0 a1 a2 = some r) : (∃ a, o0 = some a ∧ Hk A0 a = 13) ∧ Cn l yX12_isLetter cX12_isLetter 3 (some .boolean) 1 25 0 0 [vR o0, vI a1, vI a2] A0 (some (vI r)) A0 := by
  unfold fX12_isLetter at h
  replace h := bnd_e h
  obtain ⟨o1, e1, h⟩ := h
  obtain ⟨rfl, hk0⟩ := rcv_e e1
  refine ⟨⟨o1, rfl, hk0⟩, ?_⟩
  refine Cn.of (pad := 0) (lv0 := [some (vR (some o1)), some (vI a1), some (vI a2)]) (by decide +kernel) (Nat.le_of_ble_eq_true rfl) rfl ?_
  intro p e s m below meth c base D cy E
  generalize (List.map toV [vR (some o1), vI a1, vI a2]).toArray = ar at E ⊢
  have E : EN p s m ar meth c D cy RX12 cX12_isLetter 3 (some .boolean) "isLetter" := E
  refine v_iload_n E dX12_isLetter_0 rfl ?_
  refine v_i2l E dX12_isLetter_1 ?_
  refine v_lconst (v := 0) E dX12_isLetter_2 (by decide) ?_
  refine v_aload_n E dX12_isLetter_3 rfl ?_
  refine v_iload_n E dX12_isLetter_4 rfl ?_
  replace h := bnd_e h
  obtain ⟨r1, er1, h⟩ := h
  refine v_callV (na := 1) (As := [vI a1]) (rest := [vJ 0, vJ ((a2 : Int32).toInt64)]) (ci := 12) (q := (RX12, TX12, 20)) E gw12_59 (by decide +kernel) rfl rfl (by decide) (kX12_size l er1).2 (kX12_size l er1).1 rfl rfl dX12_isLetter_5 ⟨Nat.le_of_ble_eq_true rfl, Nat.le_of_ble_eq_true rfl⟩ ⟨(Nat.le_of_ble_eq_true rfl), (Nat.le_of_ble_eq_true rfl)⟩ (Nat.le_of_ble_eq_true rfl) ?_
  refine v_iconst (v := 1) E dX12_isLetter_8 (by decide) ?_
  refine v_isub E dX12_isLetter_9 ?_
  refine v_i2l E dX12_isLetter_10 ?_
  replace h := bnd_e h
  obtain ⟨r2, er2, h⟩ := h
  refine v_callS (na := 3) (As := [vJ ((a2 : Int32).toInt64), vJ 0, vJ (((r1 - 1) : Int32).toInt64)]) (rest := []) E gw12_55 (by decide +kernel) (kX12_in l er2) rfl rfl dX12_isLetter_11 ⟨Nat.le_of_ble_eq_true rfl, Nat.le_of_ble_eq_true rfl⟩ ⟨(Nat.le_of_ble_eq_true rfl), (Nat.le_of_ble_eq_true rfl)⟩ (Nat.le_of_ble_eq_true rfl) ?_
  replace h := bnd_e h
  obtain ⟨z3, ez3, h⟩ := h
  obtain ⟨rfl, ez3⟩ := rz_e ez3
  replace h := Option.some.inj h
  subst h
  refine v_widen (k' := 0) (n' := 0) (Nat.le_of_ble_eq_true rfl) (Nat.le_of_ble_eq_true rfl) ?_
  exact v_zret E ez3 dX12_isLetter_14
noncomputable def fX12_isStep (A0 : AH) (o0 : Option Nat) (a1 : Int32) (a2 : Int32) : Option (Int32) :=
  (rcv A0 13 o0).bind fun o0 =>
  (fX12_size A0 ((some o0)) a1).bind fun r1 =>
  jp (fun (x5 : Int64) =>
    (fX12_in A0 (((a2 : Int32).toInt64)) 0 x5).bind fun r6 =>
    (rz r6).bind fun z7 => some z7) fun K2 =>
    if r1 = 0 then
      K2 0
    else
      (fX12_size A0 ((some o0)) a1).bind fun r3 =>
      K2 (((((2 * r3) - 1) : Int32).toInt64))
set_option maxRecDepth 100000 in
set_option maxHeartbeats 4000000 in
theorem kX12_isStep (l : Launch) {A0 : AH} {o0 : Option Nat} {a1 : Int32} {a2 : Int32} {r : Int32} (h : fX12_isStep A0 o0 a1 a2 = some r) : (∃ a, o0 = some a ∧ Hk A0 a = 13) ∧ Cn l yX12_isStep cX12_isStep 3 (some .boolean) 1 25 0 0 [vR o0, vI a1, vI a2] A0 (some (vI r)) A0 := by
  unfold fX12_isStep at h
  replace h := bnd_e h
  obtain ⟨o1, e1, h⟩ := h
  obtain ⟨rfl, hk0⟩ := rcv_e e1
  refine ⟨⟨o1, rfl, hk0⟩, ?_⟩
  refine Cn.of (pad := 0) (lv0 := [some (vR (some o1)), some (vI a1), some (vI a2)]) (by decide +kernel) (Nat.le_of_ble_eq_true rfl) rfl ?_
  intro p e s m below meth c base D cy E
  generalize (List.map toV [vR (some o1), vI a1, vI a2]).toArray = ar at E ⊢
  have E : EN p s m ar meth c D cy RX12 cX12_isStep 3 (some .boolean) "isStep" := E
  refine v_iload_n E dX12_isStep_0 rfl ?_
  refine v_i2l E dX12_isStep_1 ?_
  refine v_lconst (v := 0) E dX12_isStep_2 (by decide) ?_
  refine v_aload_n E dX12_isStep_3 rfl ?_
  refine v_iload_n E dX12_isStep_4 rfl ?_
  replace h := bnd_e h
  obtain ⟨r1, er1, h⟩ := h
  refine v_callV (na := 1) (As := [vI a1]) (rest := [vJ 0, vJ ((a2 : Int32).toInt64)]) (ci := 12) (q := (RX12, TX12, 20)) E gw12_59 (by decide +kernel) rfl rfl (by decide) (kX12_size l er1).2 (kX12_size l er1).1 rfl rfl dX12_isStep_5 ⟨Nat.le_of_ble_eq_true rfl, Nat.le_of_ble_eq_true rfl⟩ ⟨(Nat.le_of_ble_eq_true rfl), (Nat.le_of_ble_eq_true rfl)⟩ (Nat.le_of_ble_eq_true rfl) ?_
  refine jp_use h (fun K2 eK2 h => ?_)
  have hK2 : ∀ x5 : Int64, K2 x5 = some r → V p l e { frames := 1, cells := 0, slots := 0, locals := 25 } s m ar below meth c (MQ below (Qd base D cy (some (vI r)) A0) ar s 0 0 (fun q => base ≤ q)) base D cy 3 25 [none, none, none] [vJ x5, vJ 0, vJ ((a2 : Int32).toInt64)] A0 0 0 := by
    intro x5 h
    rw [eK2] at h
    try dsimp only at h
    replace h := bnd_e h
    obtain ⟨r6, er6, h⟩ := h
    refine v_callS (na := 3) (As := [vJ ((a2 : Int32).toInt64), vJ 0, vJ x5]) (rest := []) E gw12_55 (by decide +kernel) (kX12_in l er6) rfl rfl dX12_isStep_25 ⟨Nat.le_of_ble_eq_true rfl, Nat.le_of_ble_eq_true rfl⟩ ⟨(Nat.le_of_ble_eq_true rfl), (Nat.le_of_ble_eq_true rfl)⟩ (Nat.le_of_ble_eq_true rfl) ?_
    replace h := bnd_e h
    obtain ⟨z7, ez7, h⟩ := h
    obtain ⟨rfl, ez7⟩ := rz_e ez7
    replace h := Option.some.inj h
    subst h
    refine v_widen (k' := 0) (n' := 0) (Nat.le_of_ble_eq_true rfl) (Nat.le_of_ble_eq_true rfl) ?_
    exact v_zret E ez7 dX12_isStep_28
  refine v_if_ne (tgt := 15) E dX12_isStep_8 (by decide) (fun c4 => ?_) (fun c4 => ?_)
  · rw [if_neg c4] at h
    refine v_iconst (v := 2) E dX12_isStep_15 (by decide) ?_
    refine v_aload_n E dX12_isStep_16 rfl ?_
    refine v_iload_n E dX12_isStep_17 rfl ?_
    replace h := bnd_e h
    obtain ⟨r3, er3, h⟩ := h
    refine v_callV (na := 1) (As := [vI a1]) (rest := [vI 2, vJ 0, vJ ((a2 : Int32).toInt64)]) (ci := 12) (q := (RX12, TX12, 20)) E gw12_59 (by decide +kernel) rfl rfl (by decide) (kX12_size l er3).2 (kX12_size l er3).1 rfl rfl dX12_isStep_18 ⟨Nat.le_of_ble_eq_true rfl, Nat.le_of_ble_eq_true rfl⟩ ⟨(Nat.le_of_ble_eq_true rfl), (Nat.le_of_ble_eq_true rfl)⟩ (Nat.le_of_ble_eq_true rfl) ?_
    refine v_imul E dX12_isStep_21 ?_
    refine v_iconst (v := 1) E dX12_isStep_22 (by decide) ?_
    refine v_isub E dX12_isStep_23 ?_
    refine v_i2l E dX12_isStep_24 ?_
    refine v_drop (lv' := [none, none, none]) [0, 1, 2] rfl ?_
    exact hK2 (((((2 * r3) - 1) : Int32).toInt64)) h
  · rw [if_pos c4] at h
    refine v_lconst (v := 0) E dX12_isStep_11 (by decide) ?_
    refine v_goto (tgt := 25) E dX12_isStep_12 (by decide) ?_
    refine v_drop (lv' := [none, none, none]) [0, 1, 2] rfl ?_
    exact hK2 0 h
noncomputable def fX12_place (A0 : AH) (o0 : Option Nat) (a1 : Int32) (a2 : Int32) (a3 : Int32) : Option (Int32) :=
  (rcv A0 13 o0).bind fun o0 =>
  (iter (S := Int32 × Int32) (T := Int32) (fun s1 =>
      (fX12_size A0 ((some o0)) a1).bind fun r4 =>
      if (2 * r4) ≤ s1.2 then
        some (.inr s1.1)
      else
        (fX12_letterAt A0 ((some o0)) a1 s1.2).bind fun r5 =>
        jp1 (α := Int32) (if r5 = a2 then
            if a3 = 1 then
              1
            else
              if s1.1 = (-1) then
                1
              else
                0
          else
            0) fun x10 =>
        jp1 (α := Int32) (if x10 = 0 then
              s1.1
            else
              s1.2) fun x13 =>
          some (.inl (x13, (s1.2 + 1)))) ((-1), 0)).bind fun t2 =>
  some t2
set_option maxRecDepth 100000 in
set_option maxHeartbeats 4000000 in
theorem kX12_place (l : Launch) {A0 : AH} {o0 : Option Nat} {a1 : Int32} {a2 : Int32} {a3 : Int32} {r : Int32} (h : fX12_place A0 o0 a1 a2 a3 = some r) : (∃ a, o0 = some a ∧ Hk A0 a = 13) ∧ Cn l yX12_place cX12_place 7 (some .int) 1 22 0 0 [vR o0, vI a1, vI a2, vI a3] A0 (some (vI r)) A0 := by
  unfold fX12_place at h
  replace h := bnd_e h
  obtain ⟨o1, e1, h⟩ := h
  obtain ⟨rfl, hk0⟩ := rcv_e e1
  refine ⟨⟨o1, rfl, hk0⟩, ?_⟩
  refine Cn.of (pad := 3) (lv0 := [some (vR (some o1)), some (vI a1), some (vI a2), some (vI a3), none, none, none]) (by decide +kernel) (Nat.le_of_ble_eq_true rfl) rfl ?_
  intro p e s m below meth c base D cy E
  generalize (List.map toV [vR (some o1), vI a1, vI a2, vI a3]).toArray = ar at E ⊢
  have E : EN p s m ar meth c D cy RX12 cX12_place 7 (some .int) "place" := E
  refine v_iconst (v := (-1)) E dX12_place_0 (by decide) ?_
  refine v_istore (lv' := [some (vR (some o1)), some (vI a1), some (vI a2), some (vI a3), some (vI (-1)), none, none]) E dX12_place_1 (by decide) rfl ?_
  refine v_iconst (v := 0) E dX12_place_3 (by decide) ?_
  refine v_istore (lv' := [some (vR (some o1)), some (vI a1), some (vI a2), some (vI a3), some (vI (-1)), some (vI 0), none]) E dX12_place_4 (by decide) rfl ?_
  replace h := bnd_e h
  obtain ⟨t2, et2, h⟩ := h
  refine iter_V (S := Int32 × Int32) (T := Int32) (Ph := fun s1 => V p l e { frames := 1, cells := 0, slots := 0, locals := 22 } s m ar below meth c (MQ below (Qd base D cy (some (vI r)) A0) ar s 0 0 (fun q => base ≤ q)) base D cy 7 6 [some (vR (some o1)), some (vI a1), some (vI a2), some (vI a3), some (vI s1.1), some (vI s1.2), none] [] A0 0 0) (Pt := fun t2 => V p l e { frames := 1, cells := 0, slots := 0, locals := 22 } s m ar below meth c (MQ below (Qd base D cy (some (vI r)) A0) ar s 0 0 (fun q => base ≤ q)) base D cy 7 67 [none, none, none, none, some (vI t2), none, none] [] A0 0 0) et2 (fun s1 w3 h hx => ?_) ?_
  · try dsimp only at h
    refine v_iload E dX12_place_6 rfl ?_
    refine v_iconst (v := 2) E dX12_place_8 (by decide) ?_
    refine v_aload_n E dX12_place_9 rfl ?_
    refine v_iload_n E dX12_place_10 rfl ?_
    replace h := bnd_e h
    obtain ⟨r4, er4, h⟩ := h
    refine v_callV (na := 1) (As := [vI a1]) (rest := [vI 2, vI s1.2]) (ci := 12) (q := (RX12, TX12, 20)) E gw12_59 (by decide +kernel) rfl rfl (by decide) (kX12_size l er4).2 (kX12_size l er4).1 rfl rfl dX12_place_11 ⟨Nat.le_of_ble_eq_true rfl, Nat.le_of_ble_eq_true rfl⟩ ⟨(Nat.le_of_ble_eq_true rfl), (Nat.le_of_ble_eq_true rfl)⟩ (Nat.le_of_ble_eq_true rfl) ?_
    refine v_imul E dX12_place_14 ?_
    refine v_icmp_ge (tgt := 67) E dX12_place_15 (by decide) (fun c14 => ?_) (fun c14 => ?_)
    · rw [if_pos c14] at h
      refine v_drop (lv' := [none, none, none, none, some (vI s1.1), none, none]) [0, 1, 2, 3, 5] rfl ?_
      replace h := Option.some.inj h
      subst h
      exact hx
    · rw [if_neg c14] at h
      refine v_aload_n E dX12_place_18 rfl ?_
      refine v_iload_n E dX12_place_19 rfl ?_
      refine v_iload E dX12_place_20 rfl ?_
      replace h := bnd_e h
      obtain ⟨r5, er5, h⟩ := h
      refine v_callV (na := 2) (As := [vI a1, vI s1.2]) (rest := []) (ci := 12) (q := (RX12, TX12, 20)) E gw12_63 (by decide +kernel) rfl rfl (by decide) (kX12_letterAt l er5).2 (kX12_letterAt l er5).1 rfl rfl dX12_place_22 ⟨Nat.le_of_ble_eq_true rfl, Nat.le_of_ble_eq_true rfl⟩ ⟨(Nat.le_of_ble_eq_true rfl), (Nat.le_of_ble_eq_true rfl)⟩ (Nat.le_of_ble_eq_true rfl) ?_
      refine v_iload_n E dX12_place_25 rfl ?_
      refine jp1_use h (fun K6 eK6 h => ?_)
      have hK6 : ∀ x10 : Int32, K6 x10 = some w3 → V p l e { frames := 1, cells := 0, slots := 0, locals := 22 } s m ar below meth c (MQ below (Qd base D cy (some (vI r)) A0) ar s 0 0 (fun q => base ≤ q)) base D cy 7 45 [some (vR (some o1)), some (vI a1), some (vI a2), some (vI a3), some (vI s1.1), some (vI s1.2), none] [vI x10] A0 0 0 := by
        intro x10 h
        rw [eK6] at h
        try dsimp only at h
        refine v_istore (lv' := [some (vR (some o1)), some (vI a1), some (vI a2), some (vI a3), some (vI s1.1), some (vI s1.2), some (vI x10)]) E dX12_place_45 (by decide) rfl ?_
        refine v_iload E dX12_place_47 rfl ?_
        refine jp1_use h (fun K11 eK11 h => ?_)
        have hK11 : ∀ x13 : Int32, K11 x13 = some w3 → V p l e { frames := 1, cells := 0, slots := 0, locals := 22 } s m ar below meth c (MQ below (Qd base D cy (some (vI r)) A0) ar s 0 0 (fun q => base ≤ q)) base D cy 7 59 [some (vR (some o1)), some (vI a1), some (vI a2), some (vI a3), none, some (vI s1.2), none] [vI x13] A0 0 0 := by
          intro x13 h
          rw [eK11] at h
          try dsimp only at h
          refine v_istore (lv' := [some (vR (some o1)), some (vI a1), some (vI a2), some (vI a3), some (vI x13), some (vI s1.2), none]) E dX12_place_59 (by decide) rfl ?_
          refine v_iinc (v := (s1.2 + 1)) (lv' := [some (vR (some o1)), some (vI a1), some (vI a2), some (vI a3), some (vI x13), some (vI (s1.2 + 1)), none]) E dX12_place_61 rfl (by rfl) (by decide) rfl ?_
          refine v_goto (tgt := 6) E dX12_place_64 (by decide) ?_
          replace h := Option.some.inj h
          subst h
          exact hx
        refine v_if_eq (tgt := 57) E dX12_place_49 (by decide) (fun c12 => ?_) (fun c12 => ?_)
        · rw [if_pos c12] at h
          refine v_iload E dX12_place_57 rfl ?_
          refine v_drop (lv' := [some (vR (some o1)), some (vI a1), some (vI a2), some (vI a3), none, some (vI s1.2), none]) [4, 6] rfl ?_
          exact hK11 s1.1 h
        · rw [if_neg c12] at h
          refine v_iload E dX12_place_52 rfl ?_
          refine v_goto (tgt := 59) E dX12_place_54 (by decide) ?_
          refine v_drop (lv' := [some (vR (some o1)), some (vI a1), some (vI a2), some (vI a3), none, some (vI s1.2), none]) [4, 6] rfl ?_
          exact hK11 s1.2 h
      refine v_icmp_ne (tgt := 44) E dX12_place_26 (by decide) (fun c9 => ?_) (fun c9 => ?_)
      · rw [if_neg c9] at h
        refine v_iconst (v := 0) E dX12_place_44 (by decide) ?_
        exact hK6 0 h
      · rw [if_pos c9] at h
        refine v_iload_n E dX12_place_29 rfl ?_
        refine v_iconst (v := 1) E dX12_place_30 (by decide) ?_
        refine v_icmp_eq (tgt := 40) E dX12_place_31 (by decide) (fun c8 => ?_) (fun c8 => ?_)
        · rw [if_pos c8] at h
          refine v_iconst (v := 1) E dX12_place_40 (by decide) ?_
          refine v_goto (tgt := 45) E dX12_place_41 (by decide) ?_
          exact hK6 1 h
        · rw [if_neg c8] at h
          refine v_iload E dX12_place_34 rfl ?_
          refine v_iconst (v := (-1)) E dX12_place_36 (by decide) ?_
          refine v_icmp_ne (tgt := 44) E dX12_place_37 (by decide) (fun c7 => ?_) (fun c7 => ?_)
          · rw [if_neg c7] at h
            refine v_iconst (v := 0) E dX12_place_44 (by decide) ?_
            exact hK6 0 h
          · rw [if_pos c7] at h
            refine v_iconst (v := 1) E dX12_place_40 (by decide) ?_
            refine v_goto (tgt := 45) E dX12_place_41 (by decide) ?_
            exact hK6 1 h
  · refine v_iload E dX12_place_67 rfl ?_
    replace h := Option.some.inj h
    subst h
    refine v_widen (k' := 0) (n' := 0) (Nat.le_of_ble_eq_true rfl) (Nat.le_of_ble_eq_true rfl) ?_
    exact v_iret E dX12_place_69
noncomputable def fX12_comes (A0 : AH) (o0 : Option Nat) (a1 : Int32) : Option (AH) :=
  (rcv A0 13 o0).bind fun o0 =>
  (gR A0 13 395 ((some o0))).bind fun v1 =>
  (gI A0 13 396 ((some o0))).bind fun v2 =>
  (sI A0 14 v1 v2 a1).bind fun A3 =>
  (gI A3 13 396 ((some o0))).bind fun v4 =>
  (pI A3 13 396 ((some o0)) ((v4 + 1))).bind fun A5 =>
  some A5
set_option maxRecDepth 100000 in
set_option maxHeartbeats 4000000 in
theorem kX12_comes (l : Launch) {A0 : AH} {o0 : Option Nat} {a1 : Int32} {r : AH} (h : fX12_comes A0 o0 a1 = some r) : (∃ a, o0 = some a ∧ Hk A0 a = 13) ∧ Cn l yX12_comes cX12_comes 2 none 0 0 0 0 [vR o0, vI a1] A0 none r := by
  unfold fX12_comes at h
  replace h := bnd_e h
  obtain ⟨o1, e1, h⟩ := h
  obtain ⟨rfl, hk0⟩ := rcv_e e1
  refine ⟨⟨o1, rfl, hk0⟩, ?_⟩
  refine Cn.of (pad := 0) (lv0 := [some (vR (some o1)), some (vI a1)]) (by decide +kernel) (Nat.le_of_ble_eq_true rfl) rfl ?_
  intro p e s m below meth c base D cy E
  generalize (List.map toV [vR (some o1), vI a1]).toArray = ar at E ⊢
  have E : EN p s m ar meth c D cy RX12 cX12_comes 2 none "comes" := E
  refine v_aload_n E dX12_comes_0 rfl ?_
  replace h := bnd_e h
  obtain ⟨v1, ev1, h⟩ := h
  refine g12_33 E ev1 dX12_comes_1 ?_
  refine v_aload_n E dX12_comes_4 rfl ?_
  replace h := bnd_e h
  obtain ⟨v2, ev2, h⟩ := h
  refine g12_67 E ev2 dX12_comes_5 ?_
  refine v_iload_n E dX12_comes_8 rfl ?_
  replace h := bnd_e h
  obtain ⟨A3, eA3, h⟩ := h
  refine v_iastore E eA3 dX12_comes_9 ?_
  refine v_aload_n E dX12_comes_10 rfl ?_
  refine v_dup E dX12_comes_11 rfl ?_
  replace h := bnd_e h
  obtain ⟨v4, ev4, h⟩ := h
  refine g12_67 E ev4 dX12_comes_12 ?_
  refine v_iconst (v := 1) E dX12_comes_15 (by decide) ?_
  refine v_iadd E dX12_comes_16 ?_
  replace h := bnd_e h
  obtain ⟨A5, eA5, h⟩ := h
  refine p12_67 E eA5 dX12_comes_17 ?_
  replace h := Option.some.inj h
  subst h
  refine v_widen (k' := 0) (n' := 0) (Nat.le_of_ble_eq_true rfl) (Nat.le_of_ble_eq_true rfl) ?_
  exact v_vret E dX12_comes_20
noncomputable def fX12_numberOf (A0 : AH) (o0 : Option Nat) (a1 : Int32) : Option (Int32) :=
  (rcv A0 13 o0).bind fun o0 =>
  (iter (S := Int32 × Int32) (T := Int32) (fun s1 =>
      (gR A0 13 395 ((some o0))).bind fun v4 =>
      (aI A0 14 v4 s1.2).bind fun v5 =>
      (gR A0 13 395 ((some o0))).bind fun v6 =>
      (aI A0 14 v6 a1).bind fun v7 =>
      if v5 = v7 then
        some (.inr s1.1)
      else
        (iter (S := Int32 × Int32) (T := Int32) (fun s8 =>
            if s1.2 ≤ s8.2 then
              some (.inr s8.1)
            else
              jp (fun (x18 : Int32) =>
                some (.inl (x18, (s8.2 + 1)))) fun K11 =>
                if s8.1 = 0 then
                  K11 0
                else
                  (gR A0 13 395 ((some o0))).bind fun v12 =>
                  (aI A0 14 v12 s8.2).bind fun v13 =>
                  (gR A0 13 395 ((some o0))).bind fun v14 =>
                  (aI A0 14 v14 s1.2).bind fun v15 =>
                  if v13 = v15 then
                    K11 0
                  else
                    K11 1) (1, 0)).bind fun t9 =>
        jp1 (α := Int32) (if t9 = 0 then
            0
          else
            1) fun x22 =>
        some (.inl ((s1.1 + x22), (s1.2 + 1)))) (0, 0)).bind fun t2 =>
  some t2
set_option maxRecDepth 100000 in
set_option maxHeartbeats 4000000 in
theorem kX12_numberOf (l : Launch) {A0 : AH} {o0 : Option Nat} {a1 : Int32} {r : Int32} (h : fX12_numberOf A0 o0 a1 = some r) : (∃ a, o0 = some a ∧ Hk A0 a = 13) ∧ Cn l yX12_numberOf cX12_numberOf 6 (some .int) 0 0 0 0 [vR o0, vI a1] A0 (some (vI r)) A0 := by
  unfold fX12_numberOf at h
  replace h := bnd_e h
  obtain ⟨o1, e1, h⟩ := h
  obtain ⟨rfl, hk0⟩ := rcv_e e1
  refine ⟨⟨o1, rfl, hk0⟩, ?_⟩
  refine Cn.of (pad := 4) (lv0 := [some (vR (some o1)), some (vI a1), none, none, none, none]) (by decide +kernel) (Nat.le_of_ble_eq_true rfl) rfl ?_
  intro p e s m below meth c base D cy E
  generalize (List.map toV [vR (some o1), vI a1]).toArray = ar at E ⊢
  have E : EN p s m ar meth c D cy RX12 cX12_numberOf 6 (some .int) "numberOf" := E
  refine v_iconst (v := 0) E dX12_numberOf_0 (by decide) ?_
  refine v_istore_n (lv' := [some (vR (some o1)), some (vI a1), some (vI 0), none, none, none]) E dX12_numberOf_1 (by decide) rfl ?_
  refine v_iconst (v := 0) E dX12_numberOf_2 (by decide) ?_
  refine v_istore_n (lv' := [some (vR (some o1)), some (vI a1), some (vI 0), some (vI 0), none, none]) E dX12_numberOf_3 (by decide) rfl ?_
  replace h := bnd_e h
  obtain ⟨t2, et2, h⟩ := h
  refine iter_V (S := Int32 × Int32) (T := Int32) (Ph := fun s1 => V p l e { frames := 0, cells := 0, slots := 0, locals := 0 } s m ar below meth c (MQ below (Qd base D cy (some (vI r)) A0) ar s 0 0 (fun q => base ≤ q)) base D cy 6 4 [some (vR (some o1)), some (vI a1), some (vI s1.1), some (vI s1.2), none, none] [] A0 0 0) (Pt := fun t2 => V p l e { frames := 0, cells := 0, slots := 0, locals := 0 } s m ar below meth c (MQ below (Qd base D cy (some (vI r)) A0) ar s 0 0 (fun q => base ≤ q)) base D cy 6 84 [none, none, some (vI t2), none, none, none] [] A0 0 0) et2 (fun s1 w3 h hx => ?_) ?_
  · try dsimp only at h
    refine v_aload_n E dX12_numberOf_4 rfl ?_
    replace h := bnd_e h
    obtain ⟨v4, ev4, h⟩ := h
    refine g12_33 E ev4 dX12_numberOf_5 ?_
    refine v_iload_n E dX12_numberOf_8 rfl ?_
    replace h := bnd_e h
    obtain ⟨v5, ev5, h⟩ := h
    refine v_iaload E ev5 dX12_numberOf_9 ?_
    refine v_aload_n E dX12_numberOf_10 rfl ?_
    replace h := bnd_e h
    obtain ⟨v6, ev6, h⟩ := h
    refine g12_33 E ev6 dX12_numberOf_11 ?_
    refine v_iload_n E dX12_numberOf_14 rfl ?_
    replace h := bnd_e h
    obtain ⟨v7, ev7, h⟩ := h
    refine v_iaload E ev7 dX12_numberOf_15 ?_
    refine v_icmp_eq (tgt := 84) E dX12_numberOf_16 (by decide) (fun c24 => ?_) (fun c24 => ?_)
    · rw [if_pos c24] at h
      refine v_drop (lv' := [none, none, some (vI s1.1), none, none, none]) [0, 1, 3] rfl ?_
      replace h := Option.some.inj h
      subst h
      exact hx
    · rw [if_neg c24] at h
      refine v_iconst (v := 1) E dX12_numberOf_19 (by decide) ?_
      refine v_istore (lv' := [some (vR (some o1)), some (vI a1), some (vI s1.1), some (vI s1.2), some (vI 1), none]) E dX12_numberOf_20 (by decide) rfl ?_
      refine v_iconst (v := 0) E dX12_numberOf_22 (by decide) ?_
      refine v_istore (lv' := [some (vR (some o1)), some (vI a1), some (vI s1.1), some (vI s1.2), some (vI 1), some (vI 0)]) E dX12_numberOf_23 (by decide) rfl ?_
      replace h := bnd_e h
      obtain ⟨t9, et9, h⟩ := h
      refine iter_V (S := Int32 × Int32) (T := Int32) (Ph := fun s8 => V p l e { frames := 0, cells := 0, slots := 0, locals := 0 } s m ar below meth c (MQ below (Qd base D cy (some (vI r)) A0) ar s 0 0 (fun q => base ≤ q)) base D cy 6 25 [some (vR (some o1)), some (vI a1), some (vI s1.1), some (vI s1.2), some (vI s8.1), some (vI s8.2)] [] A0 0 0) (Pt := fun t9 => V p l e { frames := 0, cells := 0, slots := 0, locals := 0 } s m ar below meth c (MQ below (Qd base D cy (some (vI r)) A0) ar s 0 0 (fun q => base ≤ q)) base D cy 6 65 [some (vR (some o1)), some (vI a1), some (vI s1.1), some (vI s1.2), some (vI t9), none] [] A0 0 0) et9 (fun s8 w10 h hx => ?_) ?_
      · try dsimp only at h
        refine v_iload E dX12_numberOf_25 rfl ?_
        refine v_iload_n E dX12_numberOf_27 rfl ?_
        refine v_icmp_ge (tgt := 65) E dX12_numberOf_28 (by decide) (fun c19 => ?_) (fun c19 => ?_)
        · rw [if_pos c19] at h
          refine v_drop (lv' := [some (vR (some o1)), some (vI a1), some (vI s1.1), some (vI s1.2), some (vI s8.1), none]) [5] rfl ?_
          replace h := Option.some.inj h
          subst h
          exact hx
        · rw [if_neg c19] at h
          refine v_iload E dX12_numberOf_31 rfl ?_
          refine jp_use h (fun K11 eK11 h => ?_)
          have hK11 : ∀ x18 : Int32, K11 x18 = some w10 → V p l e { frames := 0, cells := 0, slots := 0, locals := 0 } s m ar below meth c (MQ below (Qd base D cy (some (vI r)) A0) ar s 0 0 (fun q => base ≤ q)) base D cy 6 57 [some (vR (some o1)), some (vI a1), some (vI s1.1), some (vI s1.2), none, some (vI s8.2)] [vI x18] A0 0 0 := by
            intro x18 h
            rw [eK11] at h
            try dsimp only at h
            refine v_istore (lv' := [some (vR (some o1)), some (vI a1), some (vI s1.1), some (vI s1.2), some (vI x18), some (vI s8.2)]) E dX12_numberOf_57 (by decide) rfl ?_
            refine v_iinc (v := (s8.2 + 1)) (lv' := [some (vR (some o1)), some (vI a1), some (vI s1.1), some (vI s1.2), some (vI x18), some (vI (s8.2 + 1))]) E dX12_numberOf_59 rfl (by rfl) (by decide) rfl ?_
            refine v_goto (tgt := 25) E dX12_numberOf_62 (by decide) ?_
            replace h := Option.some.inj h
            subst h
            exact hx
          refine v_if_eq (tgt := 56) E dX12_numberOf_33 (by decide) (fun c17 => ?_) (fun c17 => ?_)
          · rw [if_pos c17] at h
            refine v_iconst (v := 0) E dX12_numberOf_56 (by decide) ?_
            refine v_drop (lv' := [some (vR (some o1)), some (vI a1), some (vI s1.1), some (vI s1.2), none, some (vI s8.2)]) [4] rfl ?_
            exact hK11 0 h
          · rw [if_neg c17] at h
            refine v_aload_n E dX12_numberOf_36 rfl ?_
            replace h := bnd_e h
            obtain ⟨v12, ev12, h⟩ := h
            refine g12_33 E ev12 dX12_numberOf_37 ?_
            refine v_iload E dX12_numberOf_40 rfl ?_
            replace h := bnd_e h
            obtain ⟨v13, ev13, h⟩ := h
            refine v_iaload E ev13 dX12_numberOf_42 ?_
            refine v_aload_n E dX12_numberOf_43 rfl ?_
            replace h := bnd_e h
            obtain ⟨v14, ev14, h⟩ := h
            refine g12_33 E ev14 dX12_numberOf_44 ?_
            refine v_iload_n E dX12_numberOf_47 rfl ?_
            replace h := bnd_e h
            obtain ⟨v15, ev15, h⟩ := h
            refine v_iaload E ev15 dX12_numberOf_48 ?_
            refine v_icmp_eq (tgt := 56) E dX12_numberOf_49 (by decide) (fun c16 => ?_) (fun c16 => ?_)
            · rw [if_pos c16] at h
              refine v_iconst (v := 0) E dX12_numberOf_56 (by decide) ?_
              refine v_drop (lv' := [some (vR (some o1)), some (vI a1), some (vI s1.1), some (vI s1.2), none, some (vI s8.2)]) [4] rfl ?_
              exact hK11 0 h
            · rw [if_neg c16] at h
              refine v_iconst (v := 1) E dX12_numberOf_52 (by decide) ?_
              refine v_goto (tgt := 57) E dX12_numberOf_53 (by decide) ?_
              refine v_drop (lv' := [some (vR (some o1)), some (vI a1), some (vI s1.1), some (vI s1.2), none, some (vI s8.2)]) [4] rfl ?_
              exact hK11 1 h
      · refine v_iload_n E dX12_numberOf_65 rfl ?_
        refine v_iload E dX12_numberOf_66 rfl ?_
        refine jp1_use h (fun K20 eK20 h => ?_)
        have hK20 : ∀ x22 : Int32, K20 x22 = some w3 → V p l e { frames := 0, cells := 0, slots := 0, locals := 0 } s m ar below meth c (MQ below (Qd base D cy (some (vI r)) A0) ar s 0 0 (fun q => base ≤ q)) base D cy 6 76 [some (vR (some o1)), some (vI a1), none, some (vI s1.2), none, none] [vI x22, vI s1.1] A0 0 0 := by
          intro x22 h
          rw [eK20] at h
          try dsimp only at h
          refine v_iadd E dX12_numberOf_76 ?_
          refine v_istore_n (lv' := [some (vR (some o1)), some (vI a1), some (vI (s1.1 + x22)), some (vI s1.2), none, none]) E dX12_numberOf_77 (by decide) rfl ?_
          refine v_iinc (v := (s1.2 + 1)) (lv' := [some (vR (some o1)), some (vI a1), some (vI (s1.1 + x22)), some (vI (s1.2 + 1)), none, none]) E dX12_numberOf_78 rfl (by rfl) (by decide) rfl ?_
          refine v_goto (tgt := 4) E dX12_numberOf_81 (by decide) ?_
          replace h := Option.some.inj h
          subst h
          exact hx
        refine v_if_eq (tgt := 75) E dX12_numberOf_68 (by decide) (fun c21 => ?_) (fun c21 => ?_)
        · rw [if_pos c21] at h
          refine v_iconst (v := 0) E dX12_numberOf_75 (by decide) ?_
          refine v_drop (lv' := [some (vR (some o1)), some (vI a1), none, some (vI s1.2), none, none]) [2, 4] rfl ?_
          exact hK20 0 h
        · rw [if_neg c21] at h
          refine v_iconst (v := 1) E dX12_numberOf_71 (by decide) ?_
          refine v_goto (tgt := 76) E dX12_numberOf_72 (by decide) ?_
          refine v_drop (lv' := [some (vR (some o1)), some (vI a1), none, some (vI s1.2), none, none]) [2, 4] rfl ?_
          exact hK20 1 h
  · refine v_iload_n E dX12_numberOf_84 rfl ?_
    replace h := Option.some.inj h
    subst h
    refine v_widen (k' := 0) (n' := 0) (Nat.le_of_ble_eq_true rfl) (Nat.le_of_ble_eq_true rfl) ?_
    exact v_iret E dX12_numberOf_85
noncomputable def fX12_lays (A0 : AH) (o0 : Option Nat) (a1 : Int32) : Option (Int32 × AH) :=
  (rcv A0 13 o0).bind fun o0 =>
  (gR A0 13 384 ((some o0))).bind fun v1 =>
  (gI A0 13 396 ((some o0))).bind fun v2 =>
  (dvI v2 2).bind fun v3 =>
  (sI A0 14 v1 ((1 + (18 * a1))) v3).bind fun A4 =>
  (gR A4 13 384 ((some o0))).bind fun v5 =>
  (sI A4 14 v5 (((1 + (18 * a1)) + 1)) 0).bind fun A6 =>
  (iter (S := Int32 × AH) (T := AH) (fun s7 =>
      (gI s7.2 13 396 ((some o0))).bind fun v10 =>
      if v10 ≤ s7.1 then
        some (.inr s7.2)
      else
        (gR s7.2 13 384 ((some o0))).bind fun v11 =>
        (fX12_numberOf s7.2 ((some o0)) s7.1).bind fun r12 =>
        (sI s7.2 14 v11 ((((1 + (18 * a1)) + 2) + s7.1)) r12).bind fun A13 =>
        some (.inl ((s7.1 + 1), A13))) (0, A6)).bind fun t8 =>
  (gI t8 13 396 ((some o0))).bind fun v15 =>
  (dvI v15 2).bind fun v16 =>
  some ((v16, t8))
set_option maxRecDepth 100000 in
set_option maxHeartbeats 4000000 in
theorem kX12_lays (l : Launch) {A0 : AH} {o0 : Option Nat} {a1 : Int32} {r : Int32 × AH} (h : fX12_lays A0 o0 a1 = some r) : (∃ a, o0 = some a ∧ Hk A0 a = 13) ∧ Cn l yX12_lays cX12_lays 3 (some .int) 1 25 0 0 [vR o0, vI a1] A0 (some (vI r.1)) r.2 := by
  unfold fX12_lays at h
  replace h := bnd_e h
  obtain ⟨o1, e1, h⟩ := h
  obtain ⟨rfl, hk0⟩ := rcv_e e1
  refine ⟨⟨o1, rfl, hk0⟩, ?_⟩
  refine Cn.of (pad := 1) (lv0 := [some (vR (some o1)), some (vI a1), none]) (by decide +kernel) (Nat.le_of_ble_eq_true rfl) rfl ?_
  intro p e s m below meth c base D cy E
  generalize (List.map toV [vR (some o1), vI a1]).toArray = ar at E ⊢
  have E : EN p s m ar meth c D cy RX12 cX12_lays 3 (some .int) "lays" := E
  refine v_aload_n E dX12_lays_0 rfl ?_
  replace h := bnd_e h
  obtain ⟨v1, ev1, h⟩ := h
  refine g12_7 E ev1 dX12_lays_1 ?_
  refine v_iconst (v := 1) E dX12_lays_4 (by decide) ?_
  refine v_bipush (v := 18) E dX12_lays_5 (by decide) ?_
  refine v_iload_n E dX12_lays_7 rfl ?_
  refine v_imul E dX12_lays_8 ?_
  refine v_iadd E dX12_lays_9 ?_
  refine v_aload_n E dX12_lays_10 rfl ?_
  replace h := bnd_e h
  obtain ⟨v2, ev2, h⟩ := h
  refine g12_67 E ev2 dX12_lays_11 ?_
  refine v_iconst (v := 2) E dX12_lays_14 (by decide) ?_
  replace h := bnd_e h
  obtain ⟨v3, ev3, h⟩ := h
  refine v_idiv E ev3 dX12_lays_15 ?_
  replace h := bnd_e h
  obtain ⟨A4, eA4, h⟩ := h
  refine v_iastore E eA4 dX12_lays_16 ?_
  refine v_aload_n E dX12_lays_17 rfl ?_
  replace h := bnd_e h
  obtain ⟨v5, ev5, h⟩ := h
  refine g12_7 E ev5 dX12_lays_18 ?_
  refine v_iconst (v := 1) E dX12_lays_21 (by decide) ?_
  refine v_bipush (v := 18) E dX12_lays_22 (by decide) ?_
  refine v_iload_n E dX12_lays_24 rfl ?_
  refine v_imul E dX12_lays_25 ?_
  refine v_iadd E dX12_lays_26 ?_
  refine v_iconst (v := 1) E dX12_lays_27 (by decide) ?_
  refine v_iadd E dX12_lays_28 ?_
  refine v_iconst (v := 0) E dX12_lays_29 (by decide) ?_
  replace h := bnd_e h
  obtain ⟨A6, eA6, h⟩ := h
  refine v_iastore E eA6 dX12_lays_30 ?_
  refine v_iconst (v := 0) E dX12_lays_31 (by decide) ?_
  refine v_istore_n (lv' := [some (vR (some o1)), some (vI a1), some (vI 0)]) E dX12_lays_32 (by decide) rfl ?_
  replace h := bnd_e h
  obtain ⟨t8, et8, h⟩ := h
  refine iter_V (S := Int32 × AH) (T := AH) (Ph := fun s7 => V p l e { frames := 1, cells := 0, slots := 0, locals := 25 } s m ar below meth c (MQ below (Qd base D cy (some (vI r.1)) r.2) ar s 0 0 (fun q => base ≤ q)) base D cy 3 33 [some (vR (some o1)), some (vI a1), some (vI s7.1)] [] s7.2 0 0) (Pt := fun t8 => V p l e { frames := 1, cells := 0, slots := 0, locals := 25 } s m ar below meth c (MQ below (Qd base D cy (some (vI r.1)) r.2) ar s 0 0 (fun q => base ≤ q)) base D cy 3 67 [some (vR (some o1)), none, none] [] t8 0 0) et8 (fun s7 w9 h hx => ?_) ?_
  · try dsimp only at h
    refine v_iload_n E dX12_lays_33 rfl ?_
    refine v_aload_n E dX12_lays_34 rfl ?_
    replace h := bnd_e h
    obtain ⟨v10, ev10, h⟩ := h
    refine g12_67 E ev10 dX12_lays_35 ?_
    refine v_icmp_ge (tgt := 67) E dX12_lays_38 (by decide) (fun c14 => ?_) (fun c14 => ?_)
    · rw [if_pos c14] at h
      refine v_drop (lv' := [some (vR (some o1)), none, none]) [1, 2] rfl ?_
      replace h := Option.some.inj h
      subst h
      exact hx
    · rw [if_neg c14] at h
      refine v_aload_n E dX12_lays_41 rfl ?_
      replace h := bnd_e h
      obtain ⟨v11, ev11, h⟩ := h
      refine g12_7 E ev11 dX12_lays_42 ?_
      refine v_iconst (v := 1) E dX12_lays_45 (by decide) ?_
      refine v_bipush (v := 18) E dX12_lays_46 (by decide) ?_
      refine v_iload_n E dX12_lays_48 rfl ?_
      refine v_imul E dX12_lays_49 ?_
      refine v_iadd E dX12_lays_50 ?_
      refine v_iconst (v := 2) E dX12_lays_51 (by decide) ?_
      refine v_iadd E dX12_lays_52 ?_
      refine v_iload_n E dX12_lays_53 rfl ?_
      refine v_iadd E dX12_lays_54 ?_
      refine v_aload_n E dX12_lays_55 rfl ?_
      refine v_iload_n E dX12_lays_56 rfl ?_
      replace h := bnd_e h
      obtain ⟨r12, er12, h⟩ := h
      refine v_callV (na := 1) (As := [vI s7.1]) (rest := [vI (((1 + (18 * a1)) + 2) + s7.1), vR v11]) (ci := 12) (q := (RX12, TX12, 20)) E gw12_70 (by decide +kernel) rfl rfl (by decide) (kX12_numberOf l er12).2 (kX12_numberOf l er12).1 rfl rfl dX12_lays_57 ⟨Nat.le_of_ble_eq_true rfl, Nat.le_of_ble_eq_true rfl⟩ ⟨(Nat.le_of_ble_eq_true rfl), (Nat.le_of_ble_eq_true rfl)⟩ (Nat.le_of_ble_eq_true rfl) ?_
      replace h := bnd_e h
      obtain ⟨A13, eA13, h⟩ := h
      refine v_iastore E eA13 dX12_lays_60 ?_
      refine v_iinc (v := (s7.1 + 1)) (lv' := [some (vR (some o1)), some (vI a1), some (vI (s7.1 + 1))]) E dX12_lays_61 rfl (by rfl) (by decide) rfl ?_
      refine v_goto (tgt := 33) E dX12_lays_64 (by decide) ?_
      replace h := Option.some.inj h
      subst h
      exact hx
  · refine v_aload_n E dX12_lays_67 rfl ?_
    replace h := bnd_e h
    obtain ⟨v15, ev15, h⟩ := h
    refine g12_67 E ev15 dX12_lays_68 ?_
    refine v_iconst (v := 2) E dX12_lays_71 (by decide) ?_
    replace h := bnd_e h
    obtain ⟨v16, ev16, h⟩ := h
    refine v_idiv E ev16 dX12_lays_72 ?_
    replace h := Option.some.inj h
    subst h
    refine v_widen (k' := 0) (n' := 0) (Nat.le_of_ble_eq_true rfl) (Nat.le_of_ble_eq_true rfl) ?_
    exact v_iret E dX12_lays_73
noncomputable def fX12_laysMore (A0 : AH) (o0 : Option Nat) : Option (Int32 × AH) :=
  (rcv A0 13 o0).bind fun o0 =>
  (gR A0 13 384 ((some o0))).bind fun v1 =>
  (aI A0 14 v1 0).bind fun v2 =>
  (fX12_lays A0 ((some o0)) v2).bind fun r3 =>
  (gR r3.2 13 384 ((some o0))).bind fun v4 =>
  (aI r3.2 14 v4 0).bind fun v5 =>
  (sI r3.2 14 v4 0 ((v5 + 1))).bind fun A6 =>
  (gR A6 13 384 ((some o0))).bind fun v7 =>
  (aI A6 14 v7 0).bind fun v8 =>
  some (((v8 - 1), A6))
set_option maxRecDepth 100000 in
set_option maxHeartbeats 4000000 in
theorem kX12_laysMore (l : Launch) {A0 : AH} {o0 : Option Nat} {r : Int32 × AH} (h : fX12_laysMore A0 o0 = some r) : (∃ a, o0 = some a ∧ Hk A0 a = 13) ∧ Cn l yX12_laysMore cX12_laysMore 1 (some .int) 2 47 0 0 [vR o0] A0 (some (vI r.1)) r.2 := by
  unfold fX12_laysMore at h
  replace h := bnd_e h
  obtain ⟨o1, e1, h⟩ := h
  obtain ⟨rfl, hk0⟩ := rcv_e e1
  refine ⟨⟨o1, rfl, hk0⟩, ?_⟩
  refine Cn.of (pad := 0) (lv0 := [some (vR (some o1))]) (by decide +kernel) (Nat.le_of_ble_eq_true rfl) rfl ?_
  intro p e s m below meth c base D cy E
  generalize (List.map toV [vR (some o1)]).toArray = ar at E ⊢
  have E : EN p s m ar meth c D cy RX12 cX12_laysMore 1 (some .int) "laysMore" := E
  refine v_aload_n E dX12_laysMore_0 rfl ?_
  refine v_aload_n E dX12_laysMore_1 rfl ?_
  replace h := bnd_e h
  obtain ⟨v1, ev1, h⟩ := h
  refine g12_7 E ev1 dX12_laysMore_2 ?_
  refine v_iconst (v := 0) E dX12_laysMore_5 (by decide) ?_
  replace h := bnd_e h
  obtain ⟨v2, ev2, h⟩ := h
  refine v_iaload E ev2 dX12_laysMore_6 ?_
  replace h := bnd_e h
  obtain ⟨r3, er3, h⟩ := h
  refine v_callV (na := 1) (As := [vI v2]) (rest := []) (ci := 12) (q := (RX12, TX12, 20)) E gw12_73 (by decide +kernel) rfl rfl (by decide) (kX12_lays l er3).2 (kX12_lays l er3).1 rfl rfl dX12_laysMore_7 ⟨Nat.le_of_ble_eq_true rfl, Nat.le_of_ble_eq_true rfl⟩ ⟨(Nat.le_of_ble_eq_true rfl), (Nat.le_of_ble_eq_true rfl)⟩ (Nat.le_of_ble_eq_true rfl) ?_
  refine v_pop E dX12_laysMore_10 rfl ?_
  refine v_aload_n E dX12_laysMore_11 rfl ?_
  replace h := bnd_e h
  obtain ⟨v4, ev4, h⟩ := h
  refine g12_7 E ev4 dX12_laysMore_12 ?_
  refine v_iconst (v := 0) E dX12_laysMore_15 (by decide) ?_
  refine v_dup2 E dX12_laysMore_16 rfl rfl ?_
  replace h := bnd_e h
  obtain ⟨v5, ev5, h⟩ := h
  refine v_iaload E ev5 dX12_laysMore_17 ?_
  refine v_iconst (v := 1) E dX12_laysMore_18 (by decide) ?_
  refine v_iadd E dX12_laysMore_19 ?_
  replace h := bnd_e h
  obtain ⟨A6, eA6, h⟩ := h
  refine v_iastore E eA6 dX12_laysMore_20 ?_
  refine v_aload_n E dX12_laysMore_21 rfl ?_
  replace h := bnd_e h
  obtain ⟨v7, ev7, h⟩ := h
  refine g12_7 E ev7 dX12_laysMore_22 ?_
  refine v_iconst (v := 0) E dX12_laysMore_25 (by decide) ?_
  replace h := bnd_e h
  obtain ⟨v8, ev8, h⟩ := h
  refine v_iaload E ev8 dX12_laysMore_26 ?_
  refine v_iconst (v := 1) E dX12_laysMore_27 (by decide) ?_
  refine v_isub E dX12_laysMore_28 ?_
  replace h := Option.some.inj h
  subst h
  refine v_widen (k' := 0) (n' := 0) (Nat.le_of_ble_eq_true rfl) (Nat.le_of_ble_eq_true rfl) ?_
  exact v_iret E dX12_laysMore_29
noncomputable def fX12_feed (A0 : AH) (o0 : Option Nat) (a1 : Int32) : Option (Int32 × AH) :=
  (rcv A0 13 o0).bind fun o0 =>
  (fX12_in A0 (((a1 : Int32).toInt64)) 0 255).bind fun r1 =>
  if r1 = 0 then
    some (((-1000000002), A0))
  else
    (gI A0 13 390 ((some o0))).bind fun v2 =>
    if v2 = 20 then
      some (((-1000000004), A0))
    else
      (gR A0 13 389 ((some o0))).bind fun v3 =>
      (gI A0 13 390 ((some o0))).bind fun v4 =>
      (sI A0 14 v3 v4 a1).bind fun A5 =>
      (gI A5 13 390 ((some o0))).bind fun v6 =>
      (pI A5 13 390 ((some o0)) ((v6 + 1))).bind fun A7 =>
      (gI A7 13 390 ((some o0))).bind fun v8 =>
      some ((v8, A7))
set_option maxRecDepth 100000 in
set_option maxHeartbeats 4000000 in
theorem kX12_feed (l : Launch) {A0 : AH} {o0 : Option Nat} {a1 : Int32} {r : Int32 × AH} (h : fX12_feed A0 o0 a1 = some r) : (∃ a, o0 = some a ∧ Hk A0 a = 13) ∧ Cn l yX12_feed cX12_feed 2 (some .int) 1 25 0 0 [vR o0, vI a1] A0 (some (vI r.1)) r.2 := by
  unfold fX12_feed at h
  replace h := bnd_e h
  obtain ⟨o1, e1, h⟩ := h
  obtain ⟨rfl, hk0⟩ := rcv_e e1
  refine ⟨⟨o1, rfl, hk0⟩, ?_⟩
  refine Cn.of (pad := 0) (lv0 := [some (vR (some o1)), some (vI a1)]) (by decide +kernel) (Nat.le_of_ble_eq_true rfl) rfl ?_
  intro p e s m below meth c base D cy E
  generalize (List.map toV [vR (some o1), vI a1]).toArray = ar at E ⊢
  have E : EN p s m ar meth c D cy RX12 cX12_feed 2 (some .int) "feed" := E
  refine v_iload_n E dX12_feed_0 rfl ?_
  refine v_i2l E dX12_feed_1 ?_
  refine v_lconst (v := 0) E dX12_feed_2 (by decide) ?_
  refine v_ldc2 (v := 255) E dX12_feed_3 q1088 ?_
  replace h := bnd_e h
  obtain ⟨r1, er1, h⟩ := h
  refine v_callS (na := 3) (As := [vJ ((a1 : Int32).toInt64), vJ 0, vJ 255]) (rest := []) E gw12_55 (by decide +kernel) (kX12_in l er1) rfl rfl dX12_feed_6 ⟨Nat.le_of_ble_eq_true rfl, Nat.le_of_ble_eq_true rfl⟩ ⟨(Nat.le_of_ble_eq_true rfl), (Nat.le_of_ble_eq_true rfl)⟩ (Nat.le_of_ble_eq_true rfl) ?_
  refine v_if_ne (tgt := 15) E dX12_feed_9 (by decide) (fun c10 => ?_) (fun c10 => ?_)
  · rw [if_neg c10] at h
    refine v_aload_n E dX12_feed_15 rfl ?_
    replace h := bnd_e h
    obtain ⟨v2, ev2, h⟩ := h
    refine g12_79 E ev2 dX12_feed_16 ?_
    refine v_bipush (v := 20) E dX12_feed_19 (by decide) ?_
    refine v_icmp_ne (tgt := 27) E dX12_feed_21 (by decide) (fun c9 => ?_) (fun c9 => ?_)
    · rw [if_neg c9] at h
      refine v_aload_n E dX12_feed_27 rfl ?_
      replace h := bnd_e h
      obtain ⟨v3, ev3, h⟩ := h
      refine g12_20 E ev3 dX12_feed_28 ?_
      refine v_aload_n E dX12_feed_31 rfl ?_
      replace h := bnd_e h
      obtain ⟨v4, ev4, h⟩ := h
      refine g12_79 E ev4 dX12_feed_32 ?_
      refine v_iload_n E dX12_feed_35 rfl ?_
      replace h := bnd_e h
      obtain ⟨A5, eA5, h⟩ := h
      refine v_iastore E eA5 dX12_feed_36 ?_
      refine v_aload_n E dX12_feed_37 rfl ?_
      refine v_dup E dX12_feed_38 rfl ?_
      replace h := bnd_e h
      obtain ⟨v6, ev6, h⟩ := h
      refine g12_79 E ev6 dX12_feed_39 ?_
      refine v_iconst (v := 1) E dX12_feed_42 (by decide) ?_
      refine v_iadd E dX12_feed_43 ?_
      replace h := bnd_e h
      obtain ⟨A7, eA7, h⟩ := h
      refine p12_79 E eA7 dX12_feed_44 ?_
      refine v_aload_n E dX12_feed_47 rfl ?_
      replace h := bnd_e h
      obtain ⟨v8, ev8, h⟩ := h
      refine g12_79 E ev8 dX12_feed_48 ?_
      replace h := Option.some.inj h
      subst h
      refine v_widen (k' := 0) (n' := 0) (Nat.le_of_ble_eq_true rfl) (Nat.le_of_ble_eq_true rfl) ?_
      exact v_iret E dX12_feed_51
    · rw [if_pos c9] at h
      refine v_ldc (v := (-1000000004)) E dX12_feed_24 q1093 ?_
      replace h := Option.some.inj h
      subst h
      refine v_widen (k' := 0) (n' := 0) (Nat.le_of_ble_eq_true rfl) (Nat.le_of_ble_eq_true rfl) ?_
      exact v_iret E dX12_feed_26
  · rw [if_pos c10] at h
    refine v_ldc (v := (-1000000002)) E dX12_feed_12 q1092 ?_
    replace h := Option.some.inj h
    subst h
    refine v_widen (k' := 0) (n' := 0) (Nat.le_of_ble_eq_true rfl) (Nat.le_of_ble_eq_true rfl) ?_
    exact v_iret E dX12_feed_14
noncomputable def fX12_timesAhead (A0 : AH) (o0 : Option Nat) (a1 : Int32) : Option (Int32) :=
  (rcv A0 13 o0).bind fun o0 =>
  (iter (S := Int32 × Int32) (T := Int32) (fun s1 =>
      if a1 ≤ s1.2 then
        some (.inr s1.1)
      else
        (gR A0 13 389 ((some o0))).bind fun v4 =>
        (aI A0 14 v4 s1.2).bind fun v5 =>
        (gR A0 13 389 ((some o0))).bind fun v6 =>
        (aI A0 14 v6 a1).bind fun v7 =>
        jp1 (α := Int32) (if v5 = v7 then
            1
          else
            0) fun x10 =>
        some (.inl ((s1.1 + x10), (s1.2 + 1)))) (0, 0)).bind fun t2 =>
  some t2
set_option maxRecDepth 100000 in
set_option maxHeartbeats 4000000 in
theorem kX12_timesAhead (l : Launch) {A0 : AH} {o0 : Option Nat} {a1 : Int32} {r : Int32} (h : fX12_timesAhead A0 o0 a1 = some r) : (∃ a, o0 = some a ∧ Hk A0 a = 13) ∧ Cn l yX12_timesAhead cX12_timesAhead 4 (some .int) 0 0 0 0 [vR o0, vI a1] A0 (some (vI r)) A0 := by
  unfold fX12_timesAhead at h
  replace h := bnd_e h
  obtain ⟨o1, e1, h⟩ := h
  obtain ⟨rfl, hk0⟩ := rcv_e e1
  refine ⟨⟨o1, rfl, hk0⟩, ?_⟩
  refine Cn.of (pad := 2) (lv0 := [some (vR (some o1)), some (vI a1), none, none]) (by decide +kernel) (Nat.le_of_ble_eq_true rfl) rfl ?_
  intro p e s m below meth c base D cy E
  generalize (List.map toV [vR (some o1), vI a1]).toArray = ar at E ⊢
  have E : EN p s m ar meth c D cy RX12 cX12_timesAhead 4 (some .int) "timesAhead" := E
  refine v_iconst (v := 0) E dX12_timesAhead_0 (by decide) ?_
  refine v_istore_n (lv' := [some (vR (some o1)), some (vI a1), some (vI 0), none]) E dX12_timesAhead_1 (by decide) rfl ?_
  refine v_iconst (v := 0) E dX12_timesAhead_2 (by decide) ?_
  refine v_istore_n (lv' := [some (vR (some o1)), some (vI a1), some (vI 0), some (vI 0)]) E dX12_timesAhead_3 (by decide) rfl ?_
  replace h := bnd_e h
  obtain ⟨t2, et2, h⟩ := h
  refine iter_V (S := Int32 × Int32) (T := Int32) (Ph := fun s1 => V p l e { frames := 0, cells := 0, slots := 0, locals := 0 } s m ar below meth c (MQ below (Qd base D cy (some (vI r)) A0) ar s 0 0 (fun q => base ≤ q)) base D cy 4 4 [some (vR (some o1)), some (vI a1), some (vI s1.1), some (vI s1.2)] [] A0 0 0) (Pt := fun t2 => V p l e { frames := 0, cells := 0, slots := 0, locals := 0 } s m ar below meth c (MQ below (Qd base D cy (some (vI r)) A0) ar s 0 0 (fun q => base ≤ q)) base D cy 4 38 [none, none, some (vI t2), none] [] A0 0 0) et2 (fun s1 w3 h hx => ?_) ?_
  · try dsimp only at h
    refine v_iload_n E dX12_timesAhead_4 rfl ?_
    refine v_iload_n E dX12_timesAhead_5 rfl ?_
    refine v_icmp_ge (tgt := 38) E dX12_timesAhead_6 (by decide) (fun c11 => ?_) (fun c11 => ?_)
    · rw [if_pos c11] at h
      refine v_drop (lv' := [none, none, some (vI s1.1), none]) [0, 1, 3] rfl ?_
      replace h := Option.some.inj h
      subst h
      exact hx
    · rw [if_neg c11] at h
      refine v_iload_n E dX12_timesAhead_9 rfl ?_
      refine v_aload_n E dX12_timesAhead_10 rfl ?_
      replace h := bnd_e h
      obtain ⟨v4, ev4, h⟩ := h
      refine g12_20 E ev4 dX12_timesAhead_11 ?_
      refine v_iload_n E dX12_timesAhead_14 rfl ?_
      replace h := bnd_e h
      obtain ⟨v5, ev5, h⟩ := h
      refine v_iaload E ev5 dX12_timesAhead_15 ?_
      refine v_aload_n E dX12_timesAhead_16 rfl ?_
      replace h := bnd_e h
      obtain ⟨v6, ev6, h⟩ := h
      refine g12_20 E ev6 dX12_timesAhead_17 ?_
      refine v_iload_n E dX12_timesAhead_20 rfl ?_
      replace h := bnd_e h
      obtain ⟨v7, ev7, h⟩ := h
      refine v_iaload E ev7 dX12_timesAhead_21 ?_
      refine jp1_use h (fun K8 eK8 h => ?_)
      have hK8 : ∀ x10 : Int32, K8 x10 = some w3 → V p l e { frames := 0, cells := 0, slots := 0, locals := 0 } s m ar below meth c (MQ below (Qd base D cy (some (vI r)) A0) ar s 0 0 (fun q => base ≤ q)) base D cy 4 30 [some (vR (some o1)), some (vI a1), none, some (vI s1.2)] [vI x10, vI s1.1] A0 0 0 := by
        intro x10 h
        rw [eK8] at h
        try dsimp only at h
        refine v_iadd E dX12_timesAhead_30 ?_
        refine v_istore_n (lv' := [some (vR (some o1)), some (vI a1), some (vI (s1.1 + x10)), some (vI s1.2)]) E dX12_timesAhead_31 (by decide) rfl ?_
        refine v_iinc (v := (s1.2 + 1)) (lv' := [some (vR (some o1)), some (vI a1), some (vI (s1.1 + x10)), some (vI (s1.2 + 1))]) E dX12_timesAhead_32 rfl (by rfl) (by decide) rfl ?_
        refine v_goto (tgt := 4) E dX12_timesAhead_35 (by decide) ?_
        replace h := Option.some.inj h
        subst h
        exact hx
      refine v_icmp_ne (tgt := 29) E dX12_timesAhead_22 (by decide) (fun c9 => ?_) (fun c9 => ?_)
      · rw [if_neg c9] at h
        refine v_iconst (v := 0) E dX12_timesAhead_29 (by decide) ?_
        refine v_drop (lv' := [some (vR (some o1)), some (vI a1), none, some (vI s1.2)]) [2] rfl ?_
        exact hK8 0 h
      · rw [if_pos c9] at h
        refine v_iconst (v := 1) E dX12_timesAhead_25 (by decide) ?_
        refine v_goto (tgt := 30) E dX12_timesAhead_26 (by decide) ?_
        refine v_drop (lv' := [some (vR (some o1)), some (vI a1), none, some (vI s1.2)]) [2] rfl ?_
        exact hK8 1 h
  · refine v_iload_n E dX12_timesAhead_38 rfl ?_
    replace h := Option.some.inj h
    subst h
    refine v_widen (k' := 0) (n' := 0) (Nat.le_of_ble_eq_true rfl) (Nat.le_of_ble_eq_true rfl) ?_
    exact v_iret E dX12_timesAhead_39
noncomputable def fX12_faultAt (A0 : AH) (o0 : Option Nat) (a1 : Int32) : Option (Int32) :=
  (rcv A0 13 o0).bind fun o0 =>
  (gR A0 13 389 ((some o0))).bind fun v1 =>
  (aI A0 14 v1 a1).bind fun v2 =>
  (fX12_in A0 (((v2 : Int32).toInt64)) 97 122).bind fun r3 =>
  if r3 = 0 then
    some 1
  else
    (fX12_timesAhead A0 ((some o0)) a1).bind fun r4 =>
    if r4 ≤ 1 then
      (iter (S := Int32 × Int32) (T := Int32) (fun s5 =>
          if a1 ≤ s5.2 then
            some (.inr s5.1)
          else
            (fX12_timesAhead A0 ((some o0)) s5.2).bind fun r8 =>
            jp1 (α := Int32) (if r8 = 0 then
                1
              else
                0) fun x11 =>
            some (.inl ((s5.1 + x11), (s5.2 + 1)))) (0, 0)).bind fun t6 =>
      (fX12_timesAhead A0 ((some o0)) a1).bind fun r13 =>
      if r13 = 0 then
        if t6 = 8 then
          some 3
        else
          some 0
      else
        some 0
    else
      some 2
set_option maxRecDepth 100000 in
set_option maxHeartbeats 4000000 in
theorem kX12_faultAt (l : Launch) {A0 : AH} {o0 : Option Nat} {a1 : Int32} {r : Int32} (h : fX12_faultAt A0 o0 a1 = some r) : (∃ a, o0 = some a ∧ Hk A0 a = 13) ∧ Cn l yX12_faultAt cX12_faultAt 4 (some .int) 1 25 0 0 [vR o0, vI a1] A0 (some (vI r)) A0 := by
  unfold fX12_faultAt at h
  replace h := bnd_e h
  obtain ⟨o1, e1, h⟩ := h
  obtain ⟨rfl, hk0⟩ := rcv_e e1
  refine ⟨⟨o1, rfl, hk0⟩, ?_⟩
  refine Cn.of (pad := 2) (lv0 := [some (vR (some o1)), some (vI a1), none, none]) (by decide +kernel) (Nat.le_of_ble_eq_true rfl) rfl ?_
  intro p e s m below meth c base D cy E
  generalize (List.map toV [vR (some o1), vI a1]).toArray = ar at E ⊢
  have E : EN p s m ar meth c D cy RX12 cX12_faultAt 4 (some .int) "faultAt" := E
  refine v_aload_n E dX12_faultAt_0 rfl ?_
  replace h := bnd_e h
  obtain ⟨v1, ev1, h⟩ := h
  refine g12_20 E ev1 dX12_faultAt_1 ?_
  refine v_iload_n E dX12_faultAt_4 rfl ?_
  replace h := bnd_e h
  obtain ⟨v2, ev2, h⟩ := h
  refine v_iaload E ev2 dX12_faultAt_5 ?_
  refine v_i2l E dX12_faultAt_6 ?_
  refine v_ldc2 (v := 97) E dX12_faultAt_7 q1102 ?_
  refine v_ldc2 (v := 122) E dX12_faultAt_10 q1103 ?_
  replace h := bnd_e h
  obtain ⟨r3, er3, h⟩ := h
  refine v_callS (na := 3) (As := [vJ ((v2 : Int32).toInt64), vJ 97, vJ 122]) (rest := []) E gw12_55 (by decide +kernel) (kX12_in l er3) rfl rfl dX12_faultAt_13 ⟨Nat.le_of_ble_eq_true rfl, Nat.le_of_ble_eq_true rfl⟩ ⟨(Nat.le_of_ble_eq_true rfl), (Nat.le_of_ble_eq_true rfl)⟩ (Nat.le_of_ble_eq_true rfl) ?_
  refine v_if_ne (tgt := 21) E dX12_faultAt_16 (by decide) (fun c18 => ?_) (fun c18 => ?_)
  · rw [if_neg c18] at h
    refine v_aload_n E dX12_faultAt_21 rfl ?_
    refine v_iload_n E dX12_faultAt_22 rfl ?_
    replace h := bnd_e h
    obtain ⟨r4, er4, h⟩ := h
    refine v_callV (na := 1) (As := [vI a1]) (rest := []) (ci := 12) (q := (RX12, TX12, 20)) E gw12_87 (by decide +kernel) rfl rfl (by decide) (kX12_timesAhead l er4).2 (kX12_timesAhead l er4).1 rfl rfl dX12_faultAt_23 ⟨Nat.le_of_ble_eq_true rfl, Nat.le_of_ble_eq_true rfl⟩ ⟨(Nat.le_of_ble_eq_true rfl), (Nat.le_of_ble_eq_true rfl)⟩ (Nat.le_of_ble_eq_true rfl) ?_
    refine v_iconst (v := 1) E dX12_faultAt_26 (by decide) ?_
    refine v_icmp_le (tgt := 32) E dX12_faultAt_27 (by decide) (fun c17 => ?_) (fun c17 => ?_)
    · rw [if_pos c17] at h
      refine v_iconst (v := 0) E dX12_faultAt_32 (by decide) ?_
      refine v_istore_n (lv' := [some (vR (some o1)), some (vI a1), some (vI 0), none]) E dX12_faultAt_33 (by decide) rfl ?_
      refine v_iconst (v := 0) E dX12_faultAt_34 (by decide) ?_
      refine v_istore_n (lv' := [some (vR (some o1)), some (vI a1), some (vI 0), some (vI 0)]) E dX12_faultAt_35 (by decide) rfl ?_
      replace h := bnd_e h
      obtain ⟨t6, et6, h⟩ := h
      refine iter_V (S := Int32 × Int32) (T := Int32) (Ph := fun s5 => V p l e { frames := 1, cells := 0, slots := 0, locals := 25 } s m ar below meth c (MQ below (Qd base D cy (some (vI r)) A0) ar s 0 0 (fun q => base ≤ q)) base D cy 4 36 [some (vR (some o1)), some (vI a1), some (vI s5.1), some (vI s5.2)] [] A0 0 0) (Pt := fun t6 => V p l e { frames := 1, cells := 0, slots := 0, locals := 25 } s m ar below meth c (MQ below (Qd base D cy (some (vI r)) A0) ar s 0 0 (fun q => base ≤ q)) base D cy 4 63 [some (vR (some o1)), some (vI a1), some (vI t6), none] [] A0 0 0) et6 (fun s5 w7 h hx => ?_) ?_
      · try dsimp only at h
        refine v_iload_n E dX12_faultAt_36 rfl ?_
        refine v_iload_n E dX12_faultAt_37 rfl ?_
        refine v_icmp_ge (tgt := 63) E dX12_faultAt_38 (by decide) (fun c12 => ?_) (fun c12 => ?_)
        · rw [if_pos c12] at h
          refine v_drop (lv' := [some (vR (some o1)), some (vI a1), some (vI s5.1), none]) [3] rfl ?_
          replace h := Option.some.inj h
          subst h
          exact hx
        · rw [if_neg c12] at h
          refine v_iload_n E dX12_faultAt_41 rfl ?_
          refine v_aload_n E dX12_faultAt_42 rfl ?_
          refine v_iload_n E dX12_faultAt_43 rfl ?_
          replace h := bnd_e h
          obtain ⟨r8, er8, h⟩ := h
          refine v_callV (na := 1) (As := [vI s5.2]) (rest := [vI s5.1]) (ci := 12) (q := (RX12, TX12, 20)) E gw12_87 (by decide +kernel) rfl rfl (by decide) (kX12_timesAhead l er8).2 (kX12_timesAhead l er8).1 rfl rfl dX12_faultAt_44 ⟨Nat.le_of_ble_eq_true rfl, Nat.le_of_ble_eq_true rfl⟩ ⟨(Nat.le_of_ble_eq_true rfl), (Nat.le_of_ble_eq_true rfl)⟩ (Nat.le_of_ble_eq_true rfl) ?_
          refine jp1_use h (fun K9 eK9 h => ?_)
          have hK9 : ∀ x11 : Int32, K9 x11 = some w7 → V p l e { frames := 1, cells := 0, slots := 0, locals := 25 } s m ar below meth c (MQ below (Qd base D cy (some (vI r)) A0) ar s 0 0 (fun q => base ≤ q)) base D cy 4 55 [some (vR (some o1)), some (vI a1), none, some (vI s5.2)] [vI x11, vI s5.1] A0 0 0 := by
            intro x11 h
            rw [eK9] at h
            try dsimp only at h
            refine v_iadd E dX12_faultAt_55 ?_
            refine v_istore_n (lv' := [some (vR (some o1)), some (vI a1), some (vI (s5.1 + x11)), some (vI s5.2)]) E dX12_faultAt_56 (by decide) rfl ?_
            refine v_iinc (v := (s5.2 + 1)) (lv' := [some (vR (some o1)), some (vI a1), some (vI (s5.1 + x11)), some (vI (s5.2 + 1))]) E dX12_faultAt_57 rfl (by rfl) (by decide) rfl ?_
            refine v_goto (tgt := 36) E dX12_faultAt_60 (by decide) ?_
            replace h := Option.some.inj h
            subst h
            exact hx
          refine v_if_ne (tgt := 54) E dX12_faultAt_47 (by decide) (fun c10 => ?_) (fun c10 => ?_)
          · rw [if_neg c10] at h
            refine v_iconst (v := 0) E dX12_faultAt_54 (by decide) ?_
            refine v_drop (lv' := [some (vR (some o1)), some (vI a1), none, some (vI s5.2)]) [2] rfl ?_
            exact hK9 0 h
          · rw [if_pos c10] at h
            refine v_iconst (v := 1) E dX12_faultAt_50 (by decide) ?_
            refine v_goto (tgt := 55) E dX12_faultAt_51 (by decide) ?_
            refine v_drop (lv' := [some (vR (some o1)), some (vI a1), none, some (vI s5.2)]) [2] rfl ?_
            exact hK9 1 h
      · refine v_aload_n E dX12_faultAt_63 rfl ?_
        refine v_iload_n E dX12_faultAt_64 rfl ?_
        replace h := bnd_e h
        obtain ⟨r13, er13, h⟩ := h
        refine v_callV (na := 1) (As := [vI a1]) (rest := []) (ci := 12) (q := (RX12, TX12, 20)) E gw12_87 (by decide +kernel) rfl rfl (by decide) (kX12_timesAhead l er13).2 (kX12_timesAhead l er13).1 rfl rfl dX12_faultAt_65 ⟨Nat.le_of_ble_eq_true rfl, Nat.le_of_ble_eq_true rfl⟩ ⟨(Nat.le_of_ble_eq_true rfl), (Nat.le_of_ble_eq_true rfl)⟩ (Nat.le_of_ble_eq_true rfl) ?_
        refine v_if_ne (tgt := 81) E dX12_faultAt_68 (by decide) (fun c15 => ?_) (fun c15 => ?_)
        · rw [if_neg c15] at h
          refine v_iconst (v := 0) E dX12_faultAt_81 (by decide) ?_
          replace h := Option.some.inj h
          subst h
          refine v_widen (k' := 0) (n' := 0) (Nat.le_of_ble_eq_true rfl) (Nat.le_of_ble_eq_true rfl) ?_
          exact v_iret E dX12_faultAt_82
        · rw [if_pos c15] at h
          refine v_iload_n E dX12_faultAt_71 rfl ?_
          refine v_bipush (v := 8) E dX12_faultAt_72 (by decide) ?_
          refine v_icmp_ne (tgt := 81) E dX12_faultAt_74 (by decide) (fun c14 => ?_) (fun c14 => ?_)
          · rw [if_neg c14] at h
            refine v_iconst (v := 0) E dX12_faultAt_81 (by decide) ?_
            replace h := Option.some.inj h
            subst h
            refine v_widen (k' := 0) (n' := 0) (Nat.le_of_ble_eq_true rfl) (Nat.le_of_ble_eq_true rfl) ?_
            exact v_iret E dX12_faultAt_82
          · rw [if_pos c14] at h
            refine v_iconst (v := 3) E dX12_faultAt_77 (by decide) ?_
            refine v_goto (tgt := 82) E dX12_faultAt_78 (by decide) ?_
            replace h := Option.some.inj h
            subst h
            refine v_widen (k' := 0) (n' := 0) (Nat.le_of_ble_eq_true rfl) (Nat.le_of_ble_eq_true rfl) ?_
            exact v_iret E dX12_faultAt_82
    · rw [if_neg c17] at h
      refine v_iconst (v := 2) E dX12_faultAt_30 (by decide) ?_
      replace h := Option.some.inj h
      subst h
      refine v_widen (k' := 0) (n' := 0) (Nat.le_of_ble_eq_true rfl) (Nat.le_of_ble_eq_true rfl) ?_
      exact v_iret E dX12_faultAt_31
  · rw [if_pos c18] at h
    refine v_iconst (v := 1) E dX12_faultAt_19 (by decide) ?_
    replace h := Option.some.inj h
    subst h
    refine v_widen (k' := 0) (n' := 0) (Nat.le_of_ble_eq_true rfl) (Nat.le_of_ble_eq_true rfl) ?_
    exact v_iret E dX12_faultAt_20
noncomputable def fX12_tell (A0 : AH) (o0 : Option Nat) : Option (Int32 × AH) :=
  (rcv A0 13 o0).bind fun o0 =>
  (gR A0 13 384 ((some o0))).bind fun v1 =>
  (aI A0 14 v1 0).bind fun v2 =>
  if v2 = 6 then
    some (((-1000000004), A0))
  else
    (gI A0 13 390 ((some o0))).bind fun v3 =>
    (pI A0 13 390 ((some o0)) 0).bind fun A4 =>
    (pI A4 13 391 ((some o0)) ((-1))).bind fun A5 =>
    (iter (S := Int32 × Int32 × AH) (T := (Int32 × AH) ⊕ (Int32 × AH)) (fun s6 =>
        if v3 ≤ s6.2.1 then
          some (.inr (.inl (s6.1, s6.2.2)))
        else
          (fX12_faultAt s6.2.2 ((some o0)) s6.2.1).bind fun r9 =>
          if r9 ≤ 0 then
            (fX12_timesAhead s6.2.2 ((some o0)) s6.2.1).bind fun r10 =>
            jp1 (α := Int32) (if r10 = 0 then
                1
              else
                ((-1))) fun x13 =>
            some (.inl ((s6.1 + x13), (s6.2.1 + 1), s6.2.2))
          else
            (pI s6.2.2 13 391 ((some o0)) s6.2.1).bind fun A14 =>
            some (.inr (.inr ((((-10) - r9), A14))))) (0, 0, A5)).bind fun t7 =>
    sm t7 (fun t7 =>
      if t7.1 ≤ 0 then
        (fX12_minds t7.2 ((some o0))).bind fun r17 =>
        (pI r17 13 396 ((some o0)) 0).bind fun A18 =>
        (iter (S := Int32 × AH) (T := AH) (fun s19 =>
            if v3 ≤ s19.1 then
              some (.inr s19.2)
            else
              (gR s19.2 13 389 ((some o0))).bind fun v22 =>
              (aI s19.2 14 v22 s19.1).bind fun v23 =>
              (fX12_comes s19.2 ((some o0)) v23).bind fun r24 =>
              some (.inl ((s19.1 + 1), r24))) (0, A18)).bind fun t20 =>
        (fX12_laysMore t20 ((some o0))).bind fun r26 =>
        some ((r26.1, r26.2))
      else
        (pI t7.2 13 391 ((some o0)) v3).bind fun A28 =>
        some (((-14), A28))) (fun r => some r)
set_option maxRecDepth 100000 in
set_option maxHeartbeats 4000000 in
theorem kX12_tell (l : Launch) {A0 : AH} {o0 : Option Nat} {r : Int32 × AH} (h : fX12_tell A0 o0 = some r) : (∃ a, o0 = some a ∧ Hk A0 a = 13) ∧ Cn l yX12_tell cX12_tell 5 (some .int) 3 67 0 0 [vR o0] A0 (some (vI r.1)) r.2 := by
  unfold fX12_tell at h
  replace h := bnd_e h
  obtain ⟨o1, e1, h⟩ := h
  obtain ⟨rfl, hk0⟩ := rcv_e e1
  refine ⟨⟨o1, rfl, hk0⟩, ?_⟩
  refine Cn.of (pad := 4) (lv0 := [some (vR (some o1)), none, none, none, none]) (by decide +kernel) (Nat.le_of_ble_eq_true rfl) rfl ?_
  intro p e s m below meth c base D cy E
  generalize (List.map toV [vR (some o1)]).toArray = ar at E ⊢
  have E : EN p s m ar meth c D cy RX12 cX12_tell 5 (some .int) "tell" := E
  refine v_aload_n E dX12_tell_0 rfl ?_
  replace h := bnd_e h
  obtain ⟨v1, ev1, h⟩ := h
  refine g12_7 E ev1 dX12_tell_1 ?_
  refine v_iconst (v := 0) E dX12_tell_4 (by decide) ?_
  replace h := bnd_e h
  obtain ⟨v2, ev2, h⟩ := h
  refine v_iaload E ev2 dX12_tell_5 ?_
  refine v_bipush (v := 6) E dX12_tell_6 (by decide) ?_
  refine v_icmp_ne (tgt := 14) E dX12_tell_8 (by decide) (fun c31 => ?_) (fun c31 => ?_)
  · rw [if_neg c31] at h
    refine v_aload_n E dX12_tell_14 rfl ?_
    replace h := bnd_e h
    obtain ⟨v3, ev3, h⟩ := h
    refine g12_79 E ev3 dX12_tell_15 ?_
    refine v_istore_n (lv' := [some (vR (some o1)), some (vI v3), none, none, none]) E dX12_tell_18 (by decide) rfl ?_
    refine v_aload_n E dX12_tell_19 rfl ?_
    refine v_iconst (v := 0) E dX12_tell_20 (by decide) ?_
    replace h := bnd_e h
    obtain ⟨A4, eA4, h⟩ := h
    refine p12_79 E eA4 dX12_tell_21 ?_
    refine v_aload_n E dX12_tell_24 rfl ?_
    refine v_iconst (v := (-1)) E dX12_tell_25 (by decide) ?_
    replace h := bnd_e h
    obtain ⟨A5, eA5, h⟩ := h
    refine p12_23 E eA5 dX12_tell_26 ?_
    refine v_iconst (v := 0) E dX12_tell_29 (by decide) ?_
    refine v_istore_n (lv' := [some (vR (some o1)), some (vI v3), some (vI 0), none, none]) E dX12_tell_30 (by decide) rfl ?_
    refine v_iconst (v := 0) E dX12_tell_31 (by decide) ?_
    refine v_istore_n (lv' := [some (vR (some o1)), some (vI v3), some (vI 0), some (vI 0), none]) E dX12_tell_32 (by decide) rfl ?_
    replace h := bnd_e h
    obtain ⟨t7, et7, h⟩ := h
    refine iter_V (S := Int32 × Int32 × AH) (T := (Int32 × AH) ⊕ (Int32 × AH)) (Ph := fun s6 => V p l e { frames := 3, cells := 0, slots := 0, locals := 67 } s m ar below meth c (MQ below (Qd base D cy (some (vI r.1)) r.2) ar s 0 0 (fun q => base ≤ q)) base D cy 5 33 [some (vR (some o1)), some (vI v3), some (vI s6.1), some (vI s6.2.1), none] [] s6.2.2 0 0) (Pt := itM (fun t7 => V p l e { frames := 3, cells := 0, slots := 0, locals := 67 } s m ar below meth c (MQ below (Qd base D cy (some (vI r.1)) r.2) ar s 0 0 (fun q => base ≤ q)) base D cy 5 83 [some (vR (some o1)), some (vI v3), some (vI t7.1), none, none] [] t7.2 0 0) (fun z => z = r)) et7 (fun s6 w8 h hx => ?_) ?_
    · try dsimp only at h
      refine v_iload_n E dX12_tell_33 rfl ?_
      refine v_iload_n E dX12_tell_34 rfl ?_
      refine v_icmp_ge (tgt := 83) E dX12_tell_35 (by decide) (fun c16 => ?_) (fun c16 => ?_)
      · rw [if_pos c16] at h
        refine v_drop (lv' := [some (vR (some o1)), some (vI v3), some (vI s6.1), none, none]) [3] rfl ?_
        replace h := Option.some.inj h
        subst h
        exact hx
      · rw [if_neg c16] at h
        refine v_aload_n E dX12_tell_38 rfl ?_
        refine v_iload_n E dX12_tell_39 rfl ?_
        replace h := bnd_e h
        obtain ⟨r9, er9, h⟩ := h
        refine v_callV (na := 1) (As := [vI s6.2.1]) (rest := []) (ci := 12) (q := (RX12, TX12, 20)) E gw12_90 (by decide +kernel) rfl rfl (by decide) (kX12_faultAt l er9).2 (kX12_faultAt l er9).1 rfl rfl dX12_tell_40 ⟨Nat.le_of_ble_eq_true rfl, Nat.le_of_ble_eq_true rfl⟩ ⟨(Nat.le_of_ble_eq_true rfl), (Nat.le_of_ble_eq_true rfl)⟩ (Nat.le_of_ble_eq_true rfl) ?_
        refine v_istore (lv' := [some (vR (some o1)), some (vI v3), some (vI s6.1), some (vI s6.2.1), some (vI r9)]) E dX12_tell_43 (by decide) rfl ?_
        refine v_iload E dX12_tell_45 rfl ?_
        refine v_if_le (tgt := 61) E dX12_tell_47 (by decide) (fun c15 => ?_) (fun c15 => ?_)
        · rw [if_pos c15] at h
          refine v_iload_n E dX12_tell_61 rfl ?_
          refine v_aload_n E dX12_tell_62 rfl ?_
          refine v_iload_n E dX12_tell_63 rfl ?_
          replace h := bnd_e h
          obtain ⟨r10, er10, h⟩ := h
          refine v_callV (na := 1) (As := [vI s6.2.1]) (rest := [vI s6.1]) (ci := 12) (q := (RX12, TX12, 20)) E gw12_87 (by decide +kernel) rfl rfl (by decide) (kX12_timesAhead l er10).2 (kX12_timesAhead l er10).1 rfl rfl dX12_tell_64 ⟨Nat.le_of_ble_eq_true rfl, Nat.le_of_ble_eq_true rfl⟩ ⟨(Nat.le_of_ble_eq_true rfl), (Nat.le_of_ble_eq_true rfl)⟩ (Nat.le_of_ble_eq_true rfl) ?_
          refine jp1_use h (fun K11 eK11 h => ?_)
          have hK11 : ∀ x13 : Int32, K11 x13 = some w8 → V p l e { frames := 3, cells := 0, slots := 0, locals := 67 } s m ar below meth c (MQ below (Qd base D cy (some (vI r.1)) r.2) ar s 0 0 (fun q => base ≤ q)) base D cy 5 75 [some (vR (some o1)), some (vI v3), none, some (vI s6.2.1), none] [vI x13, vI s6.1] s6.2.2 0 0 := by
            intro x13 h
            rw [eK11] at h
            try dsimp only at h
            refine v_iadd E dX12_tell_75 ?_
            refine v_istore_n (lv' := [some (vR (some o1)), some (vI v3), some (vI (s6.1 + x13)), some (vI s6.2.1), none]) E dX12_tell_76 (by decide) rfl ?_
            refine v_iinc (v := (s6.2.1 + 1)) (lv' := [some (vR (some o1)), some (vI v3), some (vI (s6.1 + x13)), some (vI (s6.2.1 + 1)), none]) E dX12_tell_77 rfl (by rfl) (by decide) rfl ?_
            refine v_goto (tgt := 33) E dX12_tell_80 (by decide) ?_
            replace h := Option.some.inj h
            subst h
            exact hx
          refine v_if_ne (tgt := 74) E dX12_tell_67 (by decide) (fun c12 => ?_) (fun c12 => ?_)
          · rw [if_neg c12] at h
            refine v_iconst (v := (-1)) E dX12_tell_74 (by decide) ?_
            refine v_drop (lv' := [some (vR (some o1)), some (vI v3), none, some (vI s6.2.1), none]) [2, 4] rfl ?_
            exact hK11 ((-1)) h
          · rw [if_pos c12] at h
            refine v_iconst (v := 1) E dX12_tell_70 (by decide) ?_
            refine v_goto (tgt := 75) E dX12_tell_71 (by decide) ?_
            refine v_drop (lv' := [some (vR (some o1)), some (vI v3), none, some (vI s6.2.1), none]) [2, 4] rfl ?_
            exact hK11 1 h
        · rw [if_neg c15] at h
          refine v_aload_n E dX12_tell_50 rfl ?_
          refine v_iload_n E dX12_tell_51 rfl ?_
          replace h := bnd_e h
          obtain ⟨A14, eA14, h⟩ := h
          refine p12_23 E eA14 dX12_tell_52 ?_
          refine v_bipush (v := (-10)) E dX12_tell_55 (by decide) ?_
          refine v_iload E dX12_tell_57 rfl ?_
          refine v_isub E dX12_tell_59 ?_
          replace h := Option.some.inj h
          subst h
          have hx : _ = r := hx
          subst hx
          refine v_widen (k' := 0) (n' := 0) (Nat.le_of_ble_eq_true rfl) (Nat.le_of_ble_eq_true rfl) ?_
          exact v_iret E dX12_tell_60
    · cases t7 with
      | inl t7 =>
        dsimp only [sm] at h
        refine v_iload_n E dX12_tell_83 rfl ?_
        refine v_if_le (tgt := 95) E dX12_tell_84 (by decide) (fun c29 => ?_) (fun c29 => ?_)
        · rw [if_pos c29] at h
          refine v_aload_n E dX12_tell_95 rfl ?_
          replace h := bnd_e h
          obtain ⟨r17, er17, h⟩ := h
          refine v_callV (na := 0) (As := []) (rest := []) (ci := 12) (q := (RX12, TX12, 20)) E gw12_93 (by decide +kernel) rfl rfl (by decide) (kX12_minds l er17).2 (kX12_minds l er17).1 rfl rfl dX12_tell_96 ⟨Nat.le_of_ble_eq_true rfl, Nat.le_of_ble_eq_true rfl⟩ ⟨(Nat.le_of_ble_eq_true rfl), (Nat.le_of_ble_eq_true rfl)⟩ (Nat.le_of_ble_eq_true rfl) ?_
          refine v_aload_n E dX12_tell_99 rfl ?_
          refine v_iconst (v := 0) E dX12_tell_100 (by decide) ?_
          replace h := bnd_e h
          obtain ⟨A18, eA18, h⟩ := h
          refine p12_67 E eA18 dX12_tell_101 ?_
          refine v_iconst (v := 0) E dX12_tell_104 (by decide) ?_
          refine v_istore_n (lv' := [some (vR (some o1)), some (vI v3), some (vI t7.1), some (vI 0), none]) E dX12_tell_105 (by decide) rfl ?_
          refine v_drop (lv' := [some (vR (some o1)), some (vI v3), none, some (vI 0), none]) [2] rfl ?_
          replace h := bnd_e h
          obtain ⟨t20, et20, h⟩ := h
          refine iter_V (S := Int32 × AH) (T := AH) (Ph := fun s19 => V p l e { frames := 3, cells := 0, slots := 0, locals := 67 } s m ar below meth c (MQ below (Qd base D cy (some (vI r.1)) r.2) ar s 0 0 (fun q => base ≤ q)) base D cy 5 106 [some (vR (some o1)), some (vI v3), none, some (vI s19.1), none] [] s19.2 0 0) (Pt := fun t20 => V p l e { frames := 3, cells := 0, slots := 0, locals := 67 } s m ar below meth c (MQ below (Qd base D cy (some (vI r.1)) r.2) ar s 0 0 (fun q => base ≤ q)) base D cy 5 127 [some (vR (some o1)), none, none, none, none] [] t20 0 0) et20 (fun s19 w21 h hx => ?_) ?_
          · try dsimp only at h
            refine v_iload_n E dX12_tell_106 rfl ?_
            refine v_iload_n E dX12_tell_107 rfl ?_
            refine v_icmp_ge (tgt := 127) E dX12_tell_108 (by decide) (fun c25 => ?_) (fun c25 => ?_)
            · rw [if_pos c25] at h
              refine v_drop (lv' := [some (vR (some o1)), none, none, none, none]) [1, 3] rfl ?_
              replace h := Option.some.inj h
              subst h
              exact hx
            · rw [if_neg c25] at h
              refine v_aload_n E dX12_tell_111 rfl ?_
              refine v_aload_n E dX12_tell_112 rfl ?_
              replace h := bnd_e h
              obtain ⟨v22, ev22, h⟩ := h
              refine g12_20 E ev22 dX12_tell_113 ?_
              refine v_iload_n E dX12_tell_116 rfl ?_
              replace h := bnd_e h
              obtain ⟨v23, ev23, h⟩ := h
              refine v_iaload E ev23 dX12_tell_117 ?_
              replace h := bnd_e h
              obtain ⟨r24, er24, h⟩ := h
              refine v_callV (na := 1) (As := [vI v23]) (rest := []) (ci := 12) (q := (RX12, TX12, 20)) E gw12_96 (by decide +kernel) rfl rfl (by decide) (kX12_comes l er24).2 (kX12_comes l er24).1 rfl rfl dX12_tell_118 ⟨Nat.le_of_ble_eq_true rfl, Nat.le_of_ble_eq_true rfl⟩ ⟨(Nat.le_of_ble_eq_true rfl), (Nat.le_of_ble_eq_true rfl)⟩ (Nat.le_of_ble_eq_true rfl) ?_
              refine v_iinc (v := (s19.1 + 1)) (lv' := [some (vR (some o1)), some (vI v3), none, some (vI (s19.1 + 1)), none]) E dX12_tell_121 rfl (by rfl) (by decide) rfl ?_
              refine v_goto (tgt := 106) E dX12_tell_124 (by decide) ?_
              replace h := Option.some.inj h
              subst h
              exact hx
          · refine v_aload_n E dX12_tell_127 rfl ?_
            replace h := bnd_e h
            obtain ⟨r26, er26, h⟩ := h
            refine v_callV (na := 0) (As := []) (rest := []) (ci := 12) (q := (RX12, TX12, 20)) E gw12_100 (by decide +kernel) rfl rfl (by decide) (kX12_laysMore l er26).2 (kX12_laysMore l er26).1 rfl rfl dX12_tell_128 ⟨Nat.le_of_ble_eq_true rfl, Nat.le_of_ble_eq_true rfl⟩ ⟨(Nat.le_of_ble_eq_true rfl), (Nat.le_of_ble_eq_true rfl)⟩ (Nat.le_of_ble_eq_true rfl) ?_
            replace h := Option.some.inj h
            subst h
            refine v_widen (k' := 0) (n' := 0) (Nat.le_of_ble_eq_true rfl) (Nat.le_of_ble_eq_true rfl) ?_
            exact v_iret E dX12_tell_131
        · rw [if_neg c29] at h
          refine v_aload_n E dX12_tell_87 rfl ?_
          refine v_iload_n E dX12_tell_88 rfl ?_
          replace h := bnd_e h
          obtain ⟨A28, eA28, h⟩ := h
          refine p12_23 E eA28 dX12_tell_89 ?_
          refine v_bipush (v := (-14)) E dX12_tell_92 (by decide) ?_
          replace h := Option.some.inj h
          subst h
          refine v_widen (k' := 0) (n' := 0) (Nat.le_of_ble_eq_true rfl) (Nat.le_of_ble_eq_true rfl) ?_
          exact v_iret E dX12_tell_94
      | inr z =>
        exact Option.some.inj h
  · rw [if_pos c31] at h
    refine v_ldc (v := (-1000000004)) E dX12_tell_11 q1093 ?_
    replace h := Option.some.inj h
    subst h
    refine v_widen (k' := 0) (n' := 0) (Nat.le_of_ble_eq_true rfl) (Nat.le_of_ble_eq_true rfl) ?_
    exact v_iret E dX12_tell_13
noncomputable def fX12_fault (A0 : AH) (o0 : Option Nat) : Option (Int32) :=
  (rcv A0 13 o0).bind fun o0 =>
  (gI A0 13 391 ((some o0))).bind fun v1 =>
  some v1
set_option maxRecDepth 100000 in
set_option maxHeartbeats 4000000 in
theorem kX12_fault (l : Launch) {A0 : AH} {o0 : Option Nat} {r : Int32} (h : fX12_fault A0 o0 = some r) : (∃ a, o0 = some a ∧ Hk A0 a = 13) ∧ Cn l yX12_fault cX12_fault 1 (some .int) 0 0 0 0 [vR o0] A0 (some (vI r)) A0 := by
  unfold fX12_fault at h
  replace h := bnd_e h
  obtain ⟨o1, e1, h⟩ := h
  obtain ⟨rfl, hk0⟩ := rcv_e e1
  refine ⟨⟨o1, rfl, hk0⟩, ?_⟩
  refine Cn.of (pad := 0) (lv0 := [some (vR (some o1))]) (by decide +kernel) (Nat.le_of_ble_eq_true rfl) rfl ?_
  intro p e s m below meth c base D cy E
  generalize (List.map toV [vR (some o1)]).toArray = ar at E ⊢
  have E : EN p s m ar meth c D cy RX12 cX12_fault 1 (some .int) "fault" := E
  refine v_aload_n E dX12_fault_0 rfl ?_
  replace h := bnd_e h
  obtain ⟨v1, ev1, h⟩ := h
  refine g12_23 E ev1 dX12_fault_1 ?_
  replace h := Option.some.inj h
  subst h
  refine v_widen (k' := 0) (n' := 0) (Nat.le_of_ble_eq_true rfl) (Nat.le_of_ble_eq_true rfl) ?_
  exact v_iret E dX12_fault_4
noncomputable def fX12_isBetween (A0 : AH) (o0 : Option Nat) (a1 : Int32) (a2 : Int32) (a3 : Int32) : Option (Int32) :=
  (rcv A0 13 o0).bind fun o0 =>
  (fX12_place A0 ((some o0)) a1 a2 0).bind fun r1 =>
  (fX12_place A0 ((some o0)) a1 a2 1).bind fun r2 =>
  if a2 = a3 then
    some 0
  else
    (fX12_place A0 ((some o0)) a1 a3 0).bind fun r3 =>
    (fX12_in A0 (((r3 : Int32).toInt64)) (((r1 : Int32).toInt64)) (((r2 : Int32).toInt64))).bind fun r4 =>
    (fX12_place A0 ((some o0)) a1 a3 1).bind fun r5 =>
    (fX12_in A0 (((r5 : Int32).toInt64)) (((r1 : Int32).toInt64)) (((r2 : Int32).toInt64))).bind fun r6 =>
    if r4 = r6 then
      some 0
    else
      some 1
set_option maxRecDepth 100000 in
set_option maxHeartbeats 4000000 in
theorem kX12_isBetween (l : Launch) {A0 : AH} {o0 : Option Nat} {a1 : Int32} {a2 : Int32} {a3 : Int32} {r : Int32} (h : fX12_isBetween A0 o0 a1 a2 a3 = some r) : (∃ a, o0 = some a ∧ Hk A0 a = 13) ∧ Cn l yX12_isBetween cX12_isBetween 6 (some .boolean) 2 48 0 0 [vR o0, vI a1, vI a2, vI a3] A0 (some (vI r)) A0 := by
  unfold fX12_isBetween at h
  replace h := bnd_e h
  obtain ⟨o1, e1, h⟩ := h
  obtain ⟨rfl, hk0⟩ := rcv_e e1
  refine ⟨⟨o1, rfl, hk0⟩, ?_⟩
  refine Cn.of (pad := 2) (lv0 := [some (vR (some o1)), some (vI a1), some (vI a2), some (vI a3), none, none]) (by decide +kernel) (Nat.le_of_ble_eq_true rfl) rfl ?_
  intro p e s m below meth c base D cy E
  generalize (List.map toV [vR (some o1), vI a1, vI a2, vI a3]).toArray = ar at E ⊢
  have E : EN p s m ar meth c D cy RX12 cX12_isBetween 6 (some .boolean) "isBetween" := E
  refine v_aload_n E dX12_isBetween_0 rfl ?_
  refine v_iload_n E dX12_isBetween_1 rfl ?_
  refine v_iload_n E dX12_isBetween_2 rfl ?_
  refine v_iconst (v := 0) E dX12_isBetween_3 (by decide) ?_
  replace h := bnd_e h
  obtain ⟨r1, er1, h⟩ := h
  refine v_callV (na := 3) (As := [vI a1, vI a2, vI 0]) (rest := []) (ci := 12) (q := (RX12, TX12, 20)) E gw12_104 (by decide +kernel) rfl rfl (by decide) (kX12_place l er1).2 (kX12_place l er1).1 rfl rfl dX12_isBetween_4 ⟨Nat.le_of_ble_eq_true rfl, Nat.le_of_ble_eq_true rfl⟩ ⟨(Nat.le_of_ble_eq_true rfl), (Nat.le_of_ble_eq_true rfl)⟩ (Nat.le_of_ble_eq_true rfl) ?_
  refine v_istore (lv' := [some (vR (some o1)), some (vI a1), some (vI a2), some (vI a3), some (vI r1), none]) E dX12_isBetween_7 (by decide) rfl ?_
  refine v_aload_n E dX12_isBetween_9 rfl ?_
  refine v_iload_n E dX12_isBetween_10 rfl ?_
  refine v_iload_n E dX12_isBetween_11 rfl ?_
  refine v_iconst (v := 1) E dX12_isBetween_12 (by decide) ?_
  replace h := bnd_e h
  obtain ⟨r2, er2, h⟩ := h
  refine v_callV (na := 3) (As := [vI a1, vI a2, vI 1]) (rest := []) (ci := 12) (q := (RX12, TX12, 20)) E gw12_104 (by decide +kernel) rfl rfl (by decide) (kX12_place l er2).2 (kX12_place l er2).1 rfl rfl dX12_isBetween_13 ⟨Nat.le_of_ble_eq_true rfl, Nat.le_of_ble_eq_true rfl⟩ ⟨(Nat.le_of_ble_eq_true rfl), (Nat.le_of_ble_eq_true rfl)⟩ (Nat.le_of_ble_eq_true rfl) ?_
  refine v_istore (lv' := [some (vR (some o1)), some (vI a1), some (vI a2), some (vI a3), some (vI r1), some (vI r2)]) E dX12_isBetween_16 (by decide) rfl ?_
  refine v_iload_n E dX12_isBetween_18 rfl ?_
  refine v_iload_n E dX12_isBetween_19 rfl ?_
  refine v_icmp_eq (tgt := 64) E dX12_isBetween_20 (by decide) (fun c8 => ?_) (fun c8 => ?_)
  · rw [if_pos c8] at h
    refine v_iconst (v := 0) E dX12_isBetween_64 (by decide) ?_
    replace h := Option.some.inj h
    subst h
    refine v_widen (k' := 0) (n' := 0) (Nat.le_of_ble_eq_true rfl) (Nat.le_of_ble_eq_true rfl) ?_
    exact v_zret E (Or.inl rfl) dX12_isBetween_65
  · rw [if_neg c8] at h
    refine v_aload_n E dX12_isBetween_23 rfl ?_
    refine v_iload_n E dX12_isBetween_24 rfl ?_
    refine v_iload_n E dX12_isBetween_25 rfl ?_
    refine v_iconst (v := 0) E dX12_isBetween_26 (by decide) ?_
    replace h := bnd_e h
    obtain ⟨r3, er3, h⟩ := h
    refine v_callV (na := 3) (As := [vI a1, vI a3, vI 0]) (rest := []) (ci := 12) (q := (RX12, TX12, 20)) E gw12_104 (by decide +kernel) rfl rfl (by decide) (kX12_place l er3).2 (kX12_place l er3).1 rfl rfl dX12_isBetween_27 ⟨Nat.le_of_ble_eq_true rfl, Nat.le_of_ble_eq_true rfl⟩ ⟨(Nat.le_of_ble_eq_true rfl), (Nat.le_of_ble_eq_true rfl)⟩ (Nat.le_of_ble_eq_true rfl) ?_
    refine v_i2l E dX12_isBetween_30 ?_
    refine v_iload E dX12_isBetween_31 rfl ?_
    refine v_i2l E dX12_isBetween_33 ?_
    refine v_iload E dX12_isBetween_34 rfl ?_
    refine v_i2l E dX12_isBetween_36 ?_
    replace h := bnd_e h
    obtain ⟨r4, er4, h⟩ := h
    refine v_callS (na := 3) (As := [vJ ((r3 : Int32).toInt64), vJ ((r1 : Int32).toInt64), vJ ((r2 : Int32).toInt64)]) (rest := []) E gw12_55 (by decide +kernel) (kX12_in l er4) rfl rfl dX12_isBetween_37 ⟨Nat.le_of_ble_eq_true rfl, Nat.le_of_ble_eq_true rfl⟩ ⟨(Nat.le_of_ble_eq_true rfl), (Nat.le_of_ble_eq_true rfl)⟩ (Nat.le_of_ble_eq_true rfl) ?_
    refine v_aload_n E dX12_isBetween_40 rfl ?_
    refine v_iload_n E dX12_isBetween_41 rfl ?_
    refine v_iload_n E dX12_isBetween_42 rfl ?_
    refine v_iconst (v := 1) E dX12_isBetween_43 (by decide) ?_
    replace h := bnd_e h
    obtain ⟨r5, er5, h⟩ := h
    refine v_callV (na := 3) (As := [vI a1, vI a3, vI 1]) (rest := [vI r4]) (ci := 12) (q := (RX12, TX12, 20)) E gw12_104 (by decide +kernel) rfl rfl (by decide) (kX12_place l er5).2 (kX12_place l er5).1 rfl rfl dX12_isBetween_44 ⟨Nat.le_of_ble_eq_true rfl, Nat.le_of_ble_eq_true rfl⟩ ⟨(Nat.le_of_ble_eq_true rfl), (Nat.le_of_ble_eq_true rfl)⟩ (Nat.le_of_ble_eq_true rfl) ?_
    refine v_i2l E dX12_isBetween_47 ?_
    refine v_iload E dX12_isBetween_48 rfl ?_
    refine v_i2l E dX12_isBetween_50 ?_
    refine v_iload E dX12_isBetween_51 rfl ?_
    refine v_i2l E dX12_isBetween_53 ?_
    replace h := bnd_e h
    obtain ⟨r6, er6, h⟩ := h
    refine v_callS (na := 3) (As := [vJ ((r5 : Int32).toInt64), vJ ((r1 : Int32).toInt64), vJ ((r2 : Int32).toInt64)]) (rest := [vI r4]) E gw12_55 (by decide +kernel) (kX12_in l er6) rfl rfl dX12_isBetween_54 ⟨Nat.le_of_ble_eq_true rfl, Nat.le_of_ble_eq_true rfl⟩ ⟨(Nat.le_of_ble_eq_true rfl), (Nat.le_of_ble_eq_true rfl)⟩ (Nat.le_of_ble_eq_true rfl) ?_
    refine v_icmp_eq (tgt := 64) E dX12_isBetween_57 (by decide) (fun c7 => ?_) (fun c7 => ?_)
    · rw [if_pos c7] at h
      refine v_iconst (v := 0) E dX12_isBetween_64 (by decide) ?_
      replace h := Option.some.inj h
      subst h
      refine v_widen (k' := 0) (n' := 0) (Nat.le_of_ble_eq_true rfl) (Nat.le_of_ble_eq_true rfl) ?_
      exact v_zret E (Or.inl rfl) dX12_isBetween_65
    · rw [if_neg c7] at h
      refine v_iconst (v := 1) E dX12_isBetween_60 (by decide) ?_
      refine v_goto (tgt := 65) E dX12_isBetween_61 (by decide) ?_
      replace h := Option.some.inj h
      subst h
      refine v_widen (k' := 0) (n' := 0) (Nat.le_of_ble_eq_true rfl) (Nat.le_of_ble_eq_true rfl) ?_
      exact v_zret E (Or.inr rfl) dX12_isBetween_65
noncomputable def fX12_betweenSet (A0 : AH) (o0 : Option Nat) (a1 : Int32) (a2 : Int32) : Option (Int32) :=
  (rcv A0 13 o0).bind fun o0 =>
  (iter (S := Int32 × Int32) (T := Int32) (fun s1 =>
      (fX12_size A0 ((some o0)) a1).bind fun r4 =>
      if r4 ≤ s1.2 then
        some (.inr s1.1)
      else
        (fX12_isBetween A0 ((some o0)) a1 a2 s1.2).bind fun r5 =>
        jp1 (α := Int32) (if r5 = 0 then
            0
          else
            (((1 : Int32) <<< ((s1.2 : Int32) &&& 31)))) fun x8 =>
        some (.inl ((s1.1 ||| x8), (s1.2 + 1)))) (0, 0)).bind fun t2 =>
  some t2
set_option maxRecDepth 100000 in
set_option maxHeartbeats 4000000 in
theorem kX12_betweenSet (l : Launch) {A0 : AH} {o0 : Option Nat} {a1 : Int32} {a2 : Int32} {r : Int32} (h : fX12_betweenSet A0 o0 a1 a2 = some r) : (∃ a, o0 = some a ∧ Hk A0 a = 13) ∧ Cn l yX12_betweenSet cX12_betweenSet 5 (some .int) 3 73 0 0 [vR o0, vI a1, vI a2] A0 (some (vI r)) A0 := by
  unfold fX12_betweenSet at h
  replace h := bnd_e h
  obtain ⟨o1, e1, h⟩ := h
  obtain ⟨rfl, hk0⟩ := rcv_e e1
  refine ⟨⟨o1, rfl, hk0⟩, ?_⟩
  refine Cn.of (pad := 2) (lv0 := [some (vR (some o1)), some (vI a1), some (vI a2), none, none]) (by decide +kernel) (Nat.le_of_ble_eq_true rfl) rfl ?_
  intro p e s m below meth c base D cy E
  generalize (List.map toV [vR (some o1), vI a1, vI a2]).toArray = ar at E ⊢
  have E : EN p s m ar meth c D cy RX12 cX12_betweenSet 5 (some .int) "betweenSet" := E
  refine v_iconst (v := 0) E dX12_betweenSet_0 (by decide) ?_
  refine v_istore_n (lv' := [some (vR (some o1)), some (vI a1), some (vI a2), some (vI 0), none]) E dX12_betweenSet_1 (by decide) rfl ?_
  refine v_iconst (v := 0) E dX12_betweenSet_2 (by decide) ?_
  refine v_istore (lv' := [some (vR (some o1)), some (vI a1), some (vI a2), some (vI 0), some (vI 0)]) E dX12_betweenSet_3 (by decide) rfl ?_
  replace h := bnd_e h
  obtain ⟨t2, et2, h⟩ := h
  refine iter_V (S := Int32 × Int32) (T := Int32) (Ph := fun s1 => V p l e { frames := 3, cells := 0, slots := 0, locals := 73 } s m ar below meth c (MQ below (Qd base D cy (some (vI r)) A0) ar s 0 0 (fun q => base ≤ q)) base D cy 5 5 [some (vR (some o1)), some (vI a1), some (vI a2), some (vI s1.1), some (vI s1.2)] [] A0 0 0) (Pt := fun t2 => V p l e { frames := 3, cells := 0, slots := 0, locals := 73 } s m ar below meth c (MQ below (Qd base D cy (some (vI r)) A0) ar s 0 0 (fun q => base ≤ q)) base D cy 5 43 [none, none, none, some (vI t2), none] [] A0 0 0) et2 (fun s1 w3 h hx => ?_) ?_
  · try dsimp only at h
    refine v_iload E dX12_betweenSet_5 rfl ?_
    refine v_aload_n E dX12_betweenSet_7 rfl ?_
    refine v_iload_n E dX12_betweenSet_8 rfl ?_
    replace h := bnd_e h
    obtain ⟨r4, er4, h⟩ := h
    refine v_callV (na := 1) (As := [vI a1]) (rest := [vI s1.2]) (ci := 12) (q := (RX12, TX12, 20)) E gw12_59 (by decide +kernel) rfl rfl (by decide) (kX12_size l er4).2 (kX12_size l er4).1 rfl rfl dX12_betweenSet_9 ⟨Nat.le_of_ble_eq_true rfl, Nat.le_of_ble_eq_true rfl⟩ ⟨(Nat.le_of_ble_eq_true rfl), (Nat.le_of_ble_eq_true rfl)⟩ (Nat.le_of_ble_eq_true rfl) ?_
    refine v_icmp_ge (tgt := 43) E dX12_betweenSet_12 (by decide) (fun c9 => ?_) (fun c9 => ?_)
    · rw [if_pos c9] at h
      refine v_drop (lv' := [none, none, none, some (vI s1.1), none]) [0, 1, 2, 4] rfl ?_
      replace h := Option.some.inj h
      subst h
      exact hx
    · rw [if_neg c9] at h
      refine v_iload_n E dX12_betweenSet_15 rfl ?_
      refine v_aload_n E dX12_betweenSet_16 rfl ?_
      refine v_iload_n E dX12_betweenSet_17 rfl ?_
      refine v_iload_n E dX12_betweenSet_18 rfl ?_
      refine v_iload E dX12_betweenSet_19 rfl ?_
      replace h := bnd_e h
      obtain ⟨r5, er5, h⟩ := h
      refine v_callV (na := 3) (As := [vI a1, vI a2, vI s1.2]) (rest := [vI s1.1]) (ci := 12) (q := (RX12, TX12, 20)) E gw12_108 (by decide +kernel) rfl rfl (by decide) (kX12_isBetween l er5).2 (kX12_isBetween l er5).1 rfl rfl dX12_betweenSet_21 ⟨Nat.le_of_ble_eq_true rfl, Nat.le_of_ble_eq_true rfl⟩ ⟨(Nat.le_of_ble_eq_true rfl), (Nat.le_of_ble_eq_true rfl)⟩ (Nat.le_of_ble_eq_true rfl) ?_
      refine jp1_use h (fun K6 eK6 h => ?_)
      have hK6 : ∀ x8 : Int32, K6 x8 = some w3 → V p l e { frames := 3, cells := 0, slots := 0, locals := 73 } s m ar below meth c (MQ below (Qd base D cy (some (vI r)) A0) ar s 0 0 (fun q => base ≤ q)) base D cy 5 35 [some (vR (some o1)), some (vI a1), some (vI a2), none, some (vI s1.2)] [vI x8, vI s1.1] A0 0 0 := by
        intro x8 h
        rw [eK6] at h
        try dsimp only at h
        refine v_ior E dX12_betweenSet_35 ?_
        refine v_istore_n (lv' := [some (vR (some o1)), some (vI a1), some (vI a2), some (vI (s1.1 ||| x8)), some (vI s1.2)]) E dX12_betweenSet_36 (by decide) rfl ?_
        refine v_iinc (v := (s1.2 + 1)) (lv' := [some (vR (some o1)), some (vI a1), some (vI a2), some (vI (s1.1 ||| x8)), some (vI (s1.2 + 1))]) E dX12_betweenSet_37 rfl (by rfl) (by decide) rfl ?_
        refine v_goto (tgt := 5) E dX12_betweenSet_40 (by decide) ?_
        replace h := Option.some.inj h
        subst h
        exact hx
      refine v_if_eq (tgt := 34) E dX12_betweenSet_24 (by decide) (fun c7 => ?_) (fun c7 => ?_)
      · rw [if_pos c7] at h
        refine v_iconst (v := 0) E dX12_betweenSet_34 (by decide) ?_
        refine v_drop (lv' := [some (vR (some o1)), some (vI a1), some (vI a2), none, some (vI s1.2)]) [3] rfl ?_
        exact hK6 0 h
      · rw [if_neg c7] at h
        refine v_iconst (v := 1) E dX12_betweenSet_27 (by decide) ?_
        refine v_iload E dX12_betweenSet_28 rfl ?_
        refine v_ishl E dX12_betweenSet_30 ?_
        refine v_goto (tgt := 35) E dX12_betweenSet_31 (by decide) ?_
        refine v_drop (lv' := [some (vR (some o1)), some (vI a1), some (vI a2), none, some (vI s1.2)]) [3] rfl ?_
        exact hK6 (((1 : Int32) <<< ((s1.2 : Int32) &&& 31))) h
  · refine v_iload_n E dX12_betweenSet_43 rfl ?_
    replace h := Option.some.inj h
    subst h
    refine v_widen (k' := 0) (n' := 0) (Nat.le_of_ble_eq_true rfl) (Nat.le_of_ble_eq_true rfl) ?_
    exact v_iret E dX12_betweenSet_44
noncomputable def fX12_joins (A0 : AH) (o0 : Option Nat) (a1 : Int32) (a2 : Int32) : Option (AH) :=
  (rcv A0 13 o0).bind fun o0 =>
  (gR A0 13 397 ((some o0))).bind fun v1 =>
  (aI A0 14 v1 a1).bind fun v2 =>
  (gR A0 13 397 ((some o0))).bind fun v3 =>
  (aI A0 14 v3 a2).bind fun v4 =>
  jp (fun (x11 : Int32) =>
    (gI A0 13 398 ((some o0))).bind fun v12 =>
    jp (fun (x20 : Int32) =>
      (pZ A0 13 398 ((some o0)) x20).bind fun A21 =>
      (gR A21 13 397 ((some o0))).bind fun v22 =>
      (sI A21 14 v22 a1 x11).bind fun A23 =>
      (gR A23 13 397 ((some o0))).bind fun v24 =>
      (sI A23 14 v24 a2 x11).bind fun A25 =>
      some A25) fun K13 =>
      if v12 = 0 then
        (gR A0 13 397 ((some o0))).bind fun v14 =>
        (aI A0 14 v14 a1).bind fun v15 =>
        (gR A0 13 397 ((some o0))).bind fun v16 =>
        (aI A0 14 v16 a2).bind fun v17 =>
        if v15 = v17 then
          K13 0
        else
          K13 1
      else
        K13 1) fun K5 =>
    if v4 ≤ v2 then
      (gR A0 13 397 ((some o0))).bind fun v6 =>
      (aI A0 14 v6 a2).bind fun v7 =>
      K5 v7
    else
      (gR A0 13 397 ((some o0))).bind fun v8 =>
      (aI A0 14 v8 a1).bind fun v9 =>
      K5 v9
set_option maxRecDepth 100000 in
set_option maxHeartbeats 4000000 in
theorem kX12_joins (l : Launch) {A0 : AH} {o0 : Option Nat} {a1 : Int32} {a2 : Int32} {r : AH} (h : fX12_joins A0 o0 a1 a2 = some r) : (∃ a, o0 = some a ∧ Hk A0 a = 13) ∧ Cn l yX12_joins cX12_joins 4 none 0 0 0 0 [vR o0, vI a1, vI a2] A0 none r := by
  unfold fX12_joins at h
  replace h := bnd_e h
  obtain ⟨o1, e1, h⟩ := h
  obtain ⟨rfl, hk0⟩ := rcv_e e1
  refine ⟨⟨o1, rfl, hk0⟩, ?_⟩
  refine Cn.of (pad := 1) (lv0 := [some (vR (some o1)), some (vI a1), some (vI a2), none]) (by decide +kernel) (Nat.le_of_ble_eq_true rfl) rfl ?_
  intro p e s m below meth c base D cy E
  generalize (List.map toV [vR (some o1), vI a1, vI a2]).toArray = ar at E ⊢
  have E : EN p s m ar meth c D cy RX12 cX12_joins 4 none "joins" := E
  refine v_aload_n E dX12_joins_0 rfl ?_
  replace h := bnd_e h
  obtain ⟨v1, ev1, h⟩ := h
  refine g12_36 E ev1 dX12_joins_1 ?_
  refine v_iload_n E dX12_joins_4 rfl ?_
  replace h := bnd_e h
  obtain ⟨v2, ev2, h⟩ := h
  refine v_iaload E ev2 dX12_joins_5 ?_
  refine v_aload_n E dX12_joins_6 rfl ?_
  replace h := bnd_e h
  obtain ⟨v3, ev3, h⟩ := h
  refine g12_36 E ev3 dX12_joins_7 ?_
  refine v_iload_n E dX12_joins_10 rfl ?_
  replace h := bnd_e h
  obtain ⟨v4, ev4, h⟩ := h
  refine v_iaload E ev4 dX12_joins_11 ?_
  refine jp_use h (fun K5 eK5 h => ?_)
  have hK5 : ∀ x11 : Int32, K5 x11 = some r → V p l e { frames := 0, cells := 0, slots := 0, locals := 0 } s m ar below meth c (MQ below (Qd base D cy none r) ar s 0 0 (fun q => base ≤ q)) base D cy 4 30 [some (vR (some o1)), some (vI a1), some (vI a2), none] [vI x11] A0 0 0 := by
    intro x11 h
    rw [eK5] at h
    try dsimp only at h
    refine v_istore_n (lv' := [some (vR (some o1)), some (vI a1), some (vI a2), some (vI x11)]) E dX12_joins_30 (by decide) rfl ?_
    refine v_aload_n E dX12_joins_31 rfl ?_
    refine v_aload_n E dX12_joins_32 rfl ?_
    replace h := bnd_e h
    obtain ⟨v12, ev12, h⟩ := h
    refine g12_112 E ev12 dX12_joins_33 ?_
    refine jp_use h (fun K13 eK13 h => ?_)
    have hK13 : ∀ x20 : Int32, K13 x20 = some r → V p l e { frames := 0, cells := 0, slots := 0, locals := 0 } s m ar below meth c (MQ below (Qd base D cy none r) ar s 0 0 (fun q => base ≤ q)) base D cy 4 59 [some (vR (some o1)), some (vI a1), some (vI a2), some (vI x11)] [vI x20, vR (some o1)] A0 0 0 := by
      intro x20 h
      rw [eK13] at h
      try dsimp only at h
      replace h := bnd_e h
      obtain ⟨A21, eA21, h⟩ := h
      refine p12_112 E eA21 dX12_joins_59 ?_
      refine v_aload_n E dX12_joins_62 rfl ?_
      replace h := bnd_e h
      obtain ⟨v22, ev22, h⟩ := h
      refine g12_36 E ev22 dX12_joins_63 ?_
      refine v_iload_n E dX12_joins_66 rfl ?_
      refine v_iload_n E dX12_joins_67 rfl ?_
      replace h := bnd_e h
      obtain ⟨A23, eA23, h⟩ := h
      refine v_iastore E eA23 dX12_joins_68 ?_
      refine v_aload_n E dX12_joins_69 rfl ?_
      replace h := bnd_e h
      obtain ⟨v24, ev24, h⟩ := h
      refine g12_36 E ev24 dX12_joins_70 ?_
      refine v_iload_n E dX12_joins_73 rfl ?_
      refine v_iload_n E dX12_joins_74 rfl ?_
      replace h := bnd_e h
      obtain ⟨A25, eA25, h⟩ := h
      refine v_iastore E eA25 dX12_joins_75 ?_
      replace h := Option.some.inj h
      subst h
      refine v_widen (k' := 0) (n' := 0) (Nat.le_of_ble_eq_true rfl) (Nat.le_of_ble_eq_true rfl) ?_
      exact v_vret E dX12_joins_76
    refine v_if_ne (tgt := 54) E dX12_joins_36 (by decide) (fun c19 => ?_) (fun c19 => ?_)
    · rw [if_neg c19] at h
      refine v_iconst (v := 1) E dX12_joins_54 (by decide) ?_
      refine v_goto (tgt := 59) E dX12_joins_55 (by decide) ?_
      exact hK13 1 h
    · rw [if_pos c19] at h
      refine v_aload_n E dX12_joins_39 rfl ?_
      replace h := bnd_e h
      obtain ⟨v14, ev14, h⟩ := h
      refine g12_36 E ev14 dX12_joins_40 ?_
      refine v_iload_n E dX12_joins_43 rfl ?_
      replace h := bnd_e h
      obtain ⟨v15, ev15, h⟩ := h
      refine v_iaload E ev15 dX12_joins_44 ?_
      refine v_aload_n E dX12_joins_45 rfl ?_
      replace h := bnd_e h
      obtain ⟨v16, ev16, h⟩ := h
      refine g12_36 E ev16 dX12_joins_46 ?_
      refine v_iload_n E dX12_joins_49 rfl ?_
      replace h := bnd_e h
      obtain ⟨v17, ev17, h⟩ := h
      refine v_iaload E ev17 dX12_joins_50 ?_
      refine v_icmp_eq (tgt := 58) E dX12_joins_51 (by decide) (fun c18 => ?_) (fun c18 => ?_)
      · rw [if_pos c18] at h
        refine v_iconst (v := 0) E dX12_joins_58 (by decide) ?_
        exact hK13 0 h
      · rw [if_neg c18] at h
        refine v_iconst (v := 1) E dX12_joins_54 (by decide) ?_
        refine v_goto (tgt := 59) E dX12_joins_55 (by decide) ?_
        exact hK13 1 h
  refine v_icmp_ge (tgt := 24) E dX12_joins_12 (by decide) (fun c10 => ?_) (fun c10 => ?_)
  · rw [if_pos c10] at h
    refine v_aload_n E dX12_joins_24 rfl ?_
    replace h := bnd_e h
    obtain ⟨v6, ev6, h⟩ := h
    refine g12_36 E ev6 dX12_joins_25 ?_
    refine v_iload_n E dX12_joins_28 rfl ?_
    replace h := bnd_e h
    obtain ⟨v7, ev7, h⟩ := h
    refine v_iaload E ev7 dX12_joins_29 ?_
    exact hK5 v7 h
  · rw [if_neg c10] at h
    refine v_aload_n E dX12_joins_15 rfl ?_
    replace h := bnd_e h
    obtain ⟨v8, ev8, h⟩ := h
    refine g12_36 E ev8 dX12_joins_16 ?_
    refine v_iload_n E dX12_joins_19 rfl ?_
    replace h := bnd_e h
    obtain ⟨v9, ev9, h⟩ := h
    refine v_iaload E ev9 dX12_joins_20 ?_
    refine v_goto (tgt := 30) E dX12_joins_21 (by decide) ?_
    exact hK5 v9 h
noncomputable def fX12_startsLabels (A0 : AH) (o0 : Option Nat) (a1 : Int32) : Option (AH) :=
  (rcv A0 13 o0).bind fun o0 =>
  (iter (S := Int32 × AH) (T := AH) (fun s1 =>
      if a1 ≤ s1.1 then
        some (.inr s1.2)
      else
        (gR s1.2 13 397 ((some o0))).bind fun v4 =>
        (sI s1.2 14 v4 s1.1 s1.1).bind fun A5 =>
        some (.inl ((s1.1 + 1), A5))) (0, A0)).bind fun t2 =>
  some t2
set_option maxRecDepth 100000 in
set_option maxHeartbeats 4000000 in
theorem kX12_startsLabels (l : Launch) {A0 : AH} {o0 : Option Nat} {a1 : Int32} {r : AH} (h : fX12_startsLabels A0 o0 a1 = some r) : (∃ a, o0 = some a ∧ Hk A0 a = 13) ∧ Cn l yX12_startsLabels cX12_startsLabels 3 none 0 0 0 0 [vR o0, vI a1] A0 none r := by
  unfold fX12_startsLabels at h
  replace h := bnd_e h
  obtain ⟨o1, e1, h⟩ := h
  obtain ⟨rfl, hk0⟩ := rcv_e e1
  refine ⟨⟨o1, rfl, hk0⟩, ?_⟩
  refine Cn.of (pad := 1) (lv0 := [some (vR (some o1)), some (vI a1), none]) (by decide +kernel) (Nat.le_of_ble_eq_true rfl) rfl ?_
  intro p e s m below meth c base D cy E
  generalize (List.map toV [vR (some o1), vI a1]).toArray = ar at E ⊢
  have E : EN p s m ar meth c D cy RX12 cX12_startsLabels 3 none "startsLabels" := E
  refine v_iconst (v := 0) E dX12_startsLabels_0 (by decide) ?_
  refine v_istore_n (lv' := [some (vR (some o1)), some (vI a1), some (vI 0)]) E dX12_startsLabels_1 (by decide) rfl ?_
  replace h := bnd_e h
  obtain ⟨t2, et2, h⟩ := h
  refine iter_V (S := Int32 × AH) (T := AH) (Ph := fun s1 => V p l e { frames := 0, cells := 0, slots := 0, locals := 0 } s m ar below meth c (MQ below (Qd base D cy none r) ar s 0 0 (fun q => base ≤ q)) base D cy 3 2 [some (vR (some o1)), some (vI a1), some (vI s1.1)] [] s1.2 0 0) (Pt := fun t2 => V p l e { frames := 0, cells := 0, slots := 0, locals := 0 } s m ar below meth c (MQ below (Qd base D cy none r) ar s 0 0 (fun q => base ≤ q)) base D cy 3 20 [none, none, none] [] t2 0 0) et2 (fun s1 w3 h hx => ?_) ?_
  · try dsimp only at h
    refine v_iload_n E dX12_startsLabels_2 rfl ?_
    refine v_iload_n E dX12_startsLabels_3 rfl ?_
    refine v_icmp_ge (tgt := 20) E dX12_startsLabels_4 (by decide) (fun c6 => ?_) (fun c6 => ?_)
    · rw [if_pos c6] at h
      refine v_drop (lv' := [none, none, none]) [0, 1, 2] rfl ?_
      replace h := Option.some.inj h
      subst h
      exact hx
    · rw [if_neg c6] at h
      refine v_aload_n E dX12_startsLabels_7 rfl ?_
      replace h := bnd_e h
      obtain ⟨v4, ev4, h⟩ := h
      refine g12_36 E ev4 dX12_startsLabels_8 ?_
      refine v_iload_n E dX12_startsLabels_11 rfl ?_
      refine v_iload_n E dX12_startsLabels_12 rfl ?_
      replace h := bnd_e h
      obtain ⟨A5, eA5, h⟩ := h
      refine v_iastore E eA5 dX12_startsLabels_13 ?_
      refine v_iinc (v := (s1.1 + 1)) (lv' := [some (vR (some o1)), some (vI a1), some (vI (s1.1 + 1))]) E dX12_startsLabels_14 rfl (by rfl) (by decide) rfl ?_
      refine v_goto (tgt := 2) E dX12_startsLabels_17 (by decide) ?_
      replace h := Option.some.inj h
      subst h
      exact hx
  · replace h := Option.some.inj h
    subst h
    refine v_widen (k' := 0) (n' := 0) (Nat.le_of_ble_eq_true rfl) (Nat.le_of_ble_eq_true rfl) ?_
    exact v_vret E dX12_startsLabels_20
noncomputable def fX12_heaps (A0 : AH) (o0 : Option Nat) (a1 : Int32) : Option (Int32) :=
  (rcv A0 13 o0).bind fun o0 =>
  (iter (S := Int32 × Int32) (T := Int32) (fun s1 =>
      if a1 ≤ s1.2 then
        some (.inr s1.1)
      else
        (gR A0 13 397 ((some o0))).bind fun v4 =>
        (aI A0 14 v4 s1.2).bind fun v5 =>
        jp1 (α := Int32) (if v5 = s1.2 then
            1
          else
            0) fun x8 =>
        some (.inl ((s1.1 + x8), (s1.2 + 1)))) (0, 0)).bind fun t2 =>
  some t2
set_option maxRecDepth 100000 in
set_option maxHeartbeats 4000000 in
theorem kX12_heaps (l : Launch) {A0 : AH} {o0 : Option Nat} {a1 : Int32} {r : Int32} (h : fX12_heaps A0 o0 a1 = some r) : (∃ a, o0 = some a ∧ Hk A0 a = 13) ∧ Cn l yX12_heaps cX12_heaps 4 (some .int) 0 0 0 0 [vR o0, vI a1] A0 (some (vI r)) A0 := by
  unfold fX12_heaps at h
  replace h := bnd_e h
  obtain ⟨o1, e1, h⟩ := h
  obtain ⟨rfl, hk0⟩ := rcv_e e1
  refine ⟨⟨o1, rfl, hk0⟩, ?_⟩
  refine Cn.of (pad := 2) (lv0 := [some (vR (some o1)), some (vI a1), none, none]) (by decide +kernel) (Nat.le_of_ble_eq_true rfl) rfl ?_
  intro p e s m below meth c base D cy E
  generalize (List.map toV [vR (some o1), vI a1]).toArray = ar at E ⊢
  have E : EN p s m ar meth c D cy RX12 cX12_heaps 4 (some .int) "heaps" := E
  refine v_iconst (v := 0) E dX12_heaps_0 (by decide) ?_
  refine v_istore_n (lv' := [some (vR (some o1)), some (vI a1), some (vI 0), none]) E dX12_heaps_1 (by decide) rfl ?_
  refine v_iconst (v := 0) E dX12_heaps_2 (by decide) ?_
  refine v_istore_n (lv' := [some (vR (some o1)), some (vI a1), some (vI 0), some (vI 0)]) E dX12_heaps_3 (by decide) rfl ?_
  replace h := bnd_e h
  obtain ⟨t2, et2, h⟩ := h
  refine iter_V (S := Int32 × Int32) (T := Int32) (Ph := fun s1 => V p l e { frames := 0, cells := 0, slots := 0, locals := 0 } s m ar below meth c (MQ below (Qd base D cy (some (vI r)) A0) ar s 0 0 (fun q => base ≤ q)) base D cy 4 4 [some (vR (some o1)), some (vI a1), some (vI s1.1), some (vI s1.2)] [] A0 0 0) (Pt := fun t2 => V p l e { frames := 0, cells := 0, slots := 0, locals := 0 } s m ar below meth c (MQ below (Qd base D cy (some (vI r)) A0) ar s 0 0 (fun q => base ≤ q)) base D cy 4 33 [none, none, some (vI t2), none] [] A0 0 0) et2 (fun s1 w3 h hx => ?_) ?_
  · try dsimp only at h
    refine v_iload_n E dX12_heaps_4 rfl ?_
    refine v_iload_n E dX12_heaps_5 rfl ?_
    refine v_icmp_ge (tgt := 33) E dX12_heaps_6 (by decide) (fun c9 => ?_) (fun c9 => ?_)
    · rw [if_pos c9] at h
      refine v_drop (lv' := [none, none, some (vI s1.1), none]) [0, 1, 3] rfl ?_
      replace h := Option.some.inj h
      subst h
      exact hx
    · rw [if_neg c9] at h
      refine v_iload_n E dX12_heaps_9 rfl ?_
      refine v_aload_n E dX12_heaps_10 rfl ?_
      replace h := bnd_e h
      obtain ⟨v4, ev4, h⟩ := h
      refine g12_36 E ev4 dX12_heaps_11 ?_
      refine v_iload_n E dX12_heaps_14 rfl ?_
      replace h := bnd_e h
      obtain ⟨v5, ev5, h⟩ := h
      refine v_iaload E ev5 dX12_heaps_15 ?_
      refine v_iload_n E dX12_heaps_16 rfl ?_
      refine jp1_use h (fun K6 eK6 h => ?_)
      have hK6 : ∀ x8 : Int32, K6 x8 = some w3 → V p l e { frames := 0, cells := 0, slots := 0, locals := 0 } s m ar below meth c (MQ below (Qd base D cy (some (vI r)) A0) ar s 0 0 (fun q => base ≤ q)) base D cy 4 25 [some (vR (some o1)), some (vI a1), none, some (vI s1.2)] [vI x8, vI s1.1] A0 0 0 := by
        intro x8 h
        rw [eK6] at h
        try dsimp only at h
        refine v_iadd E dX12_heaps_25 ?_
        refine v_istore_n (lv' := [some (vR (some o1)), some (vI a1), some (vI (s1.1 + x8)), some (vI s1.2)]) E dX12_heaps_26 (by decide) rfl ?_
        refine v_iinc (v := (s1.2 + 1)) (lv' := [some (vR (some o1)), some (vI a1), some (vI (s1.1 + x8)), some (vI (s1.2 + 1))]) E dX12_heaps_27 rfl (by rfl) (by decide) rfl ?_
        refine v_goto (tgt := 4) E dX12_heaps_30 (by decide) ?_
        replace h := Option.some.inj h
        subst h
        exact hx
      refine v_icmp_ne (tgt := 24) E dX12_heaps_17 (by decide) (fun c7 => ?_) (fun c7 => ?_)
      · rw [if_neg c7] at h
        refine v_iconst (v := 0) E dX12_heaps_24 (by decide) ?_
        refine v_drop (lv' := [some (vR (some o1)), some (vI a1), none, some (vI s1.2)]) [2] rfl ?_
        exact hK6 0 h
      · rw [if_pos c7] at h
        refine v_iconst (v := 1) E dX12_heaps_20 (by decide) ?_
        refine v_goto (tgt := 25) E dX12_heaps_21 (by decide) ?_
        refine v_drop (lv' := [some (vR (some o1)), some (vI a1), none, some (vI s1.2)]) [2] rfl ?_
        exact hK6 1 h
  · refine v_iload_n E dX12_heaps_33 rfl ?_
    replace h := Option.some.inj h
    subst h
    refine v_widen (k' := 0) (n' := 0) (Nat.le_of_ble_eq_true rfl) (Nat.le_of_ble_eq_true rfl) ?_
    exact v_iret E dX12_heaps_34
noncomputable def fX12_parts (A0 : AH) (o0 : Option Nat) (a1 : Int32) : Option (Int32 × AH) :=
  (rcv A0 13 o0).bind fun o0 =>
  (fX12_size A0 ((some o0)) a1).bind fun r1 =>
  (fX12_startsLabels A0 ((some o0)) r1).bind fun r2 =>
  (pZ r2 13 398 ((some o0)) 1).bind fun A3 =>
  (iter (S := AH) (T := AH) (fun s4 =>
      (gI s4 13 398 ((some o0))).bind fun v7 =>
      if v7 = 0 then
        some (.inr s4)
      else
        (pZ s4 13 398 ((some o0)) 0).bind fun A8 =>
        (iter (S := Int32 × AH) (T := AH) (fun s9 =>
            (fX12_size s9.2 ((some o0)) a1).bind fun r12 =>
            if r12 ≤ s9.1 then
              some (.inr s9.2)
            else
              (iter (S := Int32 × AH) (T := AH) (fun s13 =>
                  if s9.1 ≤ s13.1 then
                    some (.inr s13.2)
                  else
                    (fX12_isBetween s13.2 ((some o0)) a1 s9.1 s13.1).bind fun r16 =>
                    jp (fun (x20 : AH) =>
                      some (.inl ((s13.1 + 1), x20))) fun K17 =>
                      if r16 = 0 then
                        K17 s13.2
                      else
                        (fX12_joins s13.2 ((some o0)) s9.1 s13.1).bind fun r18 =>
                        K17 r18) (0, s9.2)).bind fun t14 =>
              some (.inl ((s9.1 + 1), t14))) (0, A8)).bind fun t10 =>
        some (.inl t10)) A3).bind fun t5 =>
  (fX12_size t5 ((some o0)) a1).bind fun r26 =>
  (fX12_heaps t5 ((some o0)) r26).bind fun r27 =>
  some ((r27, t5))
set_option maxRecDepth 100000 in
set_option maxHeartbeats 4000000 in
theorem kX12_parts (l : Launch) {A0 : AH} {o0 : Option Nat} {a1 : Int32} {r : Int32 × AH} (h : fX12_parts A0 o0 a1 = some r) : (∃ a, o0 = some a ∧ Hk A0 a = 13) ∧ Cn l yX12_parts cX12_parts 4 (some .int) 3 73 0 0 [vR o0, vI a1] A0 (some (vI r.1)) r.2 := by
  unfold fX12_parts at h
  replace h := bnd_e h
  obtain ⟨o1, e1, h⟩ := h
  obtain ⟨rfl, hk0⟩ := rcv_e e1
  refine ⟨⟨o1, rfl, hk0⟩, ?_⟩
  refine Cn.of (pad := 2) (lv0 := [some (vR (some o1)), some (vI a1), none, none]) (by decide +kernel) (Nat.le_of_ble_eq_true rfl) rfl ?_
  intro p e s m below meth c base D cy E
  generalize (List.map toV [vR (some o1), vI a1]).toArray = ar at E ⊢
  have E : EN p s m ar meth c D cy RX12 cX12_parts 4 (some .int) "parts" := E
  refine v_aload_n E dX12_parts_0 rfl ?_
  refine v_aload_n E dX12_parts_1 rfl ?_
  refine v_iload_n E dX12_parts_2 rfl ?_
  replace h := bnd_e h
  obtain ⟨r1, er1, h⟩ := h
  refine v_callV (na := 1) (As := [vI a1]) (rest := [vR (some o1)]) (ci := 12) (q := (RX12, TX12, 20)) E gw12_59 (by decide +kernel) rfl rfl (by decide) (kX12_size l er1).2 (kX12_size l er1).1 rfl rfl dX12_parts_3 ⟨Nat.le_of_ble_eq_true rfl, Nat.le_of_ble_eq_true rfl⟩ ⟨(Nat.le_of_ble_eq_true rfl), (Nat.le_of_ble_eq_true rfl)⟩ (Nat.le_of_ble_eq_true rfl) ?_
  replace h := bnd_e h
  obtain ⟨r2, er2, h⟩ := h
  refine v_callV (na := 1) (As := [vI r1]) (rest := []) (ci := 12) (q := (RX12, TX12, 20)) E gw12_116 (by decide +kernel) rfl rfl (by decide) (kX12_startsLabels l er2).2 (kX12_startsLabels l er2).1 rfl rfl dX12_parts_6 ⟨Nat.le_of_ble_eq_true rfl, Nat.le_of_ble_eq_true rfl⟩ ⟨(Nat.le_of_ble_eq_true rfl), (Nat.le_of_ble_eq_true rfl)⟩ (Nat.le_of_ble_eq_true rfl) ?_
  refine v_aload_n E dX12_parts_9 rfl ?_
  refine v_iconst (v := 1) E dX12_parts_10 (by decide) ?_
  replace h := bnd_e h
  obtain ⟨A3, eA3, h⟩ := h
  refine p12_112 E eA3 dX12_parts_11 ?_
  replace h := bnd_e h
  obtain ⟨t5, et5, h⟩ := h
  refine iter_V (S := AH) (T := AH) (Ph := fun s4 => V p l e { frames := 3, cells := 0, slots := 0, locals := 73 } s m ar below meth c (MQ below (Qd base D cy (some (vI r.1)) r.2) ar s 0 0 (fun q => base ≤ q)) base D cy 4 14 [some (vR (some o1)), some (vI a1), none, none] [] s4 0 0) (Pt := fun t5 => V p l e { frames := 3, cells := 0, slots := 0, locals := 73 } s m ar below meth c (MQ below (Qd base D cy (some (vI r.1)) r.2) ar s 0 0 (fun q => base ≤ q)) base D cy 4 75 [some (vR (some o1)), some (vI a1), none, none] [] t5 0 0) et5 (fun s4 w6 h hx => ?_) ?_
  · try dsimp only at h
    refine v_aload_n E dX12_parts_14 rfl ?_
    replace h := bnd_e h
    obtain ⟨v7, ev7, h⟩ := h
    refine g12_112 E ev7 dX12_parts_15 ?_
    refine v_if_eq (tgt := 75) E dX12_parts_18 (by decide) (fun c25 => ?_) (fun c25 => ?_)
    · rw [if_pos c25] at h
      replace h := Option.some.inj h
      subst h
      exact hx
    · rw [if_neg c25] at h
      refine v_aload_n E dX12_parts_21 rfl ?_
      refine v_iconst (v := 0) E dX12_parts_22 (by decide) ?_
      replace h := bnd_e h
      obtain ⟨A8, eA8, h⟩ := h
      refine p12_112 E eA8 dX12_parts_23 ?_
      refine v_iconst (v := 0) E dX12_parts_26 (by decide) ?_
      refine v_istore_n (lv' := [some (vR (some o1)), some (vI a1), some (vI 0), none]) E dX12_parts_27 (by decide) rfl ?_
      replace h := bnd_e h
      obtain ⟨t10, et10, h⟩ := h
      refine iter_V (S := Int32 × AH) (T := AH) (Ph := fun s9 => V p l e { frames := 3, cells := 0, slots := 0, locals := 73 } s m ar below meth c (MQ below (Qd base D cy (some (vI r.1)) r.2) ar s 0 0 (fun q => base ≤ q)) base D cy 4 28 [some (vR (some o1)), some (vI a1), some (vI s9.1), none] [] s9.2 0 0) (Pt := fun t10 => V p l e { frames := 3, cells := 0, slots := 0, locals := 73 } s m ar below meth c (MQ below (Qd base D cy (some (vI r.1)) r.2) ar s 0 0 (fun q => base ≤ q)) base D cy 4 72 [some (vR (some o1)), some (vI a1), none, none] [] t10 0 0) et10 (fun s9 w11 h hx => ?_) ?_
      · try dsimp only at h
        refine v_iload_n E dX12_parts_28 rfl ?_
        refine v_aload_n E dX12_parts_29 rfl ?_
        refine v_iload_n E dX12_parts_30 rfl ?_
        replace h := bnd_e h
        obtain ⟨r12, er12, h⟩ := h
        refine v_callV (na := 1) (As := [vI a1]) (rest := [vI s9.1]) (ci := 12) (q := (RX12, TX12, 20)) E gw12_59 (by decide +kernel) rfl rfl (by decide) (kX12_size l er12).2 (kX12_size l er12).1 rfl rfl dX12_parts_31 ⟨Nat.le_of_ble_eq_true rfl, Nat.le_of_ble_eq_true rfl⟩ ⟨(Nat.le_of_ble_eq_true rfl), (Nat.le_of_ble_eq_true rfl)⟩ (Nat.le_of_ble_eq_true rfl) ?_
        refine v_icmp_ge (tgt := 72) E dX12_parts_34 (by decide) (fun c23 => ?_) (fun c23 => ?_)
        · rw [if_pos c23] at h
          refine v_drop (lv' := [some (vR (some o1)), some (vI a1), none, none]) [2] rfl ?_
          replace h := Option.some.inj h
          subst h
          exact hx
        · rw [if_neg c23] at h
          refine v_iconst (v := 0) E dX12_parts_37 (by decide) ?_
          refine v_istore_n (lv' := [some (vR (some o1)), some (vI a1), some (vI s9.1), some (vI 0)]) E dX12_parts_38 (by decide) rfl ?_
          replace h := bnd_e h
          obtain ⟨t14, et14, h⟩ := h
          refine iter_V (S := Int32 × AH) (T := AH) (Ph := fun s13 => V p l e { frames := 3, cells := 0, slots := 0, locals := 73 } s m ar below meth c (MQ below (Qd base D cy (some (vI r.1)) r.2) ar s 0 0 (fun q => base ≤ q)) base D cy 4 39 [some (vR (some o1)), some (vI a1), some (vI s9.1), some (vI s13.1)] [] s13.2 0 0) (Pt := fun t14 => V p l e { frames := 3, cells := 0, slots := 0, locals := 73 } s m ar below meth c (MQ below (Qd base D cy (some (vI r.1)) r.2) ar s 0 0 (fun q => base ≤ q)) base D cy 4 66 [some (vR (some o1)), some (vI a1), some (vI s9.1), none] [] t14 0 0) et14 (fun s13 w15 h hx => ?_) ?_
          · try dsimp only at h
            refine v_iload_n E dX12_parts_39 rfl ?_
            refine v_iload_n E dX12_parts_40 rfl ?_
            refine v_icmp_ge (tgt := 66) E dX12_parts_41 (by decide) (fun c21 => ?_) (fun c21 => ?_)
            · rw [if_pos c21] at h
              refine v_drop (lv' := [some (vR (some o1)), some (vI a1), some (vI s9.1), none]) [3] rfl ?_
              replace h := Option.some.inj h
              subst h
              exact hx
            · rw [if_neg c21] at h
              refine v_aload_n E dX12_parts_44 rfl ?_
              refine v_iload_n E dX12_parts_45 rfl ?_
              refine v_iload_n E dX12_parts_46 rfl ?_
              refine v_iload_n E dX12_parts_47 rfl ?_
              replace h := bnd_e h
              obtain ⟨r16, er16, h⟩ := h
              refine v_callV (na := 3) (As := [vI a1, vI s9.1, vI s13.1]) (rest := []) (ci := 12) (q := (RX12, TX12, 20)) E gw12_108 (by decide +kernel) rfl rfl (by decide) (kX12_isBetween l er16).2 (kX12_isBetween l er16).1 rfl rfl dX12_parts_48 ⟨Nat.le_of_ble_eq_true rfl, Nat.le_of_ble_eq_true rfl⟩ ⟨(Nat.le_of_ble_eq_true rfl), (Nat.le_of_ble_eq_true rfl)⟩ (Nat.le_of_ble_eq_true rfl) ?_
              refine jp_use h (fun K17 eK17 h => ?_)
              have hK17 : ∀ x20 : AH, K17 x20 = some w15 → V p l e { frames := 3, cells := 0, slots := 0, locals := 73 } s m ar below meth c (MQ below (Qd base D cy (some (vI r.1)) r.2) ar s 0 0 (fun q => base ≤ q)) base D cy 4 60 [some (vR (some o1)), some (vI a1), some (vI s9.1), some (vI s13.1)] [] x20 0 0 := by
                intro x20 h
                rw [eK17] at h
                try dsimp only at h
                refine v_iinc (v := (s13.1 + 1)) (lv' := [some (vR (some o1)), some (vI a1), some (vI s9.1), some (vI (s13.1 + 1))]) E dX12_parts_60 rfl (by rfl) (by decide) rfl ?_
                refine v_goto (tgt := 39) E dX12_parts_63 (by decide) ?_
                replace h := Option.some.inj h
                subst h
                exact hx
              refine v_if_eq (tgt := 60) E dX12_parts_51 (by decide) (fun c19 => ?_) (fun c19 => ?_)
              · rw [if_pos c19] at h
                exact hK17 s13.2 h
              · rw [if_neg c19] at h
                refine v_aload_n E dX12_parts_54 rfl ?_
                refine v_iload_n E dX12_parts_55 rfl ?_
                refine v_iload_n E dX12_parts_56 rfl ?_
                replace h := bnd_e h
                obtain ⟨r18, er18, h⟩ := h
                refine v_callV (na := 2) (As := [vI s9.1, vI s13.1]) (rest := []) (ci := 12) (q := (RX12, TX12, 20)) E gw12_119 (by decide +kernel) rfl rfl (by decide) (kX12_joins l er18).2 (kX12_joins l er18).1 rfl rfl dX12_parts_57 ⟨Nat.le_of_ble_eq_true rfl, Nat.le_of_ble_eq_true rfl⟩ ⟨(Nat.le_of_ble_eq_true rfl), (Nat.le_of_ble_eq_true rfl)⟩ (Nat.le_of_ble_eq_true rfl) ?_
                exact hK17 r18 h
          · refine v_iinc (v := (s9.1 + 1)) (lv' := [some (vR (some o1)), some (vI a1), some (vI (s9.1 + 1)), none]) E dX12_parts_66 rfl (by rfl) (by decide) rfl ?_
            refine v_goto (tgt := 28) E dX12_parts_69 (by decide) ?_
            replace h := Option.some.inj h
            subst h
            exact hx
      · refine v_goto (tgt := 14) E dX12_parts_72 (by decide) ?_
        replace h := Option.some.inj h
        subst h
        exact hx
  · refine v_aload_n E dX12_parts_75 rfl ?_
    refine v_aload_n E dX12_parts_76 rfl ?_
    refine v_iload_n E dX12_parts_77 rfl ?_
    replace h := bnd_e h
    obtain ⟨r26, er26, h⟩ := h
    refine v_callV (na := 1) (As := [vI a1]) (rest := [vR (some o1)]) (ci := 12) (q := (RX12, TX12, 20)) E gw12_59 (by decide +kernel) rfl rfl (by decide) (kX12_size l er26).2 (kX12_size l er26).1 rfl rfl dX12_parts_78 ⟨Nat.le_of_ble_eq_true rfl, Nat.le_of_ble_eq_true rfl⟩ ⟨(Nat.le_of_ble_eq_true rfl), (Nat.le_of_ble_eq_true rfl)⟩ (Nat.le_of_ble_eq_true rfl) ?_
    replace h := bnd_e h
    obtain ⟨r27, er27, h⟩ := h
    refine v_callV (na := 1) (As := [vI r26]) (rest := []) (ci := 12) (q := (RX12, TX12, 20)) E gw12_122 (by decide +kernel) rfl rfl (by decide) (kX12_heaps l er27).2 (kX12_heaps l er27).1 rfl rfl dX12_parts_81 ⟨Nat.le_of_ble_eq_true rfl, Nat.le_of_ble_eq_true rfl⟩ ⟨(Nat.le_of_ble_eq_true rfl), (Nat.le_of_ble_eq_true rfl)⟩ (Nat.le_of_ble_eq_true rfl) ?_
    replace h := Option.some.inj h
    subst h
    refine v_widen (k' := 0) (n' := 0) (Nat.le_of_ble_eq_true rfl) (Nat.le_of_ble_eq_true rfl) ?_
    exact v_iret E dX12_parts_84
noncomputable def fX12_areSides (A0 : AH) (o0 : Option Nat) (a1 : Int32) (a2 : Int32) : Option (Int32) :=
  (rcv A0 13 o0).bind fun o0 =>
  (iter (S := Int32 × Int32) (T := Int32) (fun s1 =>
      (fX12_size A0 ((some o0)) a1).bind fun r4 =>
      if r4 ≤ s1.2 then
        some (.inr s1.1)
      else
        (iter (S := Int32 × Int32) (T := Int32) (fun s5 =>
            if s1.2 ≤ s5.2 then
              some (.inr s5.1)
            else
              if s5.1 = 0 then
                some (.inr s5.1)
              else
                (fX12_has A0 a2 s1.2).bind fun r8 =>
                (fX12_has A0 a2 s5.2).bind fun r9 =>
                jp1 (α := Int32) (if r8 = r9 then
                    0
                  else
                    1) fun x12 =>
                (fX12_isBetween A0 ((some o0)) a1 s1.2 s5.2).bind fun r13 =>
                  jp (fun (x24 : Int32) =>
                    some (.inl (x24, (s5.2 + 1)))) fun K14 =>
                    if r13 = 0 then
                      K14 1
                    else
                      (fX12_betweenSet A0 ((some o0)) a1 s1.2).bind fun r15 =>
                      (fX12_betweenSet A0 ((some o0)) a1 s5.2).bind fun r16 =>
                      (fX12_ones A0 ((r15 &&& r16))).bind fun r17 =>
                      (rmI r17 2).bind fun v18 =>
                      jp1 (α := Int32) (if v18 = 0 then
                          1
                        else
                          0) fun x21 =>
                      if x12 = x21 then
                          K14 1
                        else
                          K14 0) (s1.1, 0)).bind fun t6 =>
        some (.inl (t6, (s1.2 + 1)))) (1, 0)).bind fun t2 =>
  (rz t2).bind fun z29 => some z29
set_option maxRecDepth 100000 in
set_option maxHeartbeats 4000000 in
theorem kX12_areSides (l : Launch) {A0 : AH} {o0 : Option Nat} {a1 : Int32} {a2 : Int32} {r : Int32} (h : fX12_areSides A0 o0 a1 a2 = some r) : (∃ a, o0 = some a ∧ Hk A0 a = 13) ∧ Cn l yX12_areSides cX12_areSides 7 (some .boolean) 4 97 0 0 [vR o0, vI a1, vI a2] A0 (some (vI r)) A0 := by
  unfold fX12_areSides at h
  replace h := bnd_e h
  obtain ⟨o1, e1, h⟩ := h
  obtain ⟨rfl, hk0⟩ := rcv_e e1
  refine ⟨⟨o1, rfl, hk0⟩, ?_⟩
  refine Cn.of (pad := 4) (lv0 := [some (vR (some o1)), some (vI a1), some (vI a2), none, none, none, none]) (by decide +kernel) (Nat.le_of_ble_eq_true rfl) rfl ?_
  intro p e s m below meth c base D cy E
  generalize (List.map toV [vR (some o1), vI a1, vI a2]).toArray = ar at E ⊢
  have E : EN p s m ar meth c D cy RX12 cX12_areSides 7 (some .boolean) "areSides" := E
  refine v_iconst (v := 1) E dX12_areSides_0 (by decide) ?_
  refine v_istore_n (lv' := [some (vR (some o1)), some (vI a1), some (vI a2), some (vI 1), none, none, none]) E dX12_areSides_1 (by decide) rfl ?_
  refine v_iconst (v := 0) E dX12_areSides_2 (by decide) ?_
  refine v_istore (lv' := [some (vR (some o1)), some (vI a1), some (vI a2), some (vI 1), some (vI 0), none, none]) E dX12_areSides_3 (by decide) rfl ?_
  replace h := bnd_e h
  obtain ⟨t2, et2, h⟩ := h
  refine iter_V (S := Int32 × Int32) (T := Int32) (Ph := fun s1 => V p l e { frames := 4, cells := 0, slots := 0, locals := 97 } s m ar below meth c (MQ below (Qd base D cy (some (vI r)) A0) ar s 0 0 (fun q => base ≤ q)) base D cy 7 5 [some (vR (some o1)), some (vI a1), some (vI a2), some (vI s1.1), some (vI s1.2), none, none] [] A0 0 0) (Pt := fun t2 => V p l e { frames := 4, cells := 0, slots := 0, locals := 97 } s m ar below meth c (MQ below (Qd base D cy (some (vI r)) A0) ar s 0 0 (fun q => base ≤ q)) base D cy 7 114 [none, none, none, some (vI t2), none, none, none] [] A0 0 0) et2 (fun s1 w3 h hx => ?_) ?_
  · try dsimp only at h
    refine v_iload E dX12_areSides_5 rfl ?_
    refine v_aload_n E dX12_areSides_7 rfl ?_
    refine v_iload_n E dX12_areSides_8 rfl ?_
    replace h := bnd_e h
    obtain ⟨r4, er4, h⟩ := h
    refine v_callV (na := 1) (As := [vI a1]) (rest := [vI s1.2]) (ci := 12) (q := (RX12, TX12, 20)) E gw12_59 (by decide +kernel) rfl rfl (by decide) (kX12_size l er4).2 (kX12_size l er4).1 rfl rfl dX12_areSides_9 ⟨Nat.le_of_ble_eq_true rfl, Nat.le_of_ble_eq_true rfl⟩ ⟨(Nat.le_of_ble_eq_true rfl), (Nat.le_of_ble_eq_true rfl)⟩ (Nat.le_of_ble_eq_true rfl) ?_
    refine v_icmp_ge (tgt := 114) E dX12_areSides_12 (by decide) (fun c28 => ?_) (fun c28 => ?_)
    · rw [if_pos c28] at h
      refine v_drop (lv' := [none, none, none, some (vI s1.1), none, none, none]) [0, 1, 2, 4] rfl ?_
      replace h := Option.some.inj h
      subst h
      exact hx
    · rw [if_neg c28] at h
      refine v_iconst (v := 0) E dX12_areSides_15 (by decide) ?_
      refine v_istore (lv' := [some (vR (some o1)), some (vI a1), some (vI a2), some (vI s1.1), some (vI s1.2), some (vI 0), none]) E dX12_areSides_16 (by decide) rfl ?_
      replace h := bnd_e h
      obtain ⟨t6, et6, h⟩ := h
      refine iter_V (S := Int32 × Int32) (T := Int32) (Ph := fun s5 => V p l e { frames := 4, cells := 0, slots := 0, locals := 97 } s m ar below meth c (MQ below (Qd base D cy (some (vI r)) A0) ar s 0 0 (fun q => base ≤ q)) base D cy 7 18 [some (vR (some o1)), some (vI a1), some (vI a2), some (vI s5.1), some (vI s1.2), some (vI s5.2), none] [] A0 0 0) (Pt := fun t6 => V p l e { frames := 4, cells := 0, slots := 0, locals := 97 } s m ar below meth c (MQ below (Qd base D cy (some (vI r)) A0) ar s 0 0 (fun q => base ≤ q)) base D cy 7 108 [some (vR (some o1)), some (vI a1), some (vI a2), some (vI t6), some (vI s1.2), none, none] [] A0 0 0) et6 (fun s5 w7 h hx => ?_) ?_
      · try dsimp only at h
        refine v_iload E dX12_areSides_18 rfl ?_
        refine v_iload E dX12_areSides_20 rfl ?_
        refine v_icmp_ge (tgt := 108) E dX12_areSides_22 (by decide) (fun c26 => ?_) (fun c26 => ?_)
        · rw [if_pos c26] at h
          refine v_drop (lv' := [some (vR (some o1)), some (vI a1), some (vI a2), some (vI s5.1), some (vI s1.2), none, none]) [5] rfl ?_
          replace h := Option.some.inj h
          subst h
          exact hx
        · rw [if_neg c26] at h
          refine v_iload_n E dX12_areSides_25 rfl ?_
          refine v_if_eq (tgt := 108) E dX12_areSides_26 (by decide) (fun c25 => ?_) (fun c25 => ?_)
          · rw [if_pos c25] at h
            refine v_drop (lv' := [some (vR (some o1)), some (vI a1), some (vI a2), some (vI s5.1), some (vI s1.2), none, none]) [5] rfl ?_
            replace h := Option.some.inj h
            subst h
            exact hx
          · rw [if_neg c25] at h
            refine v_iload_n E dX12_areSides_29 rfl ?_
            refine v_iload E dX12_areSides_30 rfl ?_
            replace h := bnd_e h
            obtain ⟨r8, er8, h⟩ := h
            refine v_callS (na := 2) (As := [vI a2, vI s1.2]) (rest := []) E gw12_125 (by decide +kernel) (kX12_has l er8) rfl rfl dX12_areSides_32 ⟨Nat.le_of_ble_eq_true rfl, Nat.le_of_ble_eq_true rfl⟩ ⟨(Nat.le_of_ble_eq_true rfl), (Nat.le_of_ble_eq_true rfl)⟩ (Nat.le_of_ble_eq_true rfl) ?_
            refine v_iload_n E dX12_areSides_35 rfl ?_
            refine v_iload E dX12_areSides_36 rfl ?_
            replace h := bnd_e h
            obtain ⟨r9, er9, h⟩ := h
            refine v_callS (na := 2) (As := [vI a2, vI s5.2]) (rest := [vI r8]) E gw12_125 (by decide +kernel) (kX12_has l er9) rfl rfl dX12_areSides_38 ⟨Nat.le_of_ble_eq_true rfl, Nat.le_of_ble_eq_true rfl⟩ ⟨(Nat.le_of_ble_eq_true rfl), (Nat.le_of_ble_eq_true rfl)⟩ (Nat.le_of_ble_eq_true rfl) ?_
            refine jp1_use h (fun K10 eK10 h => ?_)
            have hK10 : ∀ x12 : Int32, K10 x12 = some w7 → V p l e { frames := 4, cells := 0, slots := 0, locals := 97 } s m ar below meth c (MQ below (Qd base D cy (some (vI r)) A0) ar s 0 0 (fun q => base ≤ q)) base D cy 7 49 [some (vR (some o1)), some (vI a1), some (vI a2), none, some (vI s1.2), some (vI s5.2), none] [vI x12] A0 0 0 := by
              intro x12 h
              rw [eK10] at h
              try dsimp only at h
              refine v_istore (lv' := [some (vR (some o1)), some (vI a1), some (vI a2), none, some (vI s1.2), some (vI s5.2), some (vI x12)]) E dX12_areSides_49 (by decide) rfl ?_
              refine v_aload_n E dX12_areSides_51 rfl ?_
              refine v_iload_n E dX12_areSides_52 rfl ?_
              refine v_iload E dX12_areSides_53 rfl ?_
              refine v_iload E dX12_areSides_55 rfl ?_
              replace h := bnd_e h
              obtain ⟨r13, er13, h⟩ := h
              refine v_callV (na := 3) (As := [vI a1, vI s1.2, vI s5.2]) (rest := []) (ci := 12) (q := (RX12, TX12, 20)) E gw12_108 (by decide +kernel) rfl rfl (by decide) (kX12_isBetween l er13).2 (kX12_isBetween l er13).1 rfl rfl dX12_areSides_57 ⟨Nat.le_of_ble_eq_true rfl, Nat.le_of_ble_eq_true rfl⟩ ⟨(Nat.le_of_ble_eq_true rfl), (Nat.le_of_ble_eq_true rfl)⟩ (Nat.le_of_ble_eq_true rfl) ?_
              refine jp_use h (fun K14 eK14 h => ?_)
              have hK14 : ∀ x24 : Int32, K14 x24 = some w7 → V p l e { frames := 4, cells := 0, slots := 0, locals := 97 } s m ar below meth c (MQ below (Qd base D cy (some (vI r)) A0) ar s 0 0 (fun q => base ≤ q)) base D cy 7 101 [some (vR (some o1)), some (vI a1), some (vI a2), none, some (vI s1.2), some (vI s5.2), none] [vI x24] A0 0 0 := by
                intro x24 h
                rw [eK14] at h
                try dsimp only at h
                refine v_istore_n (lv' := [some (vR (some o1)), some (vI a1), some (vI a2), some (vI x24), some (vI s1.2), some (vI s5.2), none]) E dX12_areSides_101 (by decide) rfl ?_
                refine v_iinc (v := (s5.2 + 1)) (lv' := [some (vR (some o1)), some (vI a1), some (vI a2), some (vI x24), some (vI s1.2), some (vI (s5.2 + 1)), none]) E dX12_areSides_102 rfl (by rfl) (by decide) rfl ?_
                refine v_goto (tgt := 18) E dX12_areSides_105 (by decide) ?_
                replace h := Option.some.inj h
                subst h
                exact hx
              refine v_if_eq (tgt := 96) E dX12_areSides_60 (by decide) (fun c23 => ?_) (fun c23 => ?_)
              · rw [if_pos c23] at h
                refine v_iconst (v := 1) E dX12_areSides_96 (by decide) ?_
                refine v_goto (tgt := 101) E dX12_areSides_97 (by decide) ?_
                refine v_drop (lv' := [some (vR (some o1)), some (vI a1), some (vI a2), none, some (vI s1.2), some (vI s5.2), none]) [6] rfl ?_
                exact hK14 1 h
              · rw [if_neg c23] at h
                refine v_iload E dX12_areSides_63 rfl ?_
                refine v_aload_n E dX12_areSides_65 rfl ?_
                refine v_iload_n E dX12_areSides_66 rfl ?_
                refine v_iload E dX12_areSides_67 rfl ?_
                replace h := bnd_e h
                obtain ⟨r15, er15, h⟩ := h
                refine v_callV (na := 2) (As := [vI a1, vI s1.2]) (rest := [vI x12]) (ci := 12) (q := (RX12, TX12, 20)) E gw12_129 (by decide +kernel) rfl rfl (by decide) (kX12_betweenSet l er15).2 (kX12_betweenSet l er15).1 rfl rfl dX12_areSides_69 ⟨Nat.le_of_ble_eq_true rfl, Nat.le_of_ble_eq_true rfl⟩ ⟨(Nat.le_of_ble_eq_true rfl), (Nat.le_of_ble_eq_true rfl)⟩ (Nat.le_of_ble_eq_true rfl) ?_
                refine v_aload_n E dX12_areSides_72 rfl ?_
                refine v_iload_n E dX12_areSides_73 rfl ?_
                refine v_iload E dX12_areSides_74 rfl ?_
                replace h := bnd_e h
                obtain ⟨r16, er16, h⟩ := h
                refine v_callV (na := 2) (As := [vI a1, vI s5.2]) (rest := [vI r15, vI x12]) (ci := 12) (q := (RX12, TX12, 20)) E gw12_129 (by decide +kernel) rfl rfl (by decide) (kX12_betweenSet l er16).2 (kX12_betweenSet l er16).1 rfl rfl dX12_areSides_76 ⟨Nat.le_of_ble_eq_true rfl, Nat.le_of_ble_eq_true rfl⟩ ⟨(Nat.le_of_ble_eq_true rfl), (Nat.le_of_ble_eq_true rfl)⟩ (Nat.le_of_ble_eq_true rfl) ?_
                refine v_iand E dX12_areSides_79 ?_
                replace h := bnd_e h
                obtain ⟨r17, er17, h⟩ := h
                refine v_callS (na := 1) (As := [vI (r15 &&& r16)]) (rest := [vI x12]) E gw12_132 (by decide +kernel) (kX12_ones l er17) rfl rfl dX12_areSides_80 ⟨Nat.le_of_ble_eq_true rfl, Nat.le_of_ble_eq_true rfl⟩ ⟨(Nat.le_of_ble_eq_true rfl), (Nat.le_of_ble_eq_true rfl)⟩ (Nat.le_of_ble_eq_true rfl) ?_
                refine v_iconst (v := 2) E dX12_areSides_83 (by decide) ?_
                replace h := bnd_e h
                obtain ⟨v18, ev18, h⟩ := h
                refine v_irem E ev18 dX12_areSides_84 ?_
                refine jp1_use h (fun K19 eK19 h => ?_)
                have hK19 : ∀ x21 : Int32, K19 x21 = some w7 → V p l e { frames := 4, cells := 0, slots := 0, locals := 97 } s m ar below meth c (MQ below (Qd base D cy (some (vI r)) A0) ar s 0 0 (fun q => base ≤ q)) base D cy 7 93 [some (vR (some o1)), some (vI a1), some (vI a2), none, some (vI s1.2), some (vI s5.2), none] [vI x21, vI x12] A0 0 0 := by
                  intro x21 h
                  rw [eK19] at h
                  try dsimp only at h
                  refine v_icmp_ne (tgt := 100) E dX12_areSides_93 (by decide) (fun c22 => ?_) (fun c22 => ?_)
                  · rw [if_neg c22] at h
                    refine v_iconst (v := 0) E dX12_areSides_100 (by decide) ?_
                    exact hK14 0 h
                  · rw [if_pos c22] at h
                    refine v_iconst (v := 1) E dX12_areSides_96 (by decide) ?_
                    refine v_goto (tgt := 101) E dX12_areSides_97 (by decide) ?_
                    exact hK14 1 h
                refine v_if_ne (tgt := 92) E dX12_areSides_85 (by decide) (fun c20 => ?_) (fun c20 => ?_)
                · rw [if_neg c20] at h
                  refine v_iconst (v := 0) E dX12_areSides_92 (by decide) ?_
                  refine v_drop (lv' := [some (vR (some o1)), some (vI a1), some (vI a2), none, some (vI s1.2), some (vI s5.2), none]) [6] rfl ?_
                  exact hK19 0 h
                · rw [if_pos c20] at h
                  refine v_iconst (v := 1) E dX12_areSides_88 (by decide) ?_
                  refine v_goto (tgt := 93) E dX12_areSides_89 (by decide) ?_
                  refine v_drop (lv' := [some (vR (some o1)), some (vI a1), some (vI a2), none, some (vI s1.2), some (vI s5.2), none]) [6] rfl ?_
                  exact hK19 1 h
            refine v_icmp_eq (tgt := 48) E dX12_areSides_41 (by decide) (fun c11 => ?_) (fun c11 => ?_)
            · rw [if_pos c11] at h
              refine v_iconst (v := 0) E dX12_areSides_48 (by decide) ?_
              refine v_drop (lv' := [some (vR (some o1)), some (vI a1), some (vI a2), none, some (vI s1.2), some (vI s5.2), none]) [3] rfl ?_
              exact hK10 0 h
            · rw [if_neg c11] at h
              refine v_iconst (v := 1) E dX12_areSides_44 (by decide) ?_
              refine v_goto (tgt := 49) E dX12_areSides_45 (by decide) ?_
              refine v_drop (lv' := [some (vR (some o1)), some (vI a1), some (vI a2), none, some (vI s1.2), some (vI s5.2), none]) [3] rfl ?_
              exact hK10 1 h
      · refine v_iinc (v := (s1.2 + 1)) (lv' := [some (vR (some o1)), some (vI a1), some (vI a2), some (vI t6), some (vI (s1.2 + 1)), none, none]) E dX12_areSides_108 rfl (by rfl) (by decide) rfl ?_
        refine v_goto (tgt := 5) E dX12_areSides_111 (by decide) ?_
        replace h := Option.some.inj h
        subst h
        exact hx
  · refine v_iload_n E dX12_areSides_114 rfl ?_
    replace h := bnd_e h
    obtain ⟨z29, ez29, h⟩ := h
    obtain ⟨rfl, ez29⟩ := rz_e ez29
    replace h := Option.some.inj h
    subst h
    refine v_widen (k' := 0) (n' := 0) (Nat.le_of_ble_eq_true rfl) (Nat.le_of_ble_eq_true rfl) ?_
    exact v_zret E ez29 dX12_areSides_115
noncomputable def fX12_broken (A0 : AH) (o0 : Option Nat) (a1 : Int32) : Option (Int32) :=
  (rcv A0 13 o0).bind fun o0 =>
  (iter (S := Int32) (T := (Unit) ⊕ (Int32)) (fun s1 =>
      (fX12_size A0 ((some o0)) a1).bind fun r4 =>
      if r4 ≤ s1 then
        some (.inr (.inl ()))
      else
        (fX12_betweenSet A0 ((some o0)) a1 s1).bind fun r5 =>
        (fX12_ones A0 r5).bind fun r6 =>
        (rmI r6 2).bind fun v7 =>
        if v7 = 1 then
          some (.inr (.inr 1))
        else
          some (.inl ((s1 + 1)))) 0).bind fun t2 =>
  sm t2 (fun t2 =>
    (iter (S := Int32) (T := (Unit) ⊕ (Int32)) (fun s10 =>
        (fX12_size A0 ((some o0)) a1).bind fun r13 =>
        if r13 ≤ s10 then
          some (.inr (.inl ()))
        else
          (iter (S := Int32) (T := (Unit) ⊕ (Int32)) (fun s14 =>
              if s10 ≤ s14 then
                some (.inr (.inl ()))
              else
                (fX12_isBetween A0 ((some o0)) a1 s10 s14).bind fun r17 =>
                jp (fun (x25 : Unit) =>
                  some (.inl ((s14 + 1)))) fun K18 =>
                  if r17 = 0 then
                    (fX12_betweenSet A0 ((some o0)) a1 s10).bind fun r19 =>
                    (fX12_betweenSet A0 ((some o0)) a1 s14).bind fun r20 =>
                    (fX12_ones A0 ((r19 &&& r20))).bind fun r21 =>
                    (rmI r21 2).bind fun v22 =>
                    if v22 = 1 then
                      some (.inr (.inr 2))
                    else
                      K18 ()
                  else
                    K18 ()) 0).bind fun t15 =>
          sm t15 (fun t15 =>
            some (.inl ((s10 + 1)))) (fun r => some (.inr (.inr r)))) 0).bind fun t11 =>
    sm t11 (fun t11 =>
      (iter (S := Int32) (T := (Unit) ⊕ (Int32)) (fun s29 =>
          (fX12_size A0 ((some o0)) a1).bind fun r32 =>
          if ((1 : Int32) <<< ((r32 : Int32) &&& 31)) ≤ s29 then
            some (.inr (.inl ()))
          else
            (fX12_areSides A0 ((some o0)) a1 s29).bind fun r33 =>
            if r33 = 0 then
              some (.inl ((s29 + 1)))
            else
              some (.inr (.inr 0))) 0).bind fun t30 =>
      sm t30 (fun t30 =>
        some 3) (fun r => some r)) (fun r => some r)) (fun r => some r)
set_option maxRecDepth 100000 in
set_option maxHeartbeats 4000000 in
theorem kX12_broken (l : Launch) {A0 : AH} {o0 : Option Nat} {a1 : Int32} {r : Int32} (h : fX12_broken A0 o0 a1 = some r) : (∃ a, o0 = some a ∧ Hk A0 a = 13) ∧ Cn l yX12_broken cX12_broken 4 (some .int) 5 123 0 0 [vR o0, vI a1] A0 (some (vI r)) A0 := by
  unfold fX12_broken at h
  replace h := bnd_e h
  obtain ⟨o1, e1, h⟩ := h
  obtain ⟨rfl, hk0⟩ := rcv_e e1
  refine ⟨⟨o1, rfl, hk0⟩, ?_⟩
  refine Cn.of (pad := 2) (lv0 := [some (vR (some o1)), some (vI a1), none, none]) (by decide +kernel) (Nat.le_of_ble_eq_true rfl) rfl ?_
  intro p e s m below meth c base D cy E
  generalize (List.map toV [vR (some o1), vI a1]).toArray = ar at E ⊢
  have E : EN p s m ar meth c D cy RX12 cX12_broken 4 (some .int) "broken" := E
  refine v_iconst (v := 0) E dX12_broken_0 (by decide) ?_
  refine v_istore_n (lv' := [some (vR (some o1)), some (vI a1), some (vI 0), none]) E dX12_broken_1 (by decide) rfl ?_
  replace h := bnd_e h
  obtain ⟨t2, et2, h⟩ := h
  refine iter_V (S := Int32) (T := (Unit) ⊕ (Int32)) (Ph := fun s1 => V p l e { frames := 5, cells := 0, slots := 0, locals := 123 } s m ar below meth c (MQ below (Qd base D cy (some (vI r)) A0) ar s 0 0 (fun q => base ≤ q)) base D cy 4 2 [some (vR (some o1)), some (vI a1), some (vI s1), none] [] A0 0 0) (Pt := itM (fun t2 => V p l e { frames := 5, cells := 0, slots := 0, locals := 123 } s m ar below meth c (MQ below (Qd base D cy (some (vI r)) A0) ar s 0 0 (fun q => base ≤ q)) base D cy 4 34 [some (vR (some o1)), some (vI a1), none, none] [] A0 0 0) (fun z => z = r)) et2 (fun s1 w3 h hx => ?_) ?_
  · try dsimp only at h
    refine v_iload_n E dX12_broken_2 rfl ?_
    refine v_aload_n E dX12_broken_3 rfl ?_
    refine v_iload_n E dX12_broken_4 rfl ?_
    replace h := bnd_e h
    obtain ⟨r4, er4, h⟩ := h
    refine v_callV (na := 1) (As := [vI a1]) (rest := [vI s1]) (ci := 12) (q := (RX12, TX12, 20)) E gw12_59 (by decide +kernel) rfl rfl (by decide) (kX12_size l er4).2 (kX12_size l er4).1 rfl rfl dX12_broken_5 ⟨Nat.le_of_ble_eq_true rfl, Nat.le_of_ble_eq_true rfl⟩ ⟨(Nat.le_of_ble_eq_true rfl), (Nat.le_of_ble_eq_true rfl)⟩ (Nat.le_of_ble_eq_true rfl) ?_
    refine v_icmp_ge (tgt := 34) E dX12_broken_8 (by decide) (fun c9 => ?_) (fun c9 => ?_)
    · rw [if_pos c9] at h
      refine v_drop (lv' := [some (vR (some o1)), some (vI a1), none, none]) [2] rfl ?_
      replace h := Option.some.inj h
      subst h
      exact hx
    · rw [if_neg c9] at h
      refine v_aload_n E dX12_broken_11 rfl ?_
      refine v_iload_n E dX12_broken_12 rfl ?_
      refine v_iload_n E dX12_broken_13 rfl ?_
      replace h := bnd_e h
      obtain ⟨r5, er5, h⟩ := h
      refine v_callV (na := 2) (As := [vI a1, vI s1]) (rest := []) (ci := 12) (q := (RX12, TX12, 20)) E gw12_129 (by decide +kernel) rfl rfl (by decide) (kX12_betweenSet l er5).2 (kX12_betweenSet l er5).1 rfl rfl dX12_broken_14 ⟨Nat.le_of_ble_eq_true rfl, Nat.le_of_ble_eq_true rfl⟩ ⟨(Nat.le_of_ble_eq_true rfl), (Nat.le_of_ble_eq_true rfl)⟩ (Nat.le_of_ble_eq_true rfl) ?_
      replace h := bnd_e h
      obtain ⟨r6, er6, h⟩ := h
      refine v_callS (na := 1) (As := [vI r5]) (rest := []) E gw12_132 (by decide +kernel) (kX12_ones l er6) rfl rfl dX12_broken_17 ⟨Nat.le_of_ble_eq_true rfl, Nat.le_of_ble_eq_true rfl⟩ ⟨(Nat.le_of_ble_eq_true rfl), (Nat.le_of_ble_eq_true rfl)⟩ (Nat.le_of_ble_eq_true rfl) ?_
      refine v_iconst (v := 2) E dX12_broken_20 (by decide) ?_
      replace h := bnd_e h
      obtain ⟨v7, ev7, h⟩ := h
      refine v_irem E ev7 dX12_broken_21 ?_
      refine v_iconst (v := 1) E dX12_broken_22 (by decide) ?_
      refine v_icmp_ne (tgt := 28) E dX12_broken_23 (by decide) (fun c8 => ?_) (fun c8 => ?_)
      · rw [if_neg c8] at h
        refine v_iinc (v := (s1 + 1)) (lv' := [some (vR (some o1)), some (vI a1), some (vI (s1 + 1)), none]) E dX12_broken_28 rfl (by rfl) (by decide) rfl ?_
        refine v_goto (tgt := 2) E dX12_broken_31 (by decide) ?_
        replace h := Option.some.inj h
        subst h
        exact hx
      · rw [if_pos c8] at h
        refine v_iconst (v := 1) E dX12_broken_26 (by decide) ?_
        replace h := Option.some.inj h
        subst h
        have hx : _ = r := hx
        subst hx
        refine v_widen (k' := 0) (n' := 0) (Nat.le_of_ble_eq_true rfl) (Nat.le_of_ble_eq_true rfl) ?_
        exact v_iret E dX12_broken_27
  · cases t2 with
    | inl t2 =>
      dsimp only [sm] at h
      refine v_iconst (v := 0) E dX12_broken_34 (by decide) ?_
      refine v_istore_n (lv' := [some (vR (some o1)), some (vI a1), some (vI 0), none]) E dX12_broken_35 (by decide) rfl ?_
      replace h := bnd_e h
      obtain ⟨t11, et11, h⟩ := h
      refine iter_V (S := Int32) (T := (Unit) ⊕ (Int32)) (Ph := fun s10 => V p l e { frames := 5, cells := 0, slots := 0, locals := 123 } s m ar below meth c (MQ below (Qd base D cy (some (vI r)) A0) ar s 0 0 (fun q => base ≤ q)) base D cy 4 36 [some (vR (some o1)), some (vI a1), some (vI s10), none] [] A0 0 0) (Pt := itM (fun t11 => V p l e { frames := 5, cells := 0, slots := 0, locals := 123 } s m ar below meth c (MQ below (Qd base D cy (some (vI r)) A0) ar s 0 0 (fun q => base ≤ q)) base D cy 4 98 [some (vR (some o1)), some (vI a1), none, none] [] A0 0 0) (fun z => z = r)) et11 (fun s10 w12 h hx => ?_) ?_
      · try dsimp only at h
        refine v_iload_n E dX12_broken_36 rfl ?_
        refine v_aload_n E dX12_broken_37 rfl ?_
        refine v_iload_n E dX12_broken_38 rfl ?_
        replace h := bnd_e h
        obtain ⟨r13, er13, h⟩ := h
        refine v_callV (na := 1) (As := [vI a1]) (rest := [vI s10]) (ci := 12) (q := (RX12, TX12, 20)) E gw12_59 (by decide +kernel) rfl rfl (by decide) (kX12_size l er13).2 (kX12_size l er13).1 rfl rfl dX12_broken_39 ⟨Nat.le_of_ble_eq_true rfl, Nat.le_of_ble_eq_true rfl⟩ ⟨(Nat.le_of_ble_eq_true rfl), (Nat.le_of_ble_eq_true rfl)⟩ (Nat.le_of_ble_eq_true rfl) ?_
        refine v_icmp_ge (tgt := 98) E dX12_broken_42 (by decide) (fun c28 => ?_) (fun c28 => ?_)
        · rw [if_pos c28] at h
          refine v_drop (lv' := [some (vR (some o1)), some (vI a1), none, none]) [2] rfl ?_
          replace h := Option.some.inj h
          subst h
          exact hx
        · rw [if_neg c28] at h
          refine v_iconst (v := 0) E dX12_broken_45 (by decide) ?_
          refine v_istore_n (lv' := [some (vR (some o1)), some (vI a1), some (vI s10), some (vI 0)]) E dX12_broken_46 (by decide) rfl ?_
          replace h := bnd_e h
          obtain ⟨t15, et15, h⟩ := h
          refine iter_V (S := Int32) (T := (Unit) ⊕ (Int32)) (Ph := fun s14 => V p l e { frames := 5, cells := 0, slots := 0, locals := 123 } s m ar below meth c (MQ below (Qd base D cy (some (vI r)) A0) ar s 0 0 (fun q => base ≤ q)) base D cy 4 47 [some (vR (some o1)), some (vI a1), some (vI s10), some (vI s14)] [] A0 0 0) (Pt := itM (fun t15 => V p l e { frames := 5, cells := 0, slots := 0, locals := 123 } s m ar below meth c (MQ below (Qd base D cy (some (vI r)) A0) ar s 0 0 (fun q => base ≤ q)) base D cy 4 92 [some (vR (some o1)), some (vI a1), some (vI s10), none] [] A0 0 0) (fun z => z = r)) et15 (fun s14 w16 h hx => ?_) ?_
          · try dsimp only at h
            refine v_iload_n E dX12_broken_47 rfl ?_
            refine v_iload_n E dX12_broken_48 rfl ?_
            refine v_icmp_ge (tgt := 92) E dX12_broken_49 (by decide) (fun c26 => ?_) (fun c26 => ?_)
            · rw [if_pos c26] at h
              refine v_drop (lv' := [some (vR (some o1)), some (vI a1), some (vI s10), none]) [3] rfl ?_
              replace h := Option.some.inj h
              subst h
              exact hx
            · rw [if_neg c26] at h
              refine v_aload_n E dX12_broken_52 rfl ?_
              refine v_iload_n E dX12_broken_53 rfl ?_
              refine v_iload_n E dX12_broken_54 rfl ?_
              refine v_iload_n E dX12_broken_55 rfl ?_
              replace h := bnd_e h
              obtain ⟨r17, er17, h⟩ := h
              refine v_callV (na := 3) (As := [vI a1, vI s10, vI s14]) (rest := []) (ci := 12) (q := (RX12, TX12, 20)) E gw12_108 (by decide +kernel) rfl rfl (by decide) (kX12_isBetween l er17).2 (kX12_isBetween l er17).1 rfl rfl dX12_broken_56 ⟨Nat.le_of_ble_eq_true rfl, Nat.le_of_ble_eq_true rfl⟩ ⟨(Nat.le_of_ble_eq_true rfl), (Nat.le_of_ble_eq_true rfl)⟩ (Nat.le_of_ble_eq_true rfl) ?_
              refine jp_use h (fun K18 eK18 h => ?_)
              have hK18 : ∀ x25 : Unit, K18 x25 = some w16 → V p l e { frames := 5, cells := 0, slots := 0, locals := 123 } s m ar below meth c (MQ below (Qd base D cy (some (vI r)) A0) ar s 0 0 (fun q => base ≤ q)) base D cy 4 86 [some (vR (some o1)), some (vI a1), some (vI s10), some (vI s14)] [] A0 0 0 := by
                intro x25 h
                rw [eK18] at h
                try dsimp only at h
                refine v_iinc (v := (s14 + 1)) (lv' := [some (vR (some o1)), some (vI a1), some (vI s10), some (vI (s14 + 1))]) E dX12_broken_86 rfl (by rfl) (by decide) rfl ?_
                refine v_goto (tgt := 47) E dX12_broken_89 (by decide) ?_
                replace h := Option.some.inj h
                subst h
                exact hx
              refine v_if_ne (tgt := 86) E dX12_broken_59 (by decide) (fun c24 => ?_) (fun c24 => ?_)
              · rw [if_neg c24] at h
                exact hK18 () h
              · rw [if_pos c24] at h
                refine v_aload_n E dX12_broken_62 rfl ?_
                refine v_iload_n E dX12_broken_63 rfl ?_
                refine v_iload_n E dX12_broken_64 rfl ?_
                replace h := bnd_e h
                obtain ⟨r19, er19, h⟩ := h
                refine v_callV (na := 2) (As := [vI a1, vI s10]) (rest := []) (ci := 12) (q := (RX12, TX12, 20)) E gw12_129 (by decide +kernel) rfl rfl (by decide) (kX12_betweenSet l er19).2 (kX12_betweenSet l er19).1 rfl rfl dX12_broken_65 ⟨Nat.le_of_ble_eq_true rfl, Nat.le_of_ble_eq_true rfl⟩ ⟨(Nat.le_of_ble_eq_true rfl), (Nat.le_of_ble_eq_true rfl)⟩ (Nat.le_of_ble_eq_true rfl) ?_
                refine v_aload_n E dX12_broken_68 rfl ?_
                refine v_iload_n E dX12_broken_69 rfl ?_
                refine v_iload_n E dX12_broken_70 rfl ?_
                replace h := bnd_e h
                obtain ⟨r20, er20, h⟩ := h
                refine v_callV (na := 2) (As := [vI a1, vI s14]) (rest := [vI r19]) (ci := 12) (q := (RX12, TX12, 20)) E gw12_129 (by decide +kernel) rfl rfl (by decide) (kX12_betweenSet l er20).2 (kX12_betweenSet l er20).1 rfl rfl dX12_broken_71 ⟨Nat.le_of_ble_eq_true rfl, Nat.le_of_ble_eq_true rfl⟩ ⟨(Nat.le_of_ble_eq_true rfl), (Nat.le_of_ble_eq_true rfl)⟩ (Nat.le_of_ble_eq_true rfl) ?_
                refine v_iand E dX12_broken_74 ?_
                replace h := bnd_e h
                obtain ⟨r21, er21, h⟩ := h
                refine v_callS (na := 1) (As := [vI (r19 &&& r20)]) (rest := []) E gw12_132 (by decide +kernel) (kX12_ones l er21) rfl rfl dX12_broken_75 ⟨Nat.le_of_ble_eq_true rfl, Nat.le_of_ble_eq_true rfl⟩ ⟨(Nat.le_of_ble_eq_true rfl), (Nat.le_of_ble_eq_true rfl)⟩ (Nat.le_of_ble_eq_true rfl) ?_
                refine v_iconst (v := 2) E dX12_broken_78 (by decide) ?_
                replace h := bnd_e h
                obtain ⟨v22, ev22, h⟩ := h
                refine v_irem E ev22 dX12_broken_79 ?_
                refine v_iconst (v := 1) E dX12_broken_80 (by decide) ?_
                refine v_icmp_ne (tgt := 86) E dX12_broken_81 (by decide) (fun c23 => ?_) (fun c23 => ?_)
                · rw [if_neg c23] at h
                  exact hK18 () h
                · rw [if_pos c23] at h
                  refine v_iconst (v := 2) E dX12_broken_84 (by decide) ?_
                  replace h := Option.some.inj h
                  subst h
                  have hx : _ = r := hx
                  subst hx
                  refine v_widen (k' := 0) (n' := 0) (Nat.le_of_ble_eq_true rfl) (Nat.le_of_ble_eq_true rfl) ?_
                  exact v_iret E dX12_broken_85
          · cases t15 with
            | inl t15 =>
              dsimp only [sm] at h
              refine v_iinc (v := (s10 + 1)) (lv' := [some (vR (some o1)), some (vI a1), some (vI (s10 + 1)), none]) E dX12_broken_92 rfl (by rfl) (by decide) rfl ?_
              refine v_goto (tgt := 36) E dX12_broken_95 (by decide) ?_
              replace h := Option.some.inj h
              subst h
              exact hx
            | inr z =>
              replace h := Option.some.inj h
              subst h
              exact hx
      · cases t11 with
        | inl t11 =>
          dsimp only [sm] at h
          refine v_iconst (v := 0) E dX12_broken_98 (by decide) ?_
          refine v_istore_n (lv' := [some (vR (some o1)), some (vI a1), some (vI 0), none]) E dX12_broken_99 (by decide) rfl ?_
          replace h := bnd_e h
          obtain ⟨t30, et30, h⟩ := h
          refine iter_V (S := Int32) (T := (Unit) ⊕ (Int32)) (Ph := fun s29 => V p l e { frames := 5, cells := 0, slots := 0, locals := 123 } s m ar below meth c (MQ below (Qd base D cy (some (vI r)) A0) ar s 0 0 (fun q => base ≤ q)) base D cy 4 100 [some (vR (some o1)), some (vI a1), some (vI s29), none] [] A0 0 0) (Pt := itM (fun t30 => V p l e { frames := 5, cells := 0, slots := 0, locals := 123 } s m ar below meth c (MQ below (Qd base D cy (some (vI r)) A0) ar s 0 0 (fun q => base ≤ q)) base D cy 4 128 [none, none, none, none] [] A0 0 0) (fun z => z = r)) et30 (fun s29 w31 h hx => ?_) ?_
          · try dsimp only at h
            refine v_iload_n E dX12_broken_100 rfl ?_
            refine v_iconst (v := 1) E dX12_broken_101 (by decide) ?_
            refine v_aload_n E dX12_broken_102 rfl ?_
            refine v_iload_n E dX12_broken_103 rfl ?_
            replace h := bnd_e h
            obtain ⟨r32, er32, h⟩ := h
            refine v_callV (na := 1) (As := [vI a1]) (rest := [vI 1, vI s29]) (ci := 12) (q := (RX12, TX12, 20)) E gw12_59 (by decide +kernel) rfl rfl (by decide) (kX12_size l er32).2 (kX12_size l er32).1 rfl rfl dX12_broken_104 ⟨Nat.le_of_ble_eq_true rfl, Nat.le_of_ble_eq_true rfl⟩ ⟨(Nat.le_of_ble_eq_true rfl), (Nat.le_of_ble_eq_true rfl)⟩ (Nat.le_of_ble_eq_true rfl) ?_
            refine v_ishl E dX12_broken_107 ?_
            refine v_icmp_ge (tgt := 128) E dX12_broken_108 (by decide) (fun c35 => ?_) (fun c35 => ?_)
            · rw [if_pos c35] at h
              refine v_drop (lv' := [none, none, none, none]) [0, 1, 2] rfl ?_
              replace h := Option.some.inj h
              subst h
              exact hx
            · rw [if_neg c35] at h
              refine v_aload_n E dX12_broken_111 rfl ?_
              refine v_iload_n E dX12_broken_112 rfl ?_
              refine v_iload_n E dX12_broken_113 rfl ?_
              replace h := bnd_e h
              obtain ⟨r33, er33, h⟩ := h
              refine v_callV (na := 2) (As := [vI a1, vI s29]) (rest := []) (ci := 12) (q := (RX12, TX12, 20)) E gw12_135 (by decide +kernel) rfl rfl (by decide) (kX12_areSides l er33).2 (kX12_areSides l er33).1 rfl rfl dX12_broken_114 ⟨Nat.le_of_ble_eq_true rfl, Nat.le_of_ble_eq_true rfl⟩ ⟨(Nat.le_of_ble_eq_true rfl), (Nat.le_of_ble_eq_true rfl)⟩ (Nat.le_of_ble_eq_true rfl) ?_
              refine v_if_eq (tgt := 122) E dX12_broken_117 (by decide) (fun c34 => ?_) (fun c34 => ?_)
              · rw [if_pos c34] at h
                refine v_iinc (v := (s29 + 1)) (lv' := [some (vR (some o1)), some (vI a1), some (vI (s29 + 1)), none]) E dX12_broken_122 rfl (by rfl) (by decide) rfl ?_
                refine v_goto (tgt := 100) E dX12_broken_125 (by decide) ?_
                replace h := Option.some.inj h
                subst h
                exact hx
              · rw [if_neg c34] at h
                refine v_iconst (v := 0) E dX12_broken_120 (by decide) ?_
                replace h := Option.some.inj h
                subst h
                have hx : _ = r := hx
                subst hx
                refine v_widen (k' := 0) (n' := 0) (Nat.le_of_ble_eq_true rfl) (Nat.le_of_ble_eq_true rfl) ?_
                exact v_iret E dX12_broken_121
          · cases t30 with
            | inl t30 =>
              dsimp only [sm] at h
              refine v_iconst (v := 3) E dX12_broken_128 (by decide) ?_
              replace h := Option.some.inj h
              subst h
              refine v_widen (k' := 0) (n' := 0) (Nat.le_of_ble_eq_true rfl) (Nat.le_of_ble_eq_true rfl) ?_
              exact v_iret E dX12_broken_129
            | inr z =>
              exact Option.some.inj h
        | inr z =>
          exact Option.some.inj h
    | inr z =>
      exact Option.some.inj h
noncomputable def fX12_leavesAs (A0 : AH) (o0 : Option Nat) (a1 : Int32) (a2 : Int32) : Option (Int32) :=
  (rcv A0 13 o0).bind fun o0 =>
  (fX12_letterAt A0 ((some o0)) a1 a2).bind fun r1 =>
  (fX12_place A0 ((some o0)) a1 r1 0).bind fun r2 =>
  if r2 = a2 then
    some 0
  else
    (gI A0 13 399 ((some o0))).bind fun v3 =>
    (fX12_has A0 v3 r1).bind fun r4 =>
    if r4 = 0 then
      some 1
    else
      some 3
set_option maxRecDepth 100000 in
set_option maxHeartbeats 4000000 in
theorem kX12_leavesAs (l : Launch) {A0 : AH} {o0 : Option Nat} {a1 : Int32} {a2 : Int32} {r : Int32} (h : fX12_leavesAs A0 o0 a1 a2 = some r) : (∃ a, o0 = some a ∧ Hk A0 a = 13) ∧ Cn l yX12_leavesAs cX12_leavesAs 4 (some .int) 2 48 0 0 [vR o0, vI a1, vI a2] A0 (some (vI r)) A0 := by
  unfold fX12_leavesAs at h
  replace h := bnd_e h
  obtain ⟨o1, e1, h⟩ := h
  obtain ⟨rfl, hk0⟩ := rcv_e e1
  refine ⟨⟨o1, rfl, hk0⟩, ?_⟩
  refine Cn.of (pad := 1) (lv0 := [some (vR (some o1)), some (vI a1), some (vI a2), none]) (by decide +kernel) (Nat.le_of_ble_eq_true rfl) rfl ?_
  intro p e s m below meth c base D cy E
  generalize (List.map toV [vR (some o1), vI a1, vI a2]).toArray = ar at E ⊢
  have E : EN p s m ar meth c D cy RX12 cX12_leavesAs 4 (some .int) "leavesAs" := E
  refine v_aload_n E dX12_leavesAs_0 rfl ?_
  refine v_iload_n E dX12_leavesAs_1 rfl ?_
  refine v_iload_n E dX12_leavesAs_2 rfl ?_
  replace h := bnd_e h
  obtain ⟨r1, er1, h⟩ := h
  refine v_callV (na := 2) (As := [vI a1, vI a2]) (rest := []) (ci := 12) (q := (RX12, TX12, 20)) E gw12_63 (by decide +kernel) rfl rfl (by decide) (kX12_letterAt l er1).2 (kX12_letterAt l er1).1 rfl rfl dX12_leavesAs_3 ⟨Nat.le_of_ble_eq_true rfl, Nat.le_of_ble_eq_true rfl⟩ ⟨(Nat.le_of_ble_eq_true rfl), (Nat.le_of_ble_eq_true rfl)⟩ (Nat.le_of_ble_eq_true rfl) ?_
  refine v_istore_n (lv' := [some (vR (some o1)), some (vI a1), some (vI a2), some (vI r1)]) E dX12_leavesAs_6 (by decide) rfl ?_
  refine v_aload_n E dX12_leavesAs_7 rfl ?_
  refine v_iload_n E dX12_leavesAs_8 rfl ?_
  refine v_iload_n E dX12_leavesAs_9 rfl ?_
  refine v_iconst (v := 0) E dX12_leavesAs_10 (by decide) ?_
  replace h := bnd_e h
  obtain ⟨r2, er2, h⟩ := h
  refine v_callV (na := 3) (As := [vI a1, vI r1, vI 0]) (rest := []) (ci := 12) (q := (RX12, TX12, 20)) E gw12_104 (by decide +kernel) rfl rfl (by decide) (kX12_place l er2).2 (kX12_place l er2).1 rfl rfl dX12_leavesAs_11 ⟨Nat.le_of_ble_eq_true rfl, Nat.le_of_ble_eq_true rfl⟩ ⟨(Nat.le_of_ble_eq_true rfl), (Nat.le_of_ble_eq_true rfl)⟩ (Nat.le_of_ble_eq_true rfl) ?_
  refine v_iload_n E dX12_leavesAs_14 rfl ?_
  refine v_icmp_ne (tgt := 22) E dX12_leavesAs_15 (by decide) (fun c6 => ?_) (fun c6 => ?_)
  · rw [if_neg c6] at h
    refine v_aload_n E dX12_leavesAs_22 rfl ?_
    replace h := bnd_e h
    obtain ⟨v3, ev3, h⟩ := h
    refine g12_138 E ev3 dX12_leavesAs_23 ?_
    refine v_iload_n E dX12_leavesAs_26 rfl ?_
    replace h := bnd_e h
    obtain ⟨r4, er4, h⟩ := h
    refine v_callS (na := 2) (As := [vI v3, vI r1]) (rest := []) E gw12_125 (by decide +kernel) (kX12_has l er4) rfl rfl dX12_leavesAs_27 ⟨Nat.le_of_ble_eq_true rfl, Nat.le_of_ble_eq_true rfl⟩ ⟨(Nat.le_of_ble_eq_true rfl), (Nat.le_of_ble_eq_true rfl)⟩ (Nat.le_of_ble_eq_true rfl) ?_
    refine v_if_eq (tgt := 37) E dX12_leavesAs_30 (by decide) (fun c5 => ?_) (fun c5 => ?_)
    · rw [if_pos c5] at h
      refine v_iconst (v := 1) E dX12_leavesAs_37 (by decide) ?_
      replace h := Option.some.inj h
      subst h
      refine v_widen (k' := 0) (n' := 0) (Nat.le_of_ble_eq_true rfl) (Nat.le_of_ble_eq_true rfl) ?_
      exact v_iret E dX12_leavesAs_38
    · rw [if_neg c5] at h
      refine v_iconst (v := 3) E dX12_leavesAs_33 (by decide) ?_
      refine v_goto (tgt := 38) E dX12_leavesAs_34 (by decide) ?_
      replace h := Option.some.inj h
      subst h
      refine v_widen (k' := 0) (n' := 0) (Nat.le_of_ble_eq_true rfl) (Nat.le_of_ble_eq_true rfl) ?_
      exact v_iret E dX12_leavesAs_38
  · rw [if_pos c6] at h
    refine v_iconst (v := 0) E dX12_leavesAs_18 (by decide) ?_
    refine v_goto (tgt := 38) E dX12_leavesAs_19 (by decide) ?_
    replace h := Option.some.inj h
    subst h
    refine v_widen (k' := 0) (n' := 0) (Nat.le_of_ble_eq_true rfl) (Nat.le_of_ble_eq_true rfl) ?_
    exact v_iret E dX12_leavesAs_38
noncomputable def fX12_comesAs (A0 : AH) (o0 : Option Nat) (a1 : Int32) (a2 : Int32) : Option (Int32) :=
  (rcv A0 13 o0).bind fun o0 =>
  (fX12_size A0 ((some o0)) a1).bind fun r1 =>
  (rmI ((a2 + 1)) ((2 * r1))).bind fun v2 =>
  (fX12_letterAt A0 ((some o0)) a1 v2).bind fun r3 =>
  (fX12_place A0 ((some o0)) a1 r3 0).bind fun r4 =>
  if r4 = v2 then
    some 2
  else
    (gI A0 13 399 ((some o0))).bind fun v5 =>
    (fX12_has A0 v5 r3).bind fun r6 =>
    if r6 = 0 then
      some 3
    else
      some 1
set_option maxRecDepth 100000 in
set_option maxHeartbeats 4000000 in
theorem kX12_comesAs (l : Launch) {A0 : AH} {o0 : Option Nat} {a1 : Int32} {a2 : Int32} {r : Int32} (h : fX12_comesAs A0 o0 a1 a2 = some r) : (∃ a, o0 = some a ∧ Hk A0 a = 13) ∧ Cn l yX12_comesAs cX12_comesAs 5 (some .int) 2 48 0 0 [vR o0, vI a1, vI a2] A0 (some (vI r)) A0 := by
  unfold fX12_comesAs at h
  replace h := bnd_e h
  obtain ⟨o1, e1, h⟩ := h
  obtain ⟨rfl, hk0⟩ := rcv_e e1
  refine ⟨⟨o1, rfl, hk0⟩, ?_⟩
  refine Cn.of (pad := 2) (lv0 := [some (vR (some o1)), some (vI a1), some (vI a2), none, none]) (by decide +kernel) (Nat.le_of_ble_eq_true rfl) rfl ?_
  intro p e s m below meth c base D cy E
  generalize (List.map toV [vR (some o1), vI a1, vI a2]).toArray = ar at E ⊢
  have E : EN p s m ar meth c D cy RX12 cX12_comesAs 5 (some .int) "comesAs" := E
  refine v_iload_n E dX12_comesAs_0 rfl ?_
  refine v_iconst (v := 1) E dX12_comesAs_1 (by decide) ?_
  refine v_iadd E dX12_comesAs_2 ?_
  refine v_iconst (v := 2) E dX12_comesAs_3 (by decide) ?_
  refine v_aload_n E dX12_comesAs_4 rfl ?_
  refine v_iload_n E dX12_comesAs_5 rfl ?_
  replace h := bnd_e h
  obtain ⟨r1, er1, h⟩ := h
  refine v_callV (na := 1) (As := [vI a1]) (rest := [vI 2, vI (a2 + 1)]) (ci := 12) (q := (RX12, TX12, 20)) E gw12_59 (by decide +kernel) rfl rfl (by decide) (kX12_size l er1).2 (kX12_size l er1).1 rfl rfl dX12_comesAs_6 ⟨Nat.le_of_ble_eq_true rfl, Nat.le_of_ble_eq_true rfl⟩ ⟨(Nat.le_of_ble_eq_true rfl), (Nat.le_of_ble_eq_true rfl)⟩ (Nat.le_of_ble_eq_true rfl) ?_
  refine v_imul E dX12_comesAs_9 ?_
  replace h := bnd_e h
  obtain ⟨v2, ev2, h⟩ := h
  refine v_irem E ev2 dX12_comesAs_10 ?_
  refine v_istore_n (lv' := [some (vR (some o1)), some (vI a1), some (vI a2), some (vI v2), none]) E dX12_comesAs_11 (by decide) rfl ?_
  refine v_aload_n E dX12_comesAs_12 rfl ?_
  refine v_iload_n E dX12_comesAs_13 rfl ?_
  refine v_iload_n E dX12_comesAs_14 rfl ?_
  replace h := bnd_e h
  obtain ⟨r3, er3, h⟩ := h
  refine v_callV (na := 2) (As := [vI a1, vI v2]) (rest := []) (ci := 12) (q := (RX12, TX12, 20)) E gw12_63 (by decide +kernel) rfl rfl (by decide) (kX12_letterAt l er3).2 (kX12_letterAt l er3).1 rfl rfl dX12_comesAs_15 ⟨Nat.le_of_ble_eq_true rfl, Nat.le_of_ble_eq_true rfl⟩ ⟨(Nat.le_of_ble_eq_true rfl), (Nat.le_of_ble_eq_true rfl)⟩ (Nat.le_of_ble_eq_true rfl) ?_
  refine v_istore (lv' := [some (vR (some o1)), some (vI a1), some (vI a2), some (vI v2), some (vI r3)]) E dX12_comesAs_18 (by decide) rfl ?_
  refine v_aload_n E dX12_comesAs_20 rfl ?_
  refine v_iload_n E dX12_comesAs_21 rfl ?_
  refine v_iload E dX12_comesAs_22 rfl ?_
  refine v_iconst (v := 0) E dX12_comesAs_24 (by decide) ?_
  replace h := bnd_e h
  obtain ⟨r4, er4, h⟩ := h
  refine v_callV (na := 3) (As := [vI a1, vI r3, vI 0]) (rest := []) (ci := 12) (q := (RX12, TX12, 20)) E gw12_104 (by decide +kernel) rfl rfl (by decide) (kX12_place l er4).2 (kX12_place l er4).1 rfl rfl dX12_comesAs_25 ⟨Nat.le_of_ble_eq_true rfl, Nat.le_of_ble_eq_true rfl⟩ ⟨(Nat.le_of_ble_eq_true rfl), (Nat.le_of_ble_eq_true rfl)⟩ (Nat.le_of_ble_eq_true rfl) ?_
  refine v_iload_n E dX12_comesAs_28 rfl ?_
  refine v_icmp_ne (tgt := 36) E dX12_comesAs_29 (by decide) (fun c8 => ?_) (fun c8 => ?_)
  · rw [if_neg c8] at h
    refine v_aload_n E dX12_comesAs_36 rfl ?_
    replace h := bnd_e h
    obtain ⟨v5, ev5, h⟩ := h
    refine g12_138 E ev5 dX12_comesAs_37 ?_
    refine v_iload E dX12_comesAs_40 rfl ?_
    replace h := bnd_e h
    obtain ⟨r6, er6, h⟩ := h
    refine v_callS (na := 2) (As := [vI v5, vI r3]) (rest := []) E gw12_125 (by decide +kernel) (kX12_has l er6) rfl rfl dX12_comesAs_42 ⟨Nat.le_of_ble_eq_true rfl, Nat.le_of_ble_eq_true rfl⟩ ⟨(Nat.le_of_ble_eq_true rfl), (Nat.le_of_ble_eq_true rfl)⟩ (Nat.le_of_ble_eq_true rfl) ?_
    refine v_if_eq (tgt := 52) E dX12_comesAs_45 (by decide) (fun c7 => ?_) (fun c7 => ?_)
    · rw [if_pos c7] at h
      refine v_iconst (v := 3) E dX12_comesAs_52 (by decide) ?_
      replace h := Option.some.inj h
      subst h
      refine v_widen (k' := 0) (n' := 0) (Nat.le_of_ble_eq_true rfl) (Nat.le_of_ble_eq_true rfl) ?_
      exact v_iret E dX12_comesAs_53
    · rw [if_neg c7] at h
      refine v_iconst (v := 1) E dX12_comesAs_48 (by decide) ?_
      refine v_goto (tgt := 53) E dX12_comesAs_49 (by decide) ?_
      replace h := Option.some.inj h
      subst h
      refine v_widen (k' := 0) (n' := 0) (Nat.le_of_ble_eq_true rfl) (Nat.le_of_ble_eq_true rfl) ?_
      exact v_iret E dX12_comesAs_53
  · rw [if_pos c8] at h
    refine v_iconst (v := 2) E dX12_comesAs_32 (by decide) ?_
    refine v_goto (tgt := 53) E dX12_comesAs_33 (by decide) ?_
    replace h := Option.some.inj h
    subst h
    refine v_widen (k' := 0) (n' := 0) (Nat.le_of_ble_eq_true rfl) (Nat.le_of_ble_eq_true rfl) ?_
    exact v_iret E dX12_comesAs_53
noncomputable def fX12_leftCorner (A0 : AH) (o0 : Option Nat) (a1 : Int32) (a2 : Int32) : Option (Int32) :=
  (rcv A0 13 o0).bind fun o0 =>
  (fX12_letterAt A0 ((some o0)) a1 a2).bind fun r1 =>
  (fX12_leavesAs A0 ((some o0)) a1 a2).bind fun r2 =>
  some (((4 * r1) + r2))
set_option maxRecDepth 100000 in
set_option maxHeartbeats 4000000 in
theorem kX12_leftCorner (l : Launch) {A0 : AH} {o0 : Option Nat} {a1 : Int32} {a2 : Int32} {r : Int32} (h : fX12_leftCorner A0 o0 a1 a2 = some r) : (∃ a, o0 = some a ∧ Hk A0 a = 13) ∧ Cn l yX12_leftCorner cX12_leftCorner 3 (some .int) 3 71 0 0 [vR o0, vI a1, vI a2] A0 (some (vI r)) A0 := by
  unfold fX12_leftCorner at h
  replace h := bnd_e h
  obtain ⟨o1, e1, h⟩ := h
  obtain ⟨rfl, hk0⟩ := rcv_e e1
  refine ⟨⟨o1, rfl, hk0⟩, ?_⟩
  refine Cn.of (pad := 0) (lv0 := [some (vR (some o1)), some (vI a1), some (vI a2)]) (by decide +kernel) (Nat.le_of_ble_eq_true rfl) rfl ?_
  intro p e s m below meth c base D cy E
  generalize (List.map toV [vR (some o1), vI a1, vI a2]).toArray = ar at E ⊢
  have E : EN p s m ar meth c D cy RX12 cX12_leftCorner 3 (some .int) "leftCorner" := E
  refine v_iconst (v := 4) E dX12_leftCorner_0 (by decide) ?_
  refine v_aload_n E dX12_leftCorner_1 rfl ?_
  refine v_iload_n E dX12_leftCorner_2 rfl ?_
  refine v_iload_n E dX12_leftCorner_3 rfl ?_
  replace h := bnd_e h
  obtain ⟨r1, er1, h⟩ := h
  refine v_callV (na := 2) (As := [vI a1, vI a2]) (rest := [vI 4]) (ci := 12) (q := (RX12, TX12, 20)) E gw12_63 (by decide +kernel) rfl rfl (by decide) (kX12_letterAt l er1).2 (kX12_letterAt l er1).1 rfl rfl dX12_leftCorner_4 ⟨Nat.le_of_ble_eq_true rfl, Nat.le_of_ble_eq_true rfl⟩ ⟨(Nat.le_of_ble_eq_true rfl), (Nat.le_of_ble_eq_true rfl)⟩ (Nat.le_of_ble_eq_true rfl) ?_
  refine v_imul E dX12_leftCorner_7 ?_
  refine v_aload_n E dX12_leftCorner_8 rfl ?_
  refine v_iload_n E dX12_leftCorner_9 rfl ?_
  refine v_iload_n E dX12_leftCorner_10 rfl ?_
  replace h := bnd_e h
  obtain ⟨r2, er2, h⟩ := h
  refine v_callV (na := 2) (As := [vI a1, vI a2]) (rest := [vI (4 * r1)]) (ci := 12) (q := (RX12, TX12, 20)) E gw12_141 (by decide +kernel) rfl rfl (by decide) (kX12_leavesAs l er2).2 (kX12_leavesAs l er2).1 rfl rfl dX12_leftCorner_11 ⟨Nat.le_of_ble_eq_true rfl, Nat.le_of_ble_eq_true rfl⟩ ⟨(Nat.le_of_ble_eq_true rfl), (Nat.le_of_ble_eq_true rfl)⟩ (Nat.le_of_ble_eq_true rfl) ?_
  refine v_iadd E dX12_leftCorner_14 ?_
  replace h := Option.some.inj h
  subst h
  refine v_widen (k' := 0) (n' := 0) (Nat.le_of_ble_eq_true rfl) (Nat.le_of_ble_eq_true rfl) ?_
  exact v_iret E dX12_leftCorner_15
noncomputable def fX12_rightCorner (A0 : AH) (o0 : Option Nat) (a1 : Int32) (a2 : Int32) : Option (Int32) :=
  (rcv A0 13 o0).bind fun o0 =>
  (fX12_letterAt A0 ((some o0)) a1 a2).bind fun r1 =>
  (fX12_leavesAs A0 ((some o0)) a1 a2).bind fun r2 =>
  (rmI ((r2 + 3)) 4).bind fun v3 =>
  some (((4 * r1) + v3))
set_option maxRecDepth 100000 in
set_option maxHeartbeats 4000000 in
theorem kX12_rightCorner (l : Launch) {A0 : AH} {o0 : Option Nat} {a1 : Int32} {a2 : Int32} {r : Int32} (h : fX12_rightCorner A0 o0 a1 a2 = some r) : (∃ a, o0 = some a ∧ Hk A0 a = 13) ∧ Cn l yX12_rightCorner cX12_rightCorner 3 (some .int) 3 71 0 0 [vR o0, vI a1, vI a2] A0 (some (vI r)) A0 := by
  unfold fX12_rightCorner at h
  replace h := bnd_e h
  obtain ⟨o1, e1, h⟩ := h
  obtain ⟨rfl, hk0⟩ := rcv_e e1
  refine ⟨⟨o1, rfl, hk0⟩, ?_⟩
  refine Cn.of (pad := 0) (lv0 := [some (vR (some o1)), some (vI a1), some (vI a2)]) (by decide +kernel) (Nat.le_of_ble_eq_true rfl) rfl ?_
  intro p e s m below meth c base D cy E
  generalize (List.map toV [vR (some o1), vI a1, vI a2]).toArray = ar at E ⊢
  have E : EN p s m ar meth c D cy RX12 cX12_rightCorner 3 (some .int) "rightCorner" := E
  refine v_iconst (v := 4) E dX12_rightCorner_0 (by decide) ?_
  refine v_aload_n E dX12_rightCorner_1 rfl ?_
  refine v_iload_n E dX12_rightCorner_2 rfl ?_
  refine v_iload_n E dX12_rightCorner_3 rfl ?_
  replace h := bnd_e h
  obtain ⟨r1, er1, h⟩ := h
  refine v_callV (na := 2) (As := [vI a1, vI a2]) (rest := [vI 4]) (ci := 12) (q := (RX12, TX12, 20)) E gw12_63 (by decide +kernel) rfl rfl (by decide) (kX12_letterAt l er1).2 (kX12_letterAt l er1).1 rfl rfl dX12_rightCorner_4 ⟨Nat.le_of_ble_eq_true rfl, Nat.le_of_ble_eq_true rfl⟩ ⟨(Nat.le_of_ble_eq_true rfl), (Nat.le_of_ble_eq_true rfl)⟩ (Nat.le_of_ble_eq_true rfl) ?_
  refine v_imul E dX12_rightCorner_7 ?_
  refine v_aload_n E dX12_rightCorner_8 rfl ?_
  refine v_iload_n E dX12_rightCorner_9 rfl ?_
  refine v_iload_n E dX12_rightCorner_10 rfl ?_
  replace h := bnd_e h
  obtain ⟨r2, er2, h⟩ := h
  refine v_callV (na := 2) (As := [vI a1, vI a2]) (rest := [vI (4 * r1)]) (ci := 12) (q := (RX12, TX12, 20)) E gw12_141 (by decide +kernel) rfl rfl (by decide) (kX12_leavesAs l er2).2 (kX12_leavesAs l er2).1 rfl rfl dX12_rightCorner_11 ⟨Nat.le_of_ble_eq_true rfl, Nat.le_of_ble_eq_true rfl⟩ ⟨(Nat.le_of_ble_eq_true rfl), (Nat.le_of_ble_eq_true rfl)⟩ (Nat.le_of_ble_eq_true rfl) ?_
  refine v_iconst (v := 3) E dX12_rightCorner_14 (by decide) ?_
  refine v_iadd E dX12_rightCorner_15 ?_
  refine v_iconst (v := 4) E dX12_rightCorner_16 (by decide) ?_
  replace h := bnd_e h
  obtain ⟨v3, ev3, h⟩ := h
  refine v_irem E ev3 dX12_rightCorner_17 ?_
  refine v_iadd E dX12_rightCorner_18 ?_
  replace h := Option.some.inj h
  subst h
  refine v_widen (k' := 0) (n' := 0) (Nat.le_of_ble_eq_true rfl) (Nat.le_of_ble_eq_true rfl) ?_
  exact v_iret E dX12_rightCorner_19
noncomputable def fX12_leftFar (A0 : AH) (o0 : Option Nat) (a1 : Int32) (a2 : Int32) : Option (Int32) :=
  (rcv A0 13 o0).bind fun o0 =>
  (fX12_size A0 ((some o0)) a1).bind fun r1 =>
  (rmI ((a2 + 1)) ((2 * r1))).bind fun v2 =>
  (fX12_letterAt A0 ((some o0)) a1 v2).bind fun r3 =>
  (fX12_comesAs A0 ((some o0)) a1 a2).bind fun r4 =>
  (rmI ((r4 + 3)) 4).bind fun v5 =>
  some (((4 * r3) + v5))
set_option maxRecDepth 100000 in
set_option maxHeartbeats 4000000 in
theorem kX12_leftFar (l : Launch) {A0 : AH} {o0 : Option Nat} {a1 : Int32} {a2 : Int32} {r : Int32} (h : fX12_leftFar A0 o0 a1 a2 = some r) : (∃ a, o0 = some a ∧ Hk A0 a = 13) ∧ Cn l yX12_leftFar cX12_leftFar 3 (some .int) 3 72 0 0 [vR o0, vI a1, vI a2] A0 (some (vI r)) A0 := by
  unfold fX12_leftFar at h
  replace h := bnd_e h
  obtain ⟨o1, e1, h⟩ := h
  obtain ⟨rfl, hk0⟩ := rcv_e e1
  refine ⟨⟨o1, rfl, hk0⟩, ?_⟩
  refine Cn.of (pad := 0) (lv0 := [some (vR (some o1)), some (vI a1), some (vI a2)]) (by decide +kernel) (Nat.le_of_ble_eq_true rfl) rfl ?_
  intro p e s m below meth c base D cy E
  generalize (List.map toV [vR (some o1), vI a1, vI a2]).toArray = ar at E ⊢
  have E : EN p s m ar meth c D cy RX12 cX12_leftFar 3 (some .int) "leftFar" := E
  refine v_iconst (v := 4) E dX12_leftFar_0 (by decide) ?_
  refine v_aload_n E dX12_leftFar_1 rfl ?_
  refine v_iload_n E dX12_leftFar_2 rfl ?_
  refine v_iload_n E dX12_leftFar_3 rfl ?_
  refine v_iconst (v := 1) E dX12_leftFar_4 (by decide) ?_
  refine v_iadd E dX12_leftFar_5 ?_
  refine v_iconst (v := 2) E dX12_leftFar_6 (by decide) ?_
  refine v_aload_n E dX12_leftFar_7 rfl ?_
  refine v_iload_n E dX12_leftFar_8 rfl ?_
  replace h := bnd_e h
  obtain ⟨r1, er1, h⟩ := h
  refine v_callV (na := 1) (As := [vI a1]) (rest := [vI 2, vI (a2 + 1), vI a1, vR (some o1), vI 4]) (ci := 12) (q := (RX12, TX12, 20)) E gw12_59 (by decide +kernel) rfl rfl (by decide) (kX12_size l er1).2 (kX12_size l er1).1 rfl rfl dX12_leftFar_9 ⟨Nat.le_of_ble_eq_true rfl, Nat.le_of_ble_eq_true rfl⟩ ⟨(Nat.le_of_ble_eq_true rfl), (Nat.le_of_ble_eq_true rfl)⟩ (Nat.le_of_ble_eq_true rfl) ?_
  refine v_imul E dX12_leftFar_12 ?_
  replace h := bnd_e h
  obtain ⟨v2, ev2, h⟩ := h
  refine v_irem E ev2 dX12_leftFar_13 ?_
  replace h := bnd_e h
  obtain ⟨r3, er3, h⟩ := h
  refine v_callV (na := 2) (As := [vI a1, vI v2]) (rest := [vI 4]) (ci := 12) (q := (RX12, TX12, 20)) E gw12_63 (by decide +kernel) rfl rfl (by decide) (kX12_letterAt l er3).2 (kX12_letterAt l er3).1 rfl rfl dX12_leftFar_14 ⟨Nat.le_of_ble_eq_true rfl, Nat.le_of_ble_eq_true rfl⟩ ⟨(Nat.le_of_ble_eq_true rfl), (Nat.le_of_ble_eq_true rfl)⟩ (Nat.le_of_ble_eq_true rfl) ?_
  refine v_imul E dX12_leftFar_17 ?_
  refine v_aload_n E dX12_leftFar_18 rfl ?_
  refine v_iload_n E dX12_leftFar_19 rfl ?_
  refine v_iload_n E dX12_leftFar_20 rfl ?_
  replace h := bnd_e h
  obtain ⟨r4, er4, h⟩ := h
  refine v_callV (na := 2) (As := [vI a1, vI a2]) (rest := [vI (4 * r3)]) (ci := 12) (q := (RX12, TX12, 20)) E gw12_144 (by decide +kernel) rfl rfl (by decide) (kX12_comesAs l er4).2 (kX12_comesAs l er4).1 rfl rfl dX12_leftFar_21 ⟨Nat.le_of_ble_eq_true rfl, Nat.le_of_ble_eq_true rfl⟩ ⟨(Nat.le_of_ble_eq_true rfl), (Nat.le_of_ble_eq_true rfl)⟩ (Nat.le_of_ble_eq_true rfl) ?_
  refine v_iconst (v := 3) E dX12_leftFar_24 (by decide) ?_
  refine v_iadd E dX12_leftFar_25 ?_
  refine v_iconst (v := 4) E dX12_leftFar_26 (by decide) ?_
  replace h := bnd_e h
  obtain ⟨v5, ev5, h⟩ := h
  refine v_irem E ev5 dX12_leftFar_27 ?_
  refine v_iadd E dX12_leftFar_28 ?_
  replace h := Option.some.inj h
  subst h
  refine v_widen (k' := 0) (n' := 0) (Nat.le_of_ble_eq_true rfl) (Nat.le_of_ble_eq_true rfl) ?_
  exact v_iret E dX12_leftFar_29
noncomputable def fX12_rightFar (A0 : AH) (o0 : Option Nat) (a1 : Int32) (a2 : Int32) : Option (Int32) :=
  (rcv A0 13 o0).bind fun o0 =>
  (fX12_size A0 ((some o0)) a1).bind fun r1 =>
  (rmI ((a2 + 1)) ((2 * r1))).bind fun v2 =>
  (fX12_letterAt A0 ((some o0)) a1 v2).bind fun r3 =>
  (fX12_comesAs A0 ((some o0)) a1 a2).bind fun r4 =>
  some (((4 * r3) + r4))
set_option maxRecDepth 100000 in
set_option maxHeartbeats 4000000 in
theorem kX12_rightFar (l : Launch) {A0 : AH} {o0 : Option Nat} {a1 : Int32} {a2 : Int32} {r : Int32} (h : fX12_rightFar A0 o0 a1 a2 = some r) : (∃ a, o0 = some a ∧ Hk A0 a = 13) ∧ Cn l yX12_rightFar cX12_rightFar 3 (some .int) 3 72 0 0 [vR o0, vI a1, vI a2] A0 (some (vI r)) A0 := by
  unfold fX12_rightFar at h
  replace h := bnd_e h
  obtain ⟨o1, e1, h⟩ := h
  obtain ⟨rfl, hk0⟩ := rcv_e e1
  refine ⟨⟨o1, rfl, hk0⟩, ?_⟩
  refine Cn.of (pad := 0) (lv0 := [some (vR (some o1)), some (vI a1), some (vI a2)]) (by decide +kernel) (Nat.le_of_ble_eq_true rfl) rfl ?_
  intro p e s m below meth c base D cy E
  generalize (List.map toV [vR (some o1), vI a1, vI a2]).toArray = ar at E ⊢
  have E : EN p s m ar meth c D cy RX12 cX12_rightFar 3 (some .int) "rightFar" := E
  refine v_iconst (v := 4) E dX12_rightFar_0 (by decide) ?_
  refine v_aload_n E dX12_rightFar_1 rfl ?_
  refine v_iload_n E dX12_rightFar_2 rfl ?_
  refine v_iload_n E dX12_rightFar_3 rfl ?_
  refine v_iconst (v := 1) E dX12_rightFar_4 (by decide) ?_
  refine v_iadd E dX12_rightFar_5 ?_
  refine v_iconst (v := 2) E dX12_rightFar_6 (by decide) ?_
  refine v_aload_n E dX12_rightFar_7 rfl ?_
  refine v_iload_n E dX12_rightFar_8 rfl ?_
  replace h := bnd_e h
  obtain ⟨r1, er1, h⟩ := h
  refine v_callV (na := 1) (As := [vI a1]) (rest := [vI 2, vI (a2 + 1), vI a1, vR (some o1), vI 4]) (ci := 12) (q := (RX12, TX12, 20)) E gw12_59 (by decide +kernel) rfl rfl (by decide) (kX12_size l er1).2 (kX12_size l er1).1 rfl rfl dX12_rightFar_9 ⟨Nat.le_of_ble_eq_true rfl, Nat.le_of_ble_eq_true rfl⟩ ⟨(Nat.le_of_ble_eq_true rfl), (Nat.le_of_ble_eq_true rfl)⟩ (Nat.le_of_ble_eq_true rfl) ?_
  refine v_imul E dX12_rightFar_12 ?_
  replace h := bnd_e h
  obtain ⟨v2, ev2, h⟩ := h
  refine v_irem E ev2 dX12_rightFar_13 ?_
  replace h := bnd_e h
  obtain ⟨r3, er3, h⟩ := h
  refine v_callV (na := 2) (As := [vI a1, vI v2]) (rest := [vI 4]) (ci := 12) (q := (RX12, TX12, 20)) E gw12_63 (by decide +kernel) rfl rfl (by decide) (kX12_letterAt l er3).2 (kX12_letterAt l er3).1 rfl rfl dX12_rightFar_14 ⟨Nat.le_of_ble_eq_true rfl, Nat.le_of_ble_eq_true rfl⟩ ⟨(Nat.le_of_ble_eq_true rfl), (Nat.le_of_ble_eq_true rfl)⟩ (Nat.le_of_ble_eq_true rfl) ?_
  refine v_imul E dX12_rightFar_17 ?_
  refine v_aload_n E dX12_rightFar_18 rfl ?_
  refine v_iload_n E dX12_rightFar_19 rfl ?_
  refine v_iload_n E dX12_rightFar_20 rfl ?_
  replace h := bnd_e h
  obtain ⟨r4, er4, h⟩ := h
  refine v_callV (na := 2) (As := [vI a1, vI a2]) (rest := [vI (4 * r3)]) (ci := 12) (q := (RX12, TX12, 20)) E gw12_144 (by decide +kernel) rfl rfl (by decide) (kX12_comesAs l er4).2 (kX12_comesAs l er4).1 rfl rfl dX12_rightFar_21 ⟨Nat.le_of_ble_eq_true rfl, Nat.le_of_ble_eq_true rfl⟩ ⟨(Nat.le_of_ble_eq_true rfl), (Nat.le_of_ble_eq_true rfl)⟩ (Nat.le_of_ble_eq_true rfl) ?_
  refine v_iadd E dX12_rightFar_24 ?_
  replace h := Option.some.inj h
  subst h
  refine v_widen (k' := 0) (n' := 0) (Nat.le_of_ble_eq_true rfl) (Nat.le_of_ble_eq_true rfl) ?_
  exact v_iret E dX12_rightFar_25
noncomputable def fX12_laysFaces (A0 : AH) (o0 : Option Nat) (a1 : Int32) (a2 : Int32) : Option (Int32 × AH) :=
  (rcv A0 13 o0).bind fun o0 =>
  (pI A0 13 399 ((some o0)) a2).bind fun A1 =>
  (fX12_size A1 ((some o0)) a1).bind fun r2 =>
  (fX12_startsLabels A1 ((some o0)) ((4 * r2))).bind fun r3 =>
  (pZ r3 13 398 ((some o0)) 1).bind fun A4 =>
  (iter (S := AH) (T := AH) (fun s5 =>
      (gI s5 13 398 ((some o0))).bind fun v8 =>
      if v8 = 0 then
        some (.inr s5)
      else
        (pZ s5 13 398 ((some o0)) 0).bind fun A9 =>
        (iter (S := Int32 × AH) (T := AH) (fun s10 =>
            (fX12_size s10.2 ((some o0)) a1).bind fun r13 =>
            if (2 * r13) ≤ s10.1 then
              some (.inr s10.2)
            else
              (fX12_leftCorner s10.2 ((some o0)) a1 s10.1).bind fun r14 =>
              (fX12_leftFar s10.2 ((some o0)) a1 s10.1).bind fun r15 =>
              (fX12_joins s10.2 ((some o0)) r14 r15).bind fun r16 =>
              (fX12_rightCorner r16 ((some o0)) a1 s10.1).bind fun r17 =>
              (fX12_rightFar r16 ((some o0)) a1 s10.1).bind fun r18 =>
              (fX12_joins r16 ((some o0)) r17 r18).bind fun r19 =>
              some (.inl ((s10.1 + 1), r19))) (0, A9)).bind fun t11 =>
        some (.inl t11)) A4).bind fun t6 =>
  (fX12_size t6 ((some o0)) a1).bind fun r23 =>
  if r23 = 0 then
    some ((2, t6))
  else
    (fX12_size t6 ((some o0)) a1).bind fun r24 =>
    (fX12_heaps t6 ((some o0)) ((4 * r24))).bind fun r25 =>
    some ((r25, t6))
set_option maxRecDepth 100000 in
set_option maxHeartbeats 4000000 in
theorem kX12_laysFaces (l : Launch) {A0 : AH} {o0 : Option Nat} {a1 : Int32} {a2 : Int32} {r : Int32 × AH} (h : fX12_laysFaces A0 o0 a1 a2 = some r) : (∃ a, o0 = some a ∧ Hk A0 a = 13) ∧ Cn l yX12_laysFaces cX12_laysFaces 4 (some .int) 4 94 0 0 [vR o0, vI a1, vI a2] A0 (some (vI r.1)) r.2 := by
  unfold fX12_laysFaces at h
  replace h := bnd_e h
  obtain ⟨o1, e1, h⟩ := h
  obtain ⟨rfl, hk0⟩ := rcv_e e1
  refine ⟨⟨o1, rfl, hk0⟩, ?_⟩
  refine Cn.of (pad := 1) (lv0 := [some (vR (some o1)), some (vI a1), some (vI a2), none]) (by decide +kernel) (Nat.le_of_ble_eq_true rfl) rfl ?_
  intro p e s m below meth c base D cy E
  generalize (List.map toV [vR (some o1), vI a1, vI a2]).toArray = ar at E ⊢
  have E : EN p s m ar meth c D cy RX12 cX12_laysFaces 4 (some .int) "laysFaces" := E
  refine v_aload_n E dX12_laysFaces_0 rfl ?_
  refine v_iload_n E dX12_laysFaces_1 rfl ?_
  replace h := bnd_e h
  obtain ⟨A1, eA1, h⟩ := h
  refine p12_138 E eA1 dX12_laysFaces_2 ?_
  refine v_aload_n E dX12_laysFaces_5 rfl ?_
  refine v_iconst (v := 4) E dX12_laysFaces_6 (by decide) ?_
  refine v_aload_n E dX12_laysFaces_7 rfl ?_
  refine v_iload_n E dX12_laysFaces_8 rfl ?_
  replace h := bnd_e h
  obtain ⟨r2, er2, h⟩ := h
  refine v_callV (na := 1) (As := [vI a1]) (rest := [vI 4, vR (some o1)]) (ci := 12) (q := (RX12, TX12, 20)) E gw12_59 (by decide +kernel) rfl rfl (by decide) (kX12_size l er2).2 (kX12_size l er2).1 rfl rfl dX12_laysFaces_9 ⟨Nat.le_of_ble_eq_true rfl, Nat.le_of_ble_eq_true rfl⟩ ⟨(Nat.le_of_ble_eq_true rfl), (Nat.le_of_ble_eq_true rfl)⟩ (Nat.le_of_ble_eq_true rfl) ?_
  refine v_imul E dX12_laysFaces_12 ?_
  replace h := bnd_e h
  obtain ⟨r3, er3, h⟩ := h
  refine v_callV (na := 1) (As := [vI (4 * r2)]) (rest := []) (ci := 12) (q := (RX12, TX12, 20)) E gw12_116 (by decide +kernel) rfl rfl (by decide) (kX12_startsLabels l er3).2 (kX12_startsLabels l er3).1 rfl rfl dX12_laysFaces_13 ⟨Nat.le_of_ble_eq_true rfl, Nat.le_of_ble_eq_true rfl⟩ ⟨(Nat.le_of_ble_eq_true rfl), (Nat.le_of_ble_eq_true rfl)⟩ (Nat.le_of_ble_eq_true rfl) ?_
  refine v_aload_n E dX12_laysFaces_16 rfl ?_
  refine v_iconst (v := 1) E dX12_laysFaces_17 (by decide) ?_
  replace h := bnd_e h
  obtain ⟨A4, eA4, h⟩ := h
  refine p12_112 E eA4 dX12_laysFaces_18 ?_
  refine v_drop (lv' := [some (vR (some o1)), some (vI a1), none, none]) [2] rfl ?_
  replace h := bnd_e h
  obtain ⟨t6, et6, h⟩ := h
  refine iter_V (S := AH) (T := AH) (Ph := fun s5 => V p l e { frames := 4, cells := 0, slots := 0, locals := 94 } s m ar below meth c (MQ below (Qd base D cy (some (vI r.1)) r.2) ar s 0 0 (fun q => base ≤ q)) base D cy 4 21 [some (vR (some o1)), some (vI a1), none, none] [] s5 0 0) (Pt := fun t6 => V p l e { frames := 4, cells := 0, slots := 0, locals := 94 } s m ar below meth c (MQ below (Qd base D cy (some (vI r.1)) r.2) ar s 0 0 (fun q => base ≤ q)) base D cy 4 87 [some (vR (some o1)), some (vI a1), none, none] [] t6 0 0) et6 (fun s5 w7 h hx => ?_) ?_
  · try dsimp only at h
    refine v_aload_n E dX12_laysFaces_21 rfl ?_
    replace h := bnd_e h
    obtain ⟨v8, ev8, h⟩ := h
    refine g12_112 E ev8 dX12_laysFaces_22 ?_
    refine v_if_eq (tgt := 87) E dX12_laysFaces_25 (by decide) (fun c22 => ?_) (fun c22 => ?_)
    · rw [if_pos c22] at h
      replace h := Option.some.inj h
      subst h
      exact hx
    · rw [if_neg c22] at h
      refine v_aload_n E dX12_laysFaces_28 rfl ?_
      refine v_iconst (v := 0) E dX12_laysFaces_29 (by decide) ?_
      replace h := bnd_e h
      obtain ⟨A9, eA9, h⟩ := h
      refine p12_112 E eA9 dX12_laysFaces_30 ?_
      refine v_iconst (v := 0) E dX12_laysFaces_33 (by decide) ?_
      refine v_istore_n (lv' := [some (vR (some o1)), some (vI a1), none, some (vI 0)]) E dX12_laysFaces_34 (by decide) rfl ?_
      replace h := bnd_e h
      obtain ⟨t11, et11, h⟩ := h
      refine iter_V (S := Int32 × AH) (T := AH) (Ph := fun s10 => V p l e { frames := 4, cells := 0, slots := 0, locals := 94 } s m ar below meth c (MQ below (Qd base D cy (some (vI r.1)) r.2) ar s 0 0 (fun q => base ≤ q)) base D cy 4 35 [some (vR (some o1)), some (vI a1), none, some (vI s10.1)] [] s10.2 0 0) (Pt := fun t11 => V p l e { frames := 4, cells := 0, slots := 0, locals := 94 } s m ar below meth c (MQ below (Qd base D cy (some (vI r.1)) r.2) ar s 0 0 (fun q => base ≤ q)) base D cy 4 84 [some (vR (some o1)), some (vI a1), none, none] [] t11 0 0) et11 (fun s10 w12 h hx => ?_) ?_
      · try dsimp only at h
        refine v_iload_n E dX12_laysFaces_35 rfl ?_
        refine v_iconst (v := 2) E dX12_laysFaces_36 (by decide) ?_
        refine v_aload_n E dX12_laysFaces_37 rfl ?_
        refine v_iload_n E dX12_laysFaces_38 rfl ?_
        replace h := bnd_e h
        obtain ⟨r13, er13, h⟩ := h
        refine v_callV (na := 1) (As := [vI a1]) (rest := [vI 2, vI s10.1]) (ci := 12) (q := (RX12, TX12, 20)) E gw12_59 (by decide +kernel) rfl rfl (by decide) (kX12_size l er13).2 (kX12_size l er13).1 rfl rfl dX12_laysFaces_39 ⟨Nat.le_of_ble_eq_true rfl, Nat.le_of_ble_eq_true rfl⟩ ⟨(Nat.le_of_ble_eq_true rfl), (Nat.le_of_ble_eq_true rfl)⟩ (Nat.le_of_ble_eq_true rfl) ?_
        refine v_imul E dX12_laysFaces_42 ?_
        refine v_icmp_ge (tgt := 84) E dX12_laysFaces_43 (by decide) (fun c20 => ?_) (fun c20 => ?_)
        · rw [if_pos c20] at h
          refine v_drop (lv' := [some (vR (some o1)), some (vI a1), none, none]) [3] rfl ?_
          replace h := Option.some.inj h
          subst h
          exact hx
        · rw [if_neg c20] at h
          refine v_aload_n E dX12_laysFaces_46 rfl ?_
          refine v_aload_n E dX12_laysFaces_47 rfl ?_
          refine v_iload_n E dX12_laysFaces_48 rfl ?_
          refine v_iload_n E dX12_laysFaces_49 rfl ?_
          replace h := bnd_e h
          obtain ⟨r14, er14, h⟩ := h
          refine v_callV (na := 2) (As := [vI a1, vI s10.1]) (rest := [vR (some o1)]) (ci := 12) (q := (RX12, TX12, 20)) E gw12_147 (by decide +kernel) rfl rfl (by decide) (kX12_leftCorner l er14).2 (kX12_leftCorner l er14).1 rfl rfl dX12_laysFaces_50 ⟨Nat.le_of_ble_eq_true rfl, Nat.le_of_ble_eq_true rfl⟩ ⟨(Nat.le_of_ble_eq_true rfl), (Nat.le_of_ble_eq_true rfl)⟩ (Nat.le_of_ble_eq_true rfl) ?_
          refine v_aload_n E dX12_laysFaces_53 rfl ?_
          refine v_iload_n E dX12_laysFaces_54 rfl ?_
          refine v_iload_n E dX12_laysFaces_55 rfl ?_
          replace h := bnd_e h
          obtain ⟨r15, er15, h⟩ := h
          refine v_callV (na := 2) (As := [vI a1, vI s10.1]) (rest := [vI r14, vR (some o1)]) (ci := 12) (q := (RX12, TX12, 20)) E gw12_150 (by decide +kernel) rfl rfl (by decide) (kX12_leftFar l er15).2 (kX12_leftFar l er15).1 rfl rfl dX12_laysFaces_56 ⟨Nat.le_of_ble_eq_true rfl, Nat.le_of_ble_eq_true rfl⟩ ⟨(Nat.le_of_ble_eq_true rfl), (Nat.le_of_ble_eq_true rfl)⟩ (Nat.le_of_ble_eq_true rfl) ?_
          replace h := bnd_e h
          obtain ⟨r16, er16, h⟩ := h
          refine v_callV (na := 2) (As := [vI r14, vI r15]) (rest := []) (ci := 12) (q := (RX12, TX12, 20)) E gw12_119 (by decide +kernel) rfl rfl (by decide) (kX12_joins l er16).2 (kX12_joins l er16).1 rfl rfl dX12_laysFaces_59 ⟨Nat.le_of_ble_eq_true rfl, Nat.le_of_ble_eq_true rfl⟩ ⟨(Nat.le_of_ble_eq_true rfl), (Nat.le_of_ble_eq_true rfl)⟩ (Nat.le_of_ble_eq_true rfl) ?_
          refine v_aload_n E dX12_laysFaces_62 rfl ?_
          refine v_aload_n E dX12_laysFaces_63 rfl ?_
          refine v_iload_n E dX12_laysFaces_64 rfl ?_
          refine v_iload_n E dX12_laysFaces_65 rfl ?_
          replace h := bnd_e h
          obtain ⟨r17, er17, h⟩ := h
          refine v_callV (na := 2) (As := [vI a1, vI s10.1]) (rest := [vR (some o1)]) (ci := 12) (q := (RX12, TX12, 20)) E gw12_153 (by decide +kernel) rfl rfl (by decide) (kX12_rightCorner l er17).2 (kX12_rightCorner l er17).1 rfl rfl dX12_laysFaces_66 ⟨Nat.le_of_ble_eq_true rfl, Nat.le_of_ble_eq_true rfl⟩ ⟨(Nat.le_of_ble_eq_true rfl), (Nat.le_of_ble_eq_true rfl)⟩ (Nat.le_of_ble_eq_true rfl) ?_
          refine v_aload_n E dX12_laysFaces_69 rfl ?_
          refine v_iload_n E dX12_laysFaces_70 rfl ?_
          refine v_iload_n E dX12_laysFaces_71 rfl ?_
          replace h := bnd_e h
          obtain ⟨r18, er18, h⟩ := h
          refine v_callV (na := 2) (As := [vI a1, vI s10.1]) (rest := [vI r17, vR (some o1)]) (ci := 12) (q := (RX12, TX12, 20)) E gw12_156 (by decide +kernel) rfl rfl (by decide) (kX12_rightFar l er18).2 (kX12_rightFar l er18).1 rfl rfl dX12_laysFaces_72 ⟨Nat.le_of_ble_eq_true rfl, Nat.le_of_ble_eq_true rfl⟩ ⟨(Nat.le_of_ble_eq_true rfl), (Nat.le_of_ble_eq_true rfl)⟩ (Nat.le_of_ble_eq_true rfl) ?_
          replace h := bnd_e h
          obtain ⟨r19, er19, h⟩ := h
          refine v_callV (na := 2) (As := [vI r17, vI r18]) (rest := []) (ci := 12) (q := (RX12, TX12, 20)) E gw12_119 (by decide +kernel) rfl rfl (by decide) (kX12_joins l er19).2 (kX12_joins l er19).1 rfl rfl dX12_laysFaces_75 ⟨Nat.le_of_ble_eq_true rfl, Nat.le_of_ble_eq_true rfl⟩ ⟨(Nat.le_of_ble_eq_true rfl), (Nat.le_of_ble_eq_true rfl)⟩ (Nat.le_of_ble_eq_true rfl) ?_
          refine v_iinc (v := (s10.1 + 1)) (lv' := [some (vR (some o1)), some (vI a1), none, some (vI (s10.1 + 1))]) E dX12_laysFaces_78 rfl (by rfl) (by decide) rfl ?_
          refine v_goto (tgt := 35) E dX12_laysFaces_81 (by decide) ?_
          replace h := Option.some.inj h
          subst h
          exact hx
      · refine v_goto (tgt := 21) E dX12_laysFaces_84 (by decide) ?_
        replace h := Option.some.inj h
        subst h
        exact hx
  · refine v_aload_n E dX12_laysFaces_87 rfl ?_
    refine v_iload_n E dX12_laysFaces_88 rfl ?_
    replace h := bnd_e h
    obtain ⟨r23, er23, h⟩ := h
    refine v_callV (na := 1) (As := [vI a1]) (rest := []) (ci := 12) (q := (RX12, TX12, 20)) E gw12_59 (by decide +kernel) rfl rfl (by decide) (kX12_size l er23).2 (kX12_size l er23).1 rfl rfl dX12_laysFaces_89 ⟨Nat.le_of_ble_eq_true rfl, Nat.le_of_ble_eq_true rfl⟩ ⟨(Nat.le_of_ble_eq_true rfl), (Nat.le_of_ble_eq_true rfl)⟩ (Nat.le_of_ble_eq_true rfl) ?_
    refine v_if_ne (tgt := 99) E dX12_laysFaces_92 (by decide) (fun c26 => ?_) (fun c26 => ?_)
    · rw [if_neg c26] at h
      refine v_aload_n E dX12_laysFaces_99 rfl ?_
      refine v_iconst (v := 4) E dX12_laysFaces_100 (by decide) ?_
      refine v_aload_n E dX12_laysFaces_101 rfl ?_
      refine v_iload_n E dX12_laysFaces_102 rfl ?_
      replace h := bnd_e h
      obtain ⟨r24, er24, h⟩ := h
      refine v_callV (na := 1) (As := [vI a1]) (rest := [vI 4, vR (some o1)]) (ci := 12) (q := (RX12, TX12, 20)) E gw12_59 (by decide +kernel) rfl rfl (by decide) (kX12_size l er24).2 (kX12_size l er24).1 rfl rfl dX12_laysFaces_103 ⟨Nat.le_of_ble_eq_true rfl, Nat.le_of_ble_eq_true rfl⟩ ⟨(Nat.le_of_ble_eq_true rfl), (Nat.le_of_ble_eq_true rfl)⟩ (Nat.le_of_ble_eq_true rfl) ?_
      refine v_imul E dX12_laysFaces_106 ?_
      replace h := bnd_e h
      obtain ⟨r25, er25, h⟩ := h
      refine v_callV (na := 1) (As := [vI (4 * r24)]) (rest := []) (ci := 12) (q := (RX12, TX12, 20)) E gw12_122 (by decide +kernel) rfl rfl (by decide) (kX12_heaps l er25).2 (kX12_heaps l er25).1 rfl rfl dX12_laysFaces_107 ⟨Nat.le_of_ble_eq_true rfl, Nat.le_of_ble_eq_true rfl⟩ ⟨(Nat.le_of_ble_eq_true rfl), (Nat.le_of_ble_eq_true rfl)⟩ (Nat.le_of_ble_eq_true rfl) ?_
      replace h := Option.some.inj h
      subst h
      refine v_widen (k' := 0) (n' := 0) (Nat.le_of_ble_eq_true rfl) (Nat.le_of_ble_eq_true rfl) ?_
      exact v_iret E dX12_laysFaces_110
    · rw [if_pos c26] at h
      refine v_iconst (v := 2) E dX12_laysFaces_95 (by decide) ?_
      refine v_goto (tgt := 110) E dX12_laysFaces_96 (by decide) ?_
      replace h := Option.some.inj h
      subst h
      refine v_widen (k' := 0) (n' := 0) (Nat.le_of_ble_eq_true rfl) (Nat.le_of_ble_eq_true rfl) ?_
      exact v_iret E dX12_laysFaces_110
noncomputable def fX12_isPlane (A0 : AH) (o0 : Option Nat) (a1 : Int32) (a2 : Int32) : Option (Int32 × AH) :=
  (rcv A0 13 o0).bind fun o0 =>
  (fX12_laysFaces A0 ((some o0)) a1 a2).bind fun r1 =>
  (fX12_size r1.2 ((some o0)) a1).bind fun r2 =>
  if r1.1 = (r2 + 2) then
    some ((1, r1.2))
  else
    some ((0, r1.2))
set_option maxRecDepth 100000 in
set_option maxHeartbeats 4000000 in
theorem kX12_isPlane (l : Launch) {A0 : AH} {o0 : Option Nat} {a1 : Int32} {a2 : Int32} {r : Int32 × AH} (h : fX12_isPlane A0 o0 a1 a2 = some r) : (∃ a, o0 = some a ∧ Hk A0 a = 13) ∧ Cn l yX12_isPlane cX12_isPlane 3 (some .boolean) 5 117 0 0 [vR o0, vI a1, vI a2] A0 (some (vI r.1)) r.2 := by
  unfold fX12_isPlane at h
  replace h := bnd_e h
  obtain ⟨o1, e1, h⟩ := h
  obtain ⟨rfl, hk0⟩ := rcv_e e1
  refine ⟨⟨o1, rfl, hk0⟩, ?_⟩
  refine Cn.of (pad := 0) (lv0 := [some (vR (some o1)), some (vI a1), some (vI a2)]) (by decide +kernel) (Nat.le_of_ble_eq_true rfl) rfl ?_
  intro p e s m below meth c base D cy E
  generalize (List.map toV [vR (some o1), vI a1, vI a2]).toArray = ar at E ⊢
  have E : EN p s m ar meth c D cy RX12 cX12_isPlane 3 (some .boolean) "isPlane" := E
  refine v_aload_n E dX12_isPlane_0 rfl ?_
  refine v_iload_n E dX12_isPlane_1 rfl ?_
  refine v_iload_n E dX12_isPlane_2 rfl ?_
  replace h := bnd_e h
  obtain ⟨r1, er1, h⟩ := h
  refine v_callV (na := 2) (As := [vI a1, vI a2]) (rest := []) (ci := 12) (q := (RX12, TX12, 20)) E gw12_159 (by decide +kernel) rfl rfl (by decide) (kX12_laysFaces l er1).2 (kX12_laysFaces l er1).1 rfl rfl dX12_isPlane_3 ⟨Nat.le_of_ble_eq_true rfl, Nat.le_of_ble_eq_true rfl⟩ ⟨(Nat.le_of_ble_eq_true rfl), (Nat.le_of_ble_eq_true rfl)⟩ (Nat.le_of_ble_eq_true rfl) ?_
  refine v_aload_n E dX12_isPlane_6 rfl ?_
  refine v_iload_n E dX12_isPlane_7 rfl ?_
  replace h := bnd_e h
  obtain ⟨r2, er2, h⟩ := h
  refine v_callV (na := 1) (As := [vI a1]) (rest := [vI r1.1]) (ci := 12) (q := (RX12, TX12, 20)) E gw12_59 (by decide +kernel) rfl rfl (by decide) (kX12_size l er2).2 (kX12_size l er2).1 rfl rfl dX12_isPlane_8 ⟨Nat.le_of_ble_eq_true rfl, Nat.le_of_ble_eq_true rfl⟩ ⟨(Nat.le_of_ble_eq_true rfl), (Nat.le_of_ble_eq_true rfl)⟩ (Nat.le_of_ble_eq_true rfl) ?_
  refine v_iconst (v := 2) E dX12_isPlane_11 (by decide) ?_
  refine v_iadd E dX12_isPlane_12 ?_
  refine v_icmp_ne (tgt := 20) E dX12_isPlane_13 (by decide) (fun c3 => ?_) (fun c3 => ?_)
  · rw [if_neg c3] at h
    refine v_iconst (v := 0) E dX12_isPlane_20 (by decide) ?_
    replace h := Option.some.inj h
    subst h
    refine v_widen (k' := 0) (n' := 0) (Nat.le_of_ble_eq_true rfl) (Nat.le_of_ble_eq_true rfl) ?_
    exact v_zret E (Or.inl rfl) dX12_isPlane_21
  · rw [if_pos c3] at h
    refine v_iconst (v := 1) E dX12_isPlane_16 (by decide) ?_
    refine v_goto (tgt := 21) E dX12_isPlane_17 (by decide) ?_
    replace h := Option.some.inj h
    subst h
    refine v_widen (k' := 0) (n' := 0) (Nat.le_of_ble_eq_true rfl) (Nat.le_of_ble_eq_true rfl) ?_
    exact v_zret E (Or.inr rfl) dX12_isPlane_21
noncomputable def fX12_drawn (A0 : AH) (o0 : Option Nat) (a1 : Int32) : Option (Int32 × AH) :=
  (rcv A0 13 o0).bind fun o0 =>
  (iter (S := Int32 × AH) (T := (AH) ⊕ (Int32 × AH)) (fun s1 =>
      (fX12_size s1.2 ((some o0)) a1).bind fun r4 =>
      if ((1 : Int32) <<< ((r4 : Int32) &&& 31)) ≤ s1.1 then
        some (.inr (.inl s1.2))
      else
        (fX12_isPlane s1.2 ((some o0)) a1 s1.1).bind fun r5 =>
        if r5.1 = 0 then
          some (.inl ((s1.1 + 1), r5.2))
        else
          some (.inr (.inr ((s1.1, r5.2))))) (0, A0)).bind fun t2 =>
  sm t2 (fun t2 =>
    some (((-1), t2))) (fun r => some r)
set_option maxRecDepth 100000 in
set_option maxHeartbeats 4000000 in
theorem kX12_drawn (l : Launch) {A0 : AH} {o0 : Option Nat} {a1 : Int32} {r : Int32 × AH} (h : fX12_drawn A0 o0 a1 = some r) : (∃ a, o0 = some a ∧ Hk A0 a = 13) ∧ Cn l yX12_drawn cX12_drawn 3 (some .int) 6 139 0 0 [vR o0, vI a1] A0 (some (vI r.1)) r.2 := by
  unfold fX12_drawn at h
  replace h := bnd_e h
  obtain ⟨o1, e1, h⟩ := h
  obtain ⟨rfl, hk0⟩ := rcv_e e1
  refine ⟨⟨o1, rfl, hk0⟩, ?_⟩
  refine Cn.of (pad := 1) (lv0 := [some (vR (some o1)), some (vI a1), none]) (by decide +kernel) (Nat.le_of_ble_eq_true rfl) rfl ?_
  intro p e s m below meth c base D cy E
  generalize (List.map toV [vR (some o1), vI a1]).toArray = ar at E ⊢
  have E : EN p s m ar meth c D cy RX12 cX12_drawn 3 (some .int) "drawn" := E
  refine v_iconst (v := 0) E dX12_drawn_0 (by decide) ?_
  refine v_istore_n (lv' := [some (vR (some o1)), some (vI a1), some (vI 0)]) E dX12_drawn_1 (by decide) rfl ?_
  replace h := bnd_e h
  obtain ⟨t2, et2, h⟩ := h
  refine iter_V (S := Int32 × AH) (T := (AH) ⊕ (Int32 × AH)) (Ph := fun s1 => V p l e { frames := 6, cells := 0, slots := 0, locals := 139 } s m ar below meth c (MQ below (Qd base D cy (some (vI r.1)) r.2) ar s 0 0 (fun q => base ≤ q)) base D cy 3 2 [some (vR (some o1)), some (vI a1), some (vI s1.1)] [] s1.2 0 0) (Pt := itM (fun t2 => V p l e { frames := 6, cells := 0, slots := 0, locals := 139 } s m ar below meth c (MQ below (Qd base D cy (some (vI r.1)) r.2) ar s 0 0 (fun q => base ≤ q)) base D cy 3 30 [none, none, none] [] t2 0 0) (fun z => z = r)) et2 (fun s1 w3 h hx => ?_) ?_
  · try dsimp only at h
    refine v_iload_n E dX12_drawn_2 rfl ?_
    refine v_iconst (v := 1) E dX12_drawn_3 (by decide) ?_
    refine v_aload_n E dX12_drawn_4 rfl ?_
    refine v_iload_n E dX12_drawn_5 rfl ?_
    replace h := bnd_e h
    obtain ⟨r4, er4, h⟩ := h
    refine v_callV (na := 1) (As := [vI a1]) (rest := [vI 1, vI s1.1]) (ci := 12) (q := (RX12, TX12, 20)) E gw12_59 (by decide +kernel) rfl rfl (by decide) (kX12_size l er4).2 (kX12_size l er4).1 rfl rfl dX12_drawn_6 ⟨Nat.le_of_ble_eq_true rfl, Nat.le_of_ble_eq_true rfl⟩ ⟨(Nat.le_of_ble_eq_true rfl), (Nat.le_of_ble_eq_true rfl)⟩ (Nat.le_of_ble_eq_true rfl) ?_
    refine v_ishl E dX12_drawn_9 ?_
    refine v_icmp_ge (tgt := 30) E dX12_drawn_10 (by decide) (fun c7 => ?_) (fun c7 => ?_)
    · rw [if_pos c7] at h
      refine v_drop (lv' := [none, none, none]) [0, 1, 2] rfl ?_
      replace h := Option.some.inj h
      subst h
      exact hx
    · rw [if_neg c7] at h
      refine v_aload_n E dX12_drawn_13 rfl ?_
      refine v_iload_n E dX12_drawn_14 rfl ?_
      refine v_iload_n E dX12_drawn_15 rfl ?_
      replace h := bnd_e h
      obtain ⟨r5, er5, h⟩ := h
      refine v_callV (na := 2) (As := [vI a1, vI s1.1]) (rest := []) (ci := 12) (q := (RX12, TX12, 20)) E gw12_162 (by decide +kernel) rfl rfl (by decide) (kX12_isPlane l er5).2 (kX12_isPlane l er5).1 rfl rfl dX12_drawn_16 ⟨Nat.le_of_ble_eq_true rfl, Nat.le_of_ble_eq_true rfl⟩ ⟨(Nat.le_of_ble_eq_true rfl), (Nat.le_of_ble_eq_true rfl)⟩ (Nat.le_of_ble_eq_true rfl) ?_
      refine v_if_eq (tgt := 24) E dX12_drawn_19 (by decide) (fun c6 => ?_) (fun c6 => ?_)
      · rw [if_pos c6] at h
        refine v_iinc (v := (s1.1 + 1)) (lv' := [some (vR (some o1)), some (vI a1), some (vI (s1.1 + 1))]) E dX12_drawn_24 rfl (by rfl) (by decide) rfl ?_
        refine v_goto (tgt := 2) E dX12_drawn_27 (by decide) ?_
        replace h := Option.some.inj h
        subst h
        exact hx
      · rw [if_neg c6] at h
        refine v_iload_n E dX12_drawn_22 rfl ?_
        replace h := Option.some.inj h
        subst h
        have hx : _ = r := hx
        subst hx
        refine v_widen (k' := 0) (n' := 0) (Nat.le_of_ble_eq_true rfl) (Nat.le_of_ble_eq_true rfl) ?_
        exact v_iret E dX12_drawn_23
  · cases t2 with
    | inl t2 =>
      dsimp only [sm] at h
      refine v_iconst (v := (-1)) E dX12_drawn_30 (by decide) ?_
      replace h := Option.some.inj h
      subst h
      refine v_widen (k' := 0) (n' := 0) (Nat.le_of_ble_eq_true rfl) (Nat.le_of_ble_eq_true rfl) ?_
      exact v_iret E dX12_drawn_31
    | inr z =>
      exact Option.some.inj h
noncomputable def fX12_drawings (A0 : AH) (o0 : Option Nat) (a1 : Int32) : Option (Int32 × AH) :=
  (rcv A0 13 o0).bind fun o0 =>
  (iter (S := Int32 × Int32 × AH) (T := Int32 × AH) (fun s1 =>
      (fX12_size s1.2.2 ((some o0)) a1).bind fun r4 =>
      if ((1 : Int32) <<< ((r4 : Int32) &&& 31)) ≤ s1.2.1 then
        some (.inr (s1.1, s1.2.2))
      else
        (fX12_isPlane s1.2.2 ((some o0)) a1 s1.2.1).bind fun r5 =>
        jp1 (α := Int32) (if r5.1 = 0 then
            0
          else
            1) fun x8 =>
        some (.inl ((s1.1 + x8), (s1.2.1 + 1), r5.2))) (0, 0, A0)).bind fun t2 =>
  some ((t2.1, t2.2))
set_option maxRecDepth 100000 in
set_option maxHeartbeats 4000000 in
theorem kX12_drawings (l : Launch) {A0 : AH} {o0 : Option Nat} {a1 : Int32} {r : Int32 × AH} (h : fX12_drawings A0 o0 a1 = some r) : (∃ a, o0 = some a ∧ Hk A0 a = 13) ∧ Cn l yX12_drawings cX12_drawings 4 (some .int) 6 139 0 0 [vR o0, vI a1] A0 (some (vI r.1)) r.2 := by
  unfold fX12_drawings at h
  replace h := bnd_e h
  obtain ⟨o1, e1, h⟩ := h
  obtain ⟨rfl, hk0⟩ := rcv_e e1
  refine ⟨⟨o1, rfl, hk0⟩, ?_⟩
  refine Cn.of (pad := 2) (lv0 := [some (vR (some o1)), some (vI a1), none, none]) (by decide +kernel) (Nat.le_of_ble_eq_true rfl) rfl ?_
  intro p e s m below meth c base D cy E
  generalize (List.map toV [vR (some o1), vI a1]).toArray = ar at E ⊢
  have E : EN p s m ar meth c D cy RX12 cX12_drawings 4 (some .int) "drawings" := E
  refine v_iconst (v := 0) E dX12_drawings_0 (by decide) ?_
  refine v_istore_n (lv' := [some (vR (some o1)), some (vI a1), some (vI 0), none]) E dX12_drawings_1 (by decide) rfl ?_
  refine v_iconst (v := 0) E dX12_drawings_2 (by decide) ?_
  refine v_istore_n (lv' := [some (vR (some o1)), some (vI a1), some (vI 0), some (vI 0)]) E dX12_drawings_3 (by decide) rfl ?_
  replace h := bnd_e h
  obtain ⟨t2, et2, h⟩ := h
  refine iter_V (S := Int32 × Int32 × AH) (T := Int32 × AH) (Ph := fun s1 => V p l e { frames := 6, cells := 0, slots := 0, locals := 139 } s m ar below meth c (MQ below (Qd base D cy (some (vI r.1)) r.2) ar s 0 0 (fun q => base ≤ q)) base D cy 4 4 [some (vR (some o1)), some (vI a1), some (vI s1.1), some (vI s1.2.1)] [] s1.2.2 0 0) (Pt := fun t2 => V p l e { frames := 6, cells := 0, slots := 0, locals := 139 } s m ar below meth c (MQ below (Qd base D cy (some (vI r.1)) r.2) ar s 0 0 (fun q => base ≤ q)) base D cy 4 38 [none, none, some (vI t2.1), none] [] t2.2 0 0) et2 (fun s1 w3 h hx => ?_) ?_
  · try dsimp only at h
    refine v_iload_n E dX12_drawings_4 rfl ?_
    refine v_iconst (v := 1) E dX12_drawings_5 (by decide) ?_
    refine v_aload_n E dX12_drawings_6 rfl ?_
    refine v_iload_n E dX12_drawings_7 rfl ?_
    replace h := bnd_e h
    obtain ⟨r4, er4, h⟩ := h
    refine v_callV (na := 1) (As := [vI a1]) (rest := [vI 1, vI s1.2.1]) (ci := 12) (q := (RX12, TX12, 20)) E gw12_59 (by decide +kernel) rfl rfl (by decide) (kX12_size l er4).2 (kX12_size l er4).1 rfl rfl dX12_drawings_8 ⟨Nat.le_of_ble_eq_true rfl, Nat.le_of_ble_eq_true rfl⟩ ⟨(Nat.le_of_ble_eq_true rfl), (Nat.le_of_ble_eq_true rfl)⟩ (Nat.le_of_ble_eq_true rfl) ?_
    refine v_ishl E dX12_drawings_11 ?_
    refine v_icmp_ge (tgt := 38) E dX12_drawings_12 (by decide) (fun c9 => ?_) (fun c9 => ?_)
    · rw [if_pos c9] at h
      refine v_drop (lv' := [none, none, some (vI s1.1), none]) [0, 1, 3] rfl ?_
      replace h := Option.some.inj h
      subst h
      exact hx
    · rw [if_neg c9] at h
      refine v_iload_n E dX12_drawings_15 rfl ?_
      refine v_aload_n E dX12_drawings_16 rfl ?_
      refine v_iload_n E dX12_drawings_17 rfl ?_
      refine v_iload_n E dX12_drawings_18 rfl ?_
      replace h := bnd_e h
      obtain ⟨r5, er5, h⟩ := h
      refine v_callV (na := 2) (As := [vI a1, vI s1.2.1]) (rest := [vI s1.1]) (ci := 12) (q := (RX12, TX12, 20)) E gw12_162 (by decide +kernel) rfl rfl (by decide) (kX12_isPlane l er5).2 (kX12_isPlane l er5).1 rfl rfl dX12_drawings_19 ⟨Nat.le_of_ble_eq_true rfl, Nat.le_of_ble_eq_true rfl⟩ ⟨(Nat.le_of_ble_eq_true rfl), (Nat.le_of_ble_eq_true rfl)⟩ (Nat.le_of_ble_eq_true rfl) ?_
      refine jp1_use h (fun K6 eK6 h => ?_)
      have hK6 : ∀ x8 : Int32, K6 x8 = some w3 → V p l e { frames := 6, cells := 0, slots := 0, locals := 139 } s m ar below meth c (MQ below (Qd base D cy (some (vI r.1)) r.2) ar s 0 0 (fun q => base ≤ q)) base D cy 4 30 [some (vR (some o1)), some (vI a1), none, some (vI s1.2.1)] [vI x8, vI s1.1] r5.2 0 0 := by
        intro x8 h
        rw [eK6] at h
        try dsimp only at h
        refine v_iadd E dX12_drawings_30 ?_
        refine v_istore_n (lv' := [some (vR (some o1)), some (vI a1), some (vI (s1.1 + x8)), some (vI s1.2.1)]) E dX12_drawings_31 (by decide) rfl ?_
        refine v_iinc (v := (s1.2.1 + 1)) (lv' := [some (vR (some o1)), some (vI a1), some (vI (s1.1 + x8)), some (vI (s1.2.1 + 1))]) E dX12_drawings_32 rfl (by rfl) (by decide) rfl ?_
        refine v_goto (tgt := 4) E dX12_drawings_35 (by decide) ?_
        replace h := Option.some.inj h
        subst h
        exact hx
      refine v_if_eq (tgt := 29) E dX12_drawings_22 (by decide) (fun c7 => ?_) (fun c7 => ?_)
      · rw [if_pos c7] at h
        refine v_iconst (v := 0) E dX12_drawings_29 (by decide) ?_
        refine v_drop (lv' := [some (vR (some o1)), some (vI a1), none, some (vI s1.2.1)]) [2] rfl ?_
        exact hK6 0 h
      · rw [if_neg c7] at h
        refine v_iconst (v := 1) E dX12_drawings_25 (by decide) ?_
        refine v_goto (tgt := 30) E dX12_drawings_26 (by decide) ?_
        refine v_drop (lv' := [some (vR (some o1)), some (vI a1), none, some (vI s1.2.1)]) [2] rfl ?_
        exact hK6 1 h
  · refine v_iload_n E dX12_drawings_38 rfl ?_
    replace h := Option.some.inj h
    subst h
    refine v_widen (k' := 0) (n' := 0) (Nat.le_of_ble_eq_true rfl) (Nat.le_of_ble_eq_true rfl) ?_
    exact v_iret E dX12_drawings_39
noncomputable def fX12_faceOf (A0 : AH) (o0 : Option Nat) (a1 : Int32) : Option (Int32) :=
  (rcv A0 13 o0).bind fun o0 =>
  (iter (S := Int32 × Int32) (T := Int32) (fun s1 =>
      (gR A0 13 397 ((some o0))).bind fun v4 =>
      (aI A0 14 v4 a1).bind fun v5 =>
      if v5 ≤ s1.2 then
        some (.inr s1.1)
      else
        (gR A0 13 397 ((some o0))).bind fun v6 =>
        (aI A0 14 v6 s1.2).bind fun v7 =>
        jp1 (α := Int32) (if v7 = s1.2 then
            1
          else
            0) fun x10 =>
        some (.inl ((s1.1 + x10), (s1.2 + 1)))) (0, 0)).bind fun t2 =>
  some t2
set_option maxRecDepth 100000 in
set_option maxHeartbeats 4000000 in
theorem kX12_faceOf (l : Launch) {A0 : AH} {o0 : Option Nat} {a1 : Int32} {r : Int32} (h : fX12_faceOf A0 o0 a1 = some r) : (∃ a, o0 = some a ∧ Hk A0 a = 13) ∧ Cn l yX12_faceOf cX12_faceOf 4 (some .int) 0 0 0 0 [vR o0, vI a1] A0 (some (vI r)) A0 := by
  unfold fX12_faceOf at h
  replace h := bnd_e h
  obtain ⟨o1, e1, h⟩ := h
  obtain ⟨rfl, hk0⟩ := rcv_e e1
  refine ⟨⟨o1, rfl, hk0⟩, ?_⟩
  refine Cn.of (pad := 2) (lv0 := [some (vR (some o1)), some (vI a1), none, none]) (by decide +kernel) (Nat.le_of_ble_eq_true rfl) rfl ?_
  intro p e s m below meth c base D cy E
  generalize (List.map toV [vR (some o1), vI a1]).toArray = ar at E ⊢
  have E : EN p s m ar meth c D cy RX12 cX12_faceOf 4 (some .int) "faceOf" := E
  refine v_iconst (v := 0) E dX12_faceOf_0 (by decide) ?_
  refine v_istore_n (lv' := [some (vR (some o1)), some (vI a1), some (vI 0), none]) E dX12_faceOf_1 (by decide) rfl ?_
  refine v_iconst (v := 0) E dX12_faceOf_2 (by decide) ?_
  refine v_istore_n (lv' := [some (vR (some o1)), some (vI a1), some (vI 0), some (vI 0)]) E dX12_faceOf_3 (by decide) rfl ?_
  replace h := bnd_e h
  obtain ⟨t2, et2, h⟩ := h
  refine iter_V (S := Int32 × Int32) (T := Int32) (Ph := fun s1 => V p l e { frames := 0, cells := 0, slots := 0, locals := 0 } s m ar below meth c (MQ below (Qd base D cy (some (vI r)) A0) ar s 0 0 (fun q => base ≤ q)) base D cy 4 4 [some (vR (some o1)), some (vI a1), some (vI s1.1), some (vI s1.2)] [] A0 0 0) (Pt := fun t2 => V p l e { frames := 0, cells := 0, slots := 0, locals := 0 } s m ar below meth c (MQ below (Qd base D cy (some (vI r)) A0) ar s 0 0 (fun q => base ≤ q)) base D cy 4 38 [none, none, some (vI t2), none] [] A0 0 0) et2 (fun s1 w3 h hx => ?_) ?_
  · try dsimp only at h
    refine v_iload_n E dX12_faceOf_4 rfl ?_
    refine v_aload_n E dX12_faceOf_5 rfl ?_
    replace h := bnd_e h
    obtain ⟨v4, ev4, h⟩ := h
    refine g12_36 E ev4 dX12_faceOf_6 ?_
    refine v_iload_n E dX12_faceOf_9 rfl ?_
    replace h := bnd_e h
    obtain ⟨v5, ev5, h⟩ := h
    refine v_iaload E ev5 dX12_faceOf_10 ?_
    refine v_icmp_ge (tgt := 38) E dX12_faceOf_11 (by decide) (fun c11 => ?_) (fun c11 => ?_)
    · rw [if_pos c11] at h
      refine v_drop (lv' := [none, none, some (vI s1.1), none]) [0, 1, 3] rfl ?_
      replace h := Option.some.inj h
      subst h
      exact hx
    · rw [if_neg c11] at h
      refine v_iload_n E dX12_faceOf_14 rfl ?_
      refine v_aload_n E dX12_faceOf_15 rfl ?_
      replace h := bnd_e h
      obtain ⟨v6, ev6, h⟩ := h
      refine g12_36 E ev6 dX12_faceOf_16 ?_
      refine v_iload_n E dX12_faceOf_19 rfl ?_
      replace h := bnd_e h
      obtain ⟨v7, ev7, h⟩ := h
      refine v_iaload E ev7 dX12_faceOf_20 ?_
      refine v_iload_n E dX12_faceOf_21 rfl ?_
      refine jp1_use h (fun K8 eK8 h => ?_)
      have hK8 : ∀ x10 : Int32, K8 x10 = some w3 → V p l e { frames := 0, cells := 0, slots := 0, locals := 0 } s m ar below meth c (MQ below (Qd base D cy (some (vI r)) A0) ar s 0 0 (fun q => base ≤ q)) base D cy 4 30 [some (vR (some o1)), some (vI a1), none, some (vI s1.2)] [vI x10, vI s1.1] A0 0 0 := by
        intro x10 h
        rw [eK8] at h
        try dsimp only at h
        refine v_iadd E dX12_faceOf_30 ?_
        refine v_istore_n (lv' := [some (vR (some o1)), some (vI a1), some (vI (s1.1 + x10)), some (vI s1.2)]) E dX12_faceOf_31 (by decide) rfl ?_
        refine v_iinc (v := (s1.2 + 1)) (lv' := [some (vR (some o1)), some (vI a1), some (vI (s1.1 + x10)), some (vI (s1.2 + 1))]) E dX12_faceOf_32 rfl (by rfl) (by decide) rfl ?_
        refine v_goto (tgt := 4) E dX12_faceOf_35 (by decide) ?_
        replace h := Option.some.inj h
        subst h
        exact hx
      refine v_icmp_ne (tgt := 29) E dX12_faceOf_22 (by decide) (fun c9 => ?_) (fun c9 => ?_)
      · rw [if_neg c9] at h
        refine v_iconst (v := 0) E dX12_faceOf_29 (by decide) ?_
        refine v_drop (lv' := [some (vR (some o1)), some (vI a1), none, some (vI s1.2)]) [2] rfl ?_
        exact hK8 0 h
      · rw [if_pos c9] at h
        refine v_iconst (v := 1) E dX12_faceOf_25 (by decide) ?_
        refine v_goto (tgt := 30) E dX12_faceOf_26 (by decide) ?_
        refine v_drop (lv' := [some (vR (some o1)), some (vI a1), none, some (vI s1.2)]) [2] rfl ?_
        exact hK8 1 h
  · refine v_iload_n E dX12_faceOf_38 rfl ?_
    replace h := Option.some.inj h
    subst h
    refine v_widen (k' := 0) (n' := 0) (Nat.le_of_ble_eq_true rfl) (Nat.le_of_ble_eq_true rfl) ?_
    exact v_iret E dX12_faceOf_39
noncomputable def fX12_sizeOfFace (A0 : AH) (o0 : Option Nat) (a1 : Int32) (a2 : Int32) : Option (Int32) :=
  (rcv A0 13 o0).bind fun o0 =>
  (iter (S := Int32 × Int32) (T := Int32) (fun s1 =>
      (fX12_size A0 ((some o0)) a1).bind fun r4 =>
      if (4 * r4) ≤ s1.2 then
        some (.inr s1.1)
      else
        (fX12_faceOf A0 ((some o0)) s1.2).bind fun r5 =>
        jp1 (α := Int32) (if r5 = a2 then
            1
          else
            0) fun x8 =>
        some (.inl ((s1.1 + x8), (s1.2 + 1)))) (0, 0)).bind fun t2 =>
  some t2
set_option maxRecDepth 100000 in
set_option maxHeartbeats 4000000 in
theorem kX12_sizeOfFace (l : Launch) {A0 : AH} {o0 : Option Nat} {a1 : Int32} {a2 : Int32} {r : Int32} (h : fX12_sizeOfFace A0 o0 a1 a2 = some r) : (∃ a, o0 = some a ∧ Hk A0 a = 13) ∧ Cn l yX12_sizeOfFace cX12_sizeOfFace 5 (some .int) 1 23 0 0 [vR o0, vI a1, vI a2] A0 (some (vI r)) A0 := by
  unfold fX12_sizeOfFace at h
  replace h := bnd_e h
  obtain ⟨o1, e1, h⟩ := h
  obtain ⟨rfl, hk0⟩ := rcv_e e1
  refine ⟨⟨o1, rfl, hk0⟩, ?_⟩
  refine Cn.of (pad := 2) (lv0 := [some (vR (some o1)), some (vI a1), some (vI a2), none, none]) (by decide +kernel) (Nat.le_of_ble_eq_true rfl) rfl ?_
  intro p e s m below meth c base D cy E
  generalize (List.map toV [vR (some o1), vI a1, vI a2]).toArray = ar at E ⊢
  have E : EN p s m ar meth c D cy RX12 cX12_sizeOfFace 5 (some .int) "sizeOfFace" := E
  refine v_iconst (v := 0) E dX12_sizeOfFace_0 (by decide) ?_
  refine v_istore_n (lv' := [some (vR (some o1)), some (vI a1), some (vI a2), some (vI 0), none]) E dX12_sizeOfFace_1 (by decide) rfl ?_
  refine v_iconst (v := 0) E dX12_sizeOfFace_2 (by decide) ?_
  refine v_istore (lv' := [some (vR (some o1)), some (vI a1), some (vI a2), some (vI 0), some (vI 0)]) E dX12_sizeOfFace_3 (by decide) rfl ?_
  replace h := bnd_e h
  obtain ⟨t2, et2, h⟩ := h
  refine iter_V (S := Int32 × Int32) (T := Int32) (Ph := fun s1 => V p l e { frames := 1, cells := 0, slots := 0, locals := 23 } s m ar below meth c (MQ below (Qd base D cy (some (vI r)) A0) ar s 0 0 (fun q => base ≤ q)) base D cy 5 5 [some (vR (some o1)), some (vI a1), some (vI a2), some (vI s1.1), some (vI s1.2)] [] A0 0 0) (Pt := fun t2 => V p l e { frames := 1, cells := 0, slots := 0, locals := 23 } s m ar below meth c (MQ below (Qd base D cy (some (vI r)) A0) ar s 0 0 (fun q => base ≤ q)) base D cy 5 41 [none, none, none, some (vI t2), none] [] A0 0 0) et2 (fun s1 w3 h hx => ?_) ?_
  · try dsimp only at h
    refine v_iload E dX12_sizeOfFace_5 rfl ?_
    refine v_iconst (v := 4) E dX12_sizeOfFace_7 (by decide) ?_
    refine v_aload_n E dX12_sizeOfFace_8 rfl ?_
    refine v_iload_n E dX12_sizeOfFace_9 rfl ?_
    replace h := bnd_e h
    obtain ⟨r4, er4, h⟩ := h
    refine v_callV (na := 1) (As := [vI a1]) (rest := [vI 4, vI s1.2]) (ci := 12) (q := (RX12, TX12, 20)) E gw12_59 (by decide +kernel) rfl rfl (by decide) (kX12_size l er4).2 (kX12_size l er4).1 rfl rfl dX12_sizeOfFace_10 ⟨Nat.le_of_ble_eq_true rfl, Nat.le_of_ble_eq_true rfl⟩ ⟨(Nat.le_of_ble_eq_true rfl), (Nat.le_of_ble_eq_true rfl)⟩ (Nat.le_of_ble_eq_true rfl) ?_
    refine v_imul E dX12_sizeOfFace_13 ?_
    refine v_icmp_ge (tgt := 41) E dX12_sizeOfFace_14 (by decide) (fun c9 => ?_) (fun c9 => ?_)
    · rw [if_pos c9] at h
      refine v_drop (lv' := [none, none, none, some (vI s1.1), none]) [0, 1, 2, 4] rfl ?_
      replace h := Option.some.inj h
      subst h
      exact hx
    · rw [if_neg c9] at h
      refine v_iload_n E dX12_sizeOfFace_17 rfl ?_
      refine v_aload_n E dX12_sizeOfFace_18 rfl ?_
      refine v_iload E dX12_sizeOfFace_19 rfl ?_
      replace h := bnd_e h
      obtain ⟨r5, er5, h⟩ := h
      refine v_callV (na := 1) (As := [vI s1.2]) (rest := [vI s1.1]) (ci := 12) (q := (RX12, TX12, 20)) E gw12_165 (by decide +kernel) rfl rfl (by decide) (kX12_faceOf l er5).2 (kX12_faceOf l er5).1 rfl rfl dX12_sizeOfFace_21 ⟨Nat.le_of_ble_eq_true rfl, Nat.le_of_ble_eq_true rfl⟩ ⟨(Nat.le_of_ble_eq_true rfl), (Nat.le_of_ble_eq_true rfl)⟩ (Nat.le_of_ble_eq_true rfl) ?_
      refine v_iload_n E dX12_sizeOfFace_24 rfl ?_
      refine jp1_use h (fun K6 eK6 h => ?_)
      have hK6 : ∀ x8 : Int32, K6 x8 = some w3 → V p l e { frames := 1, cells := 0, slots := 0, locals := 23 } s m ar below meth c (MQ below (Qd base D cy (some (vI r)) A0) ar s 0 0 (fun q => base ≤ q)) base D cy 5 33 [some (vR (some o1)), some (vI a1), some (vI a2), none, some (vI s1.2)] [vI x8, vI s1.1] A0 0 0 := by
        intro x8 h
        rw [eK6] at h
        try dsimp only at h
        refine v_iadd E dX12_sizeOfFace_33 ?_
        refine v_istore_n (lv' := [some (vR (some o1)), some (vI a1), some (vI a2), some (vI (s1.1 + x8)), some (vI s1.2)]) E dX12_sizeOfFace_34 (by decide) rfl ?_
        refine v_iinc (v := (s1.2 + 1)) (lv' := [some (vR (some o1)), some (vI a1), some (vI a2), some (vI (s1.1 + x8)), some (vI (s1.2 + 1))]) E dX12_sizeOfFace_35 rfl (by rfl) (by decide) rfl ?_
        refine v_goto (tgt := 5) E dX12_sizeOfFace_38 (by decide) ?_
        replace h := Option.some.inj h
        subst h
        exact hx
      refine v_icmp_ne (tgt := 32) E dX12_sizeOfFace_25 (by decide) (fun c7 => ?_) (fun c7 => ?_)
      · rw [if_neg c7] at h
        refine v_iconst (v := 0) E dX12_sizeOfFace_32 (by decide) ?_
        refine v_drop (lv' := [some (vR (some o1)), some (vI a1), some (vI a2), none, some (vI s1.2)]) [3] rfl ?_
        exact hK6 0 h
      · rw [if_pos c7] at h
        refine v_iconst (v := 1) E dX12_sizeOfFace_28 (by decide) ?_
        refine v_goto (tgt := 33) E dX12_sizeOfFace_29 (by decide) ?_
        refine v_drop (lv' := [some (vR (some o1)), some (vI a1), some (vI a2), none, some (vI s1.2)]) [3] rfl ?_
        exact hK6 1 h
  · refine v_iload_n E dX12_sizeOfFace_41 rfl ?_
    replace h := Option.some.inj h
    subst h
    refine v_widen (k' := 0) (n' := 0) (Nat.le_of_ble_eq_true rfl) (Nat.le_of_ble_eq_true rfl) ?_
    exact v_iret E dX12_sizeOfFace_42
noncomputable def fX12_facesOfSize (A0 : AH) (o0 : Option Nat) (a1 : Int32) (a2 : Int32) : Option (Int32 × AH) :=
  (rcv A0 13 o0).bind fun o0 =>
  (fX12_signsOf A0 ((some o0)) a1).bind fun r1 =>
  (fX12_laysFaces A0 ((some o0)) a1 r1).bind fun r2 =>
  (iter (S := Int32 × Int32) (T := Int32) (fun s3 =>
      if r2.1 ≤ s3.2 then
        some (.inr s3.1)
      else
        (fX12_sizeOfFace r2.2 ((some o0)) a1 s3.2).bind fun r6 =>
        jp1 (α := Int32) (if r6 = a2 then
            1
          else
            0) fun x9 =>
        some (.inl ((s3.1 + x9), (s3.2 + 1)))) (0, 0)).bind fun t4 =>
  some ((t4, r2.2))
set_option maxRecDepth 100000 in
set_option maxHeartbeats 4000000 in
theorem kX12_facesOfSize (l : Launch) {A0 : AH} {o0 : Option Nat} {a1 : Int32} {a2 : Int32} {r : Int32 × AH} (h : fX12_facesOfSize A0 o0 a1 a2 = some r) : (∃ a, o0 = some a ∧ Hk A0 a = 13) ∧ Cn l yX12_facesOfSize cX12_facesOfSize 6 (some .int) 5 117 0 0 [vR o0, vI a1, vI a2] A0 (some (vI r.1)) r.2 := by
  unfold fX12_facesOfSize at h
  replace h := bnd_e h
  obtain ⟨o1, e1, h⟩ := h
  obtain ⟨rfl, hk0⟩ := rcv_e e1
  refine ⟨⟨o1, rfl, hk0⟩, ?_⟩
  refine Cn.of (pad := 3) (lv0 := [some (vR (some o1)), some (vI a1), some (vI a2), none, none, none]) (by decide +kernel) (Nat.le_of_ble_eq_true rfl) rfl ?_
  intro p e s m below meth c base D cy E
  generalize (List.map toV [vR (some o1), vI a1, vI a2]).toArray = ar at E ⊢
  have E : EN p s m ar meth c D cy RX12 cX12_facesOfSize 6 (some .int) "facesOfSize" := E
  refine v_aload_n E dX12_facesOfSize_0 rfl ?_
  refine v_iload_n E dX12_facesOfSize_1 rfl ?_
  refine v_aload_n E dX12_facesOfSize_2 rfl ?_
  refine v_iload_n E dX12_facesOfSize_3 rfl ?_
  replace h := bnd_e h
  obtain ⟨r1, er1, h⟩ := h
  refine v_callV (na := 1) (As := [vI a1]) (rest := [vI a1, vR (some o1)]) (ci := 12) (q := (RX12, TX12, 20)) E gw12_168 (by decide +kernel) rfl rfl (by decide) (kX12_signsOf l er1).2 (kX12_signsOf l er1).1 rfl rfl dX12_facesOfSize_4 ⟨Nat.le_of_ble_eq_true rfl, Nat.le_of_ble_eq_true rfl⟩ ⟨(Nat.le_of_ble_eq_true rfl), (Nat.le_of_ble_eq_true rfl)⟩ (Nat.le_of_ble_eq_true rfl) ?_
  replace h := bnd_e h
  obtain ⟨r2, er2, h⟩ := h
  refine v_callV (na := 2) (As := [vI a1, vI r1]) (rest := []) (ci := 12) (q := (RX12, TX12, 20)) E gw12_159 (by decide +kernel) rfl rfl (by decide) (kX12_laysFaces l er2).2 (kX12_laysFaces l er2).1 rfl rfl dX12_facesOfSize_7 ⟨Nat.le_of_ble_eq_true rfl, Nat.le_of_ble_eq_true rfl⟩ ⟨(Nat.le_of_ble_eq_true rfl), (Nat.le_of_ble_eq_true rfl)⟩ (Nat.le_of_ble_eq_true rfl) ?_
  refine v_istore_n (lv' := [some (vR (some o1)), some (vI a1), some (vI a2), some (vI r2.1), none, none]) E dX12_facesOfSize_10 (by decide) rfl ?_
  refine v_iconst (v := 0) E dX12_facesOfSize_11 (by decide) ?_
  refine v_istore (lv' := [some (vR (some o1)), some (vI a1), some (vI a2), some (vI r2.1), some (vI 0), none]) E dX12_facesOfSize_12 (by decide) rfl ?_
  refine v_iconst (v := 0) E dX12_facesOfSize_14 (by decide) ?_
  refine v_istore (lv' := [some (vR (some o1)), some (vI a1), some (vI a2), some (vI r2.1), some (vI 0), some (vI 0)]) E dX12_facesOfSize_15 (by decide) rfl ?_
  replace h := bnd_e h
  obtain ⟨t4, et4, h⟩ := h
  refine iter_V (S := Int32 × Int32) (T := Int32) (Ph := fun s3 => V p l e { frames := 5, cells := 0, slots := 0, locals := 117 } s m ar below meth c (MQ below (Qd base D cy (some (vI r.1)) r.2) ar s 0 0 (fun q => base ≤ q)) base D cy 6 17 [some (vR (some o1)), some (vI a1), some (vI a2), some (vI r2.1), some (vI s3.1), some (vI s3.2)] [] r2.2 0 0) (Pt := fun t4 => V p l e { frames := 5, cells := 0, slots := 0, locals := 117 } s m ar below meth c (MQ below (Qd base D cy (some (vI r.1)) r.2) ar s 0 0 (fun q => base ≤ q)) base D cy 6 50 [none, none, none, none, some (vI t4), none] [] r2.2 0 0) et4 (fun s3 w5 h hx => ?_) ?_
  · try dsimp only at h
    refine v_iload E dX12_facesOfSize_17 rfl ?_
    refine v_iload_n E dX12_facesOfSize_19 rfl ?_
    refine v_icmp_ge (tgt := 50) E dX12_facesOfSize_20 (by decide) (fun c10 => ?_) (fun c10 => ?_)
    · rw [if_pos c10] at h
      refine v_drop (lv' := [none, none, none, none, some (vI s3.1), none]) [0, 1, 2, 3, 5] rfl ?_
      replace h := Option.some.inj h
      subst h
      exact hx
    · rw [if_neg c10] at h
      refine v_iload E dX12_facesOfSize_23 rfl ?_
      refine v_aload_n E dX12_facesOfSize_25 rfl ?_
      refine v_iload_n E dX12_facesOfSize_26 rfl ?_
      refine v_iload E dX12_facesOfSize_27 rfl ?_
      replace h := bnd_e h
      obtain ⟨r6, er6, h⟩ := h
      refine v_callV (na := 2) (As := [vI a1, vI s3.2]) (rest := [vI s3.1]) (ci := 12) (q := (RX12, TX12, 20)) E gw12_171 (by decide +kernel) rfl rfl (by decide) (kX12_sizeOfFace l er6).2 (kX12_sizeOfFace l er6).1 rfl rfl dX12_facesOfSize_29 ⟨Nat.le_of_ble_eq_true rfl, Nat.le_of_ble_eq_true rfl⟩ ⟨(Nat.le_of_ble_eq_true rfl), (Nat.le_of_ble_eq_true rfl)⟩ (Nat.le_of_ble_eq_true rfl) ?_
      refine v_iload_n E dX12_facesOfSize_32 rfl ?_
      refine jp1_use h (fun K7 eK7 h => ?_)
      have hK7 : ∀ x9 : Int32, K7 x9 = some w5 → V p l e { frames := 5, cells := 0, slots := 0, locals := 117 } s m ar below meth c (MQ below (Qd base D cy (some (vI r.1)) r.2) ar s 0 0 (fun q => base ≤ q)) base D cy 6 41 [some (vR (some o1)), some (vI a1), some (vI a2), some (vI r2.1), none, some (vI s3.2)] [vI x9, vI s3.1] r2.2 0 0 := by
        intro x9 h
        rw [eK7] at h
        try dsimp only at h
        refine v_iadd E dX12_facesOfSize_41 ?_
        refine v_istore (lv' := [some (vR (some o1)), some (vI a1), some (vI a2), some (vI r2.1), some (vI (s3.1 + x9)), some (vI s3.2)]) E dX12_facesOfSize_42 (by decide) rfl ?_
        refine v_iinc (v := (s3.2 + 1)) (lv' := [some (vR (some o1)), some (vI a1), some (vI a2), some (vI r2.1), some (vI (s3.1 + x9)), some (vI (s3.2 + 1))]) E dX12_facesOfSize_44 rfl (by rfl) (by decide) rfl ?_
        refine v_goto (tgt := 17) E dX12_facesOfSize_47 (by decide) ?_
        replace h := Option.some.inj h
        subst h
        exact hx
      refine v_icmp_ne (tgt := 40) E dX12_facesOfSize_33 (by decide) (fun c8 => ?_) (fun c8 => ?_)
      · rw [if_neg c8] at h
        refine v_iconst (v := 0) E dX12_facesOfSize_40 (by decide) ?_
        refine v_drop (lv' := [some (vR (some o1)), some (vI a1), some (vI a2), some (vI r2.1), none, some (vI s3.2)]) [4] rfl ?_
        exact hK7 0 h
      · rw [if_pos c8] at h
        refine v_iconst (v := 1) E dX12_facesOfSize_36 (by decide) ?_
        refine v_goto (tgt := 41) E dX12_facesOfSize_37 (by decide) ?_
        refine v_drop (lv' := [some (vR (some o1)), some (vI a1), some (vI a2), some (vI r2.1), none, some (vI s3.2)]) [4] rfl ?_
        exact hK7 1 h
  · refine v_iload E dX12_facesOfSize_50 rfl ?_
    replace h := Option.some.inj h
    subst h
    refine v_widen (k' := 0) (n' := 0) (Nat.le_of_ble_eq_true rfl) (Nat.le_of_ble_eq_true rfl) ?_
    exact v_iret E dX12_facesOfSize_52
noncomputable def fX12_tellsIndex (A0 : AH) (o0 : Option Nat) (a1 : Int32) (a2 : Int32) (a3 : Int32) : Option (AH) :=
  (rcv A0 13 o0).bind fun o0 =>
  (gR A0 13 401 ((some o0))).bind fun v1 =>
  (aI A0 15 v1 a1).bind fun v2 =>
  if v2 = 0 then
    some A0
  else
    (gR A0 13 401 ((some o0))).bind fun v3 =>
    (aI A0 15 v3 a2).bind fun v4 =>
    if v4 = 0 then
      (gR A0 13 400 ((some o0))).bind fun v5 =>
      (gR A0 13 400 ((some o0))).bind fun v6 =>
      (aI A0 14 v6 a1).bind fun v7 =>
      (sI A0 14 v5 a2 ((v7 + a3))).bind fun A8 =>
      (gR A8 13 401 ((some o0))).bind fun v9 =>
      (sZ A8 15 v9 a2 1).bind fun A10 =>
      (pZ A10 13 398 ((some o0)) 1).bind fun A11 =>
      some A11
    else
      some A0
set_option maxRecDepth 100000 in
set_option maxHeartbeats 4000000 in
theorem kX12_tellsIndex (l : Launch) {A0 : AH} {o0 : Option Nat} {a1 : Int32} {a2 : Int32} {a3 : Int32} {r : AH} (h : fX12_tellsIndex A0 o0 a1 a2 a3 = some r) : (∃ a, o0 = some a ∧ Hk A0 a = 13) ∧ Cn l yX12_tellsIndex cX12_tellsIndex 4 none 0 0 0 0 [vR o0, vI a1, vI a2, vI a3] A0 none r := by
  unfold fX12_tellsIndex at h
  replace h := bnd_e h
  obtain ⟨o1, e1, h⟩ := h
  obtain ⟨rfl, hk0⟩ := rcv_e e1
  refine ⟨⟨o1, rfl, hk0⟩, ?_⟩
  refine Cn.of (pad := 0) (lv0 := [some (vR (some o1)), some (vI a1), some (vI a2), some (vI a3)]) (by decide +kernel) (Nat.le_of_ble_eq_true rfl) rfl ?_
  intro p e s m below meth c base D cy E
  generalize (List.map toV [vR (some o1), vI a1, vI a2, vI a3]).toArray = ar at E ⊢
  have E : EN p s m ar meth c D cy RX12 cX12_tellsIndex 4 none "tellsIndex" := E
  refine v_aload_n E dX12_tellsIndex_0 rfl ?_
  replace h := bnd_e h
  obtain ⟨v1, ev1, h⟩ := h
  refine g12_42 E ev1 dX12_tellsIndex_1 ?_
  refine v_iload_n E dX12_tellsIndex_4 rfl ?_
  replace h := bnd_e h
  obtain ⟨v2, ev2, h⟩ := h
  refine v_baload E ev2 dX12_tellsIndex_5 ?_
  refine v_if_eq (tgt := 44) E dX12_tellsIndex_6 (by decide) (fun c13 => ?_) (fun c13 => ?_)
  · rw [if_pos c13] at h
    replace h := Option.some.inj h
    subst h
    refine v_widen (k' := 0) (n' := 0) (Nat.le_of_ble_eq_true rfl) (Nat.le_of_ble_eq_true rfl) ?_
    exact v_vret E dX12_tellsIndex_44
  · rw [if_neg c13] at h
    refine v_aload_n E dX12_tellsIndex_9 rfl ?_
    replace h := bnd_e h
    obtain ⟨v3, ev3, h⟩ := h
    refine g12_42 E ev3 dX12_tellsIndex_10 ?_
    refine v_iload_n E dX12_tellsIndex_13 rfl ?_
    replace h := bnd_e h
    obtain ⟨v4, ev4, h⟩ := h
    refine v_baload E ev4 dX12_tellsIndex_14 ?_
    refine v_if_ne (tgt := 44) E dX12_tellsIndex_15 (by decide) (fun c12 => ?_) (fun c12 => ?_)
    · rw [if_neg c12] at h
      replace h := Option.some.inj h
      subst h
      refine v_widen (k' := 0) (n' := 0) (Nat.le_of_ble_eq_true rfl) (Nat.le_of_ble_eq_true rfl) ?_
      exact v_vret E dX12_tellsIndex_44
    · rw [if_pos c12] at h
      refine v_aload_n E dX12_tellsIndex_18 rfl ?_
      replace h := bnd_e h
      obtain ⟨v5, ev5, h⟩ := h
      refine g12_39 E ev5 dX12_tellsIndex_19 ?_
      refine v_iload_n E dX12_tellsIndex_22 rfl ?_
      refine v_aload_n E dX12_tellsIndex_23 rfl ?_
      replace h := bnd_e h
      obtain ⟨v6, ev6, h⟩ := h
      refine g12_39 E ev6 dX12_tellsIndex_24 ?_
      refine v_iload_n E dX12_tellsIndex_27 rfl ?_
      replace h := bnd_e h
      obtain ⟨v7, ev7, h⟩ := h
      refine v_iaload E ev7 dX12_tellsIndex_28 ?_
      refine v_iload_n E dX12_tellsIndex_29 rfl ?_
      refine v_iadd E dX12_tellsIndex_30 ?_
      replace h := bnd_e h
      obtain ⟨A8, eA8, h⟩ := h
      refine v_iastore E eA8 dX12_tellsIndex_31 ?_
      refine v_aload_n E dX12_tellsIndex_32 rfl ?_
      replace h := bnd_e h
      obtain ⟨v9, ev9, h⟩ := h
      refine g12_42 E ev9 dX12_tellsIndex_33 ?_
      refine v_iload_n E dX12_tellsIndex_36 rfl ?_
      refine v_iconst (v := 1) E dX12_tellsIndex_37 (by decide) ?_
      replace h := bnd_e h
      obtain ⟨A10, eA10, h⟩ := h
      refine v_bastore E eA10 dX12_tellsIndex_38 ?_
      refine v_aload_n E dX12_tellsIndex_39 rfl ?_
      refine v_iconst (v := 1) E dX12_tellsIndex_40 (by decide) ?_
      replace h := bnd_e h
      obtain ⟨A11, eA11, h⟩ := h
      refine p12_112 E eA11 dX12_tellsIndex_41 ?_
      replace h := Option.some.inj h
      subst h
      refine v_widen (k' := 0) (n' := 0) (Nat.le_of_ble_eq_true rfl) (Nat.le_of_ble_eq_true rfl) ?_
      exact v_vret E dX12_tellsIndex_44
noncomputable def fX12_laysIndices (A0 : AH) (o0 : Option Nat) (a1 : Int32) : Option (AH) :=
  (rcv A0 13 o0).bind fun o0 =>
  (fX12_signsOf A0 ((some o0)) a1).bind fun r1 =>
  (fX12_laysFaces A0 ((some o0)) a1 r1).bind fun r2 =>
  (iter (S := Int32 × AH) (T := AH) (fun s3 =>
      if r2.1 ≤ s3.1 then
        some (.inr s3.2)
      else
        (gR s3.2 13 401 ((some o0))).bind fun v6 =>
        jp1 (α := Int32) (if s3.1 = 0 then
            1
          else
            0) fun x9 =>
        (sZ s3.2 15 v6 s3.1 x9).bind fun A10 =>
          (gR A10 13 400 ((some o0))).bind fun v11 =>
          (sI A10 14 v11 s3.1 0).bind fun A12 =>
          some (.inl ((s3.1 + 1), A12))) (0, r2.2)).bind fun t4 =>
  (fX12_size t4 ((some o0)) a1).bind fun r14 =>
  jp (fun (x19 : AH) =>
    (pZ x19 13 398 ((some o0)) 1).bind fun A20 =>
    (iter (S := AH) (T := AH) (fun s21 =>
        (gI s21 13 398 ((some o0))).bind fun v24 =>
        if v24 = 0 then
          some (.inr s21)
        else
          (pZ s21 13 398 ((some o0)) 0).bind fun A25 =>
          (iter (S := Int32 × AH) (T := AH) (fun s26 =>
              (fX12_size s26.2 ((some o0)) a1).bind fun r29 =>
              if (2 * r29) ≤ s26.1 then
                some (.inr s26.2)
              else
                (fX12_leftCorner s26.2 ((some o0)) a1 s26.1).bind fun r30 =>
                (fX12_faceOf s26.2 ((some o0)) r30).bind fun r31 =>
                (fX12_rightCorner s26.2 ((some o0)) a1 s26.1).bind fun r32 =>
                (fX12_faceOf s26.2 ((some o0)) r32).bind fun r33 =>
                (fX12_tellsIndex s26.2 ((some o0)) r31 r33 ((-1))).bind fun r34 =>
                (fX12_tellsIndex r34 ((some o0)) r33 r31 1).bind fun r35 =>
                some (.inl ((s26.1 + 1), r35))) (0, A25)).bind fun t27 =>
          some (.inl t27)) A20).bind fun t22 =>
    some t22) fun K15 =>
    if r14 = 0 then
      (gR t4 13 400 ((some o0))).bind fun v16 =>
      (sI t4 14 v16 1 ((-1))).bind fun A17 =>
      K15 A17
    else
      K15 t4
set_option maxRecDepth 100000 in
set_option maxHeartbeats 4000000 in
theorem kX12_laysIndices (l : Launch) {A0 : AH} {o0 : Option Nat} {a1 : Int32} {r : AH} (h : fX12_laysIndices A0 o0 a1 = some r) : (∃ a, o0 = some a ∧ Hk A0 a = 13) ∧ Cn l yX12_laysIndices cX12_laysIndices 6 none 5 117 0 0 [vR o0, vI a1] A0 none r := by
  unfold fX12_laysIndices at h
  replace h := bnd_e h
  obtain ⟨o1, e1, h⟩ := h
  obtain ⟨rfl, hk0⟩ := rcv_e e1
  refine ⟨⟨o1, rfl, hk0⟩, ?_⟩
  refine Cn.of (pad := 4) (lv0 := [some (vR (some o1)), some (vI a1), none, none, none, none]) (by decide +kernel) (Nat.le_of_ble_eq_true rfl) rfl ?_
  intro p e s m below meth c base D cy E
  generalize (List.map toV [vR (some o1), vI a1]).toArray = ar at E ⊢
  have E : EN p s m ar meth c D cy RX12 cX12_laysIndices 6 none "laysIndices" := E
  refine v_aload_n E dX12_laysIndices_0 rfl ?_
  refine v_iload_n E dX12_laysIndices_1 rfl ?_
  refine v_aload_n E dX12_laysIndices_2 rfl ?_
  refine v_iload_n E dX12_laysIndices_3 rfl ?_
  replace h := bnd_e h
  obtain ⟨r1, er1, h⟩ := h
  refine v_callV (na := 1) (As := [vI a1]) (rest := [vI a1, vR (some o1)]) (ci := 12) (q := (RX12, TX12, 20)) E gw12_168 (by decide +kernel) rfl rfl (by decide) (kX12_signsOf l er1).2 (kX12_signsOf l er1).1 rfl rfl dX12_laysIndices_4 ⟨Nat.le_of_ble_eq_true rfl, Nat.le_of_ble_eq_true rfl⟩ ⟨(Nat.le_of_ble_eq_true rfl), (Nat.le_of_ble_eq_true rfl)⟩ (Nat.le_of_ble_eq_true rfl) ?_
  replace h := bnd_e h
  obtain ⟨r2, er2, h⟩ := h
  refine v_callV (na := 2) (As := [vI a1, vI r1]) (rest := []) (ci := 12) (q := (RX12, TX12, 20)) E gw12_159 (by decide +kernel) rfl rfl (by decide) (kX12_laysFaces l er2).2 (kX12_laysFaces l er2).1 rfl rfl dX12_laysIndices_7 ⟨Nat.le_of_ble_eq_true rfl, Nat.le_of_ble_eq_true rfl⟩ ⟨(Nat.le_of_ble_eq_true rfl), (Nat.le_of_ble_eq_true rfl)⟩ (Nat.le_of_ble_eq_true rfl) ?_
  refine v_istore_n (lv' := [some (vR (some o1)), some (vI a1), some (vI r2.1), none, none, none]) E dX12_laysIndices_10 (by decide) rfl ?_
  refine v_iconst (v := 0) E dX12_laysIndices_11 (by decide) ?_
  refine v_istore_n (lv' := [some (vR (some o1)), some (vI a1), some (vI r2.1), some (vI 0), none, none]) E dX12_laysIndices_12 (by decide) rfl ?_
  replace h := bnd_e h
  obtain ⟨t4, et4, h⟩ := h
  refine iter_V (S := Int32 × AH) (T := AH) (Ph := fun s3 => V p l e { frames := 5, cells := 0, slots := 0, locals := 117 } s m ar below meth c (MQ below (Qd base D cy none r) ar s 0 0 (fun q => base ≤ q)) base D cy 6 13 [some (vR (some o1)), some (vI a1), some (vI r2.1), some (vI s3.1), none, none] [] s3.2 0 0) (Pt := fun t4 => V p l e { frames := 5, cells := 0, slots := 0, locals := 117 } s m ar below meth c (MQ below (Qd base D cy none r) ar s 0 0 (fun q => base ≤ q)) base D cy 6 46 [some (vR (some o1)), some (vI a1), none, none, none, none] [] t4 0 0) et4 (fun s3 w5 h hx => ?_) ?_
  · try dsimp only at h
    refine v_iload_n E dX12_laysIndices_13 rfl ?_
    refine v_iload_n E dX12_laysIndices_14 rfl ?_
    refine v_icmp_ge (tgt := 46) E dX12_laysIndices_15 (by decide) (fun c13 => ?_) (fun c13 => ?_)
    · rw [if_pos c13] at h
      refine v_drop (lv' := [some (vR (some o1)), some (vI a1), none, none, none, none]) [2, 3] rfl ?_
      replace h := Option.some.inj h
      subst h
      exact hx
    · rw [if_neg c13] at h
      refine v_aload_n E dX12_laysIndices_18 rfl ?_
      replace h := bnd_e h
      obtain ⟨v6, ev6, h⟩ := h
      refine g12_42 E ev6 dX12_laysIndices_19 ?_
      refine v_iload_n E dX12_laysIndices_22 rfl ?_
      refine v_iload_n E dX12_laysIndices_23 rfl ?_
      refine jp1_use h (fun K7 eK7 h => ?_)
      have hK7 : ∀ x9 : Int32, K7 x9 = some w5 → V p l e { frames := 5, cells := 0, slots := 0, locals := 117 } s m ar below meth c (MQ below (Qd base D cy none r) ar s 0 0 (fun q => base ≤ q)) base D cy 6 32 [some (vR (some o1)), some (vI a1), some (vI r2.1), some (vI s3.1), none, none] [vI x9, vI s3.1, vR v6] s3.2 0 0 := by
        intro x9 h
        rw [eK7] at h
        try dsimp only at h
        replace h := bnd_e h
        obtain ⟨A10, eA10, h⟩ := h
        refine v_bastore E eA10 dX12_laysIndices_32 ?_
        refine v_aload_n E dX12_laysIndices_33 rfl ?_
        replace h := bnd_e h
        obtain ⟨v11, ev11, h⟩ := h
        refine g12_39 E ev11 dX12_laysIndices_34 ?_
        refine v_iload_n E dX12_laysIndices_37 rfl ?_
        refine v_iconst (v := 0) E dX12_laysIndices_38 (by decide) ?_
        replace h := bnd_e h
        obtain ⟨A12, eA12, h⟩ := h
        refine v_iastore E eA12 dX12_laysIndices_39 ?_
        refine v_iinc (v := (s3.1 + 1)) (lv' := [some (vR (some o1)), some (vI a1), some (vI r2.1), some (vI (s3.1 + 1)), none, none]) E dX12_laysIndices_40 rfl (by rfl) (by decide) rfl ?_
        refine v_goto (tgt := 13) E dX12_laysIndices_43 (by decide) ?_
        replace h := Option.some.inj h
        subst h
        exact hx
      refine v_if_ne (tgt := 31) E dX12_laysIndices_24 (by decide) (fun c8 => ?_) (fun c8 => ?_)
      · rw [if_neg c8] at h
        refine v_iconst (v := 0) E dX12_laysIndices_31 (by decide) ?_
        exact hK7 0 h
      · rw [if_pos c8] at h
        refine v_iconst (v := 1) E dX12_laysIndices_27 (by decide) ?_
        refine v_goto (tgt := 32) E dX12_laysIndices_28 (by decide) ?_
        exact hK7 1 h
  · refine v_aload_n E dX12_laysIndices_46 rfl ?_
    refine v_iload_n E dX12_laysIndices_47 rfl ?_
    replace h := bnd_e h
    obtain ⟨r14, er14, h⟩ := h
    refine v_callV (na := 1) (As := [vI a1]) (rest := []) (ci := 12) (q := (RX12, TX12, 20)) E gw12_59 (by decide +kernel) rfl rfl (by decide) (kX12_size l er14).2 (kX12_size l er14).1 rfl rfl dX12_laysIndices_48 ⟨Nat.le_of_ble_eq_true rfl, Nat.le_of_ble_eq_true rfl⟩ ⟨(Nat.le_of_ble_eq_true rfl), (Nat.le_of_ble_eq_true rfl)⟩ (Nat.le_of_ble_eq_true rfl) ?_
    refine jp_use h (fun K15 eK15 h => ?_)
    have hK15 : ∀ x19 : AH, K15 x19 = some r → V p l e { frames := 5, cells := 0, slots := 0, locals := 117 } s m ar below meth c (MQ below (Qd base D cy none r) ar s 0 0 (fun q => base ≤ q)) base D cy 6 61 [some (vR (some o1)), some (vI a1), none, none, none, none] [] x19 0 0 := by
      intro x19 h
      rw [eK15] at h
      try dsimp only at h
      refine v_aload_n E dX12_laysIndices_61 rfl ?_
      refine v_iconst (v := 1) E dX12_laysIndices_62 (by decide) ?_
      replace h := bnd_e h
      obtain ⟨A20, eA20, h⟩ := h
      refine p12_112 E eA20 dX12_laysIndices_63 ?_
      replace h := bnd_e h
      obtain ⟨t22, et22, h⟩ := h
      refine iter_V (S := AH) (T := AH) (Ph := fun s21 => V p l e { frames := 5, cells := 0, slots := 0, locals := 117 } s m ar below meth c (MQ below (Qd base D cy none r) ar s 0 0 (fun q => base ≤ q)) base D cy 6 66 [some (vR (some o1)), some (vI a1), none, none, none, none] [] s21 0 0) (Pt := fun t22 => V p l e { frames := 5, cells := 0, slots := 0, locals := 117 } s m ar below meth c (MQ below (Qd base D cy none r) ar s 0 0 (fun q => base ≤ q)) base D cy 6 142 [none, none, none, none, none, none] [] t22 0 0) et22 (fun s21 w23 h hx => ?_) ?_
      · try dsimp only at h
        refine v_aload_n E dX12_laysIndices_66 rfl ?_
        replace h := bnd_e h
        obtain ⟨v24, ev24, h⟩ := h
        refine g12_112 E ev24 dX12_laysIndices_67 ?_
        refine v_if_eq (tgt := 142) E dX12_laysIndices_70 (by decide) (fun c38 => ?_) (fun c38 => ?_)
        · rw [if_pos c38] at h
          refine v_drop (lv' := [none, none, none, none, none, none]) [0, 1] rfl ?_
          replace h := Option.some.inj h
          subst h
          exact hx
        · rw [if_neg c38] at h
          refine v_aload_n E dX12_laysIndices_73 rfl ?_
          refine v_iconst (v := 0) E dX12_laysIndices_74 (by decide) ?_
          replace h := bnd_e h
          obtain ⟨A25, eA25, h⟩ := h
          refine p12_112 E eA25 dX12_laysIndices_75 ?_
          refine v_iconst (v := 0) E dX12_laysIndices_78 (by decide) ?_
          refine v_istore_n (lv' := [some (vR (some o1)), some (vI a1), none, some (vI 0), none, none]) E dX12_laysIndices_79 (by decide) rfl ?_
          replace h := bnd_e h
          obtain ⟨t27, et27, h⟩ := h
          refine iter_V (S := Int32 × AH) (T := AH) (Ph := fun s26 => V p l e { frames := 5, cells := 0, slots := 0, locals := 117 } s m ar below meth c (MQ below (Qd base D cy none r) ar s 0 0 (fun q => base ≤ q)) base D cy 6 80 [some (vR (some o1)), some (vI a1), none, some (vI s26.1), none, none] [] s26.2 0 0) (Pt := fun t27 => V p l e { frames := 5, cells := 0, slots := 0, locals := 117 } s m ar below meth c (MQ below (Qd base D cy none r) ar s 0 0 (fun q => base ≤ q)) base D cy 6 139 [some (vR (some o1)), some (vI a1), none, none, none, none] [] t27 0 0) et27 (fun s26 w28 h hx => ?_) ?_
          · try dsimp only at h
            refine v_iload_n E dX12_laysIndices_80 rfl ?_
            refine v_iconst (v := 2) E dX12_laysIndices_81 (by decide) ?_
            refine v_aload_n E dX12_laysIndices_82 rfl ?_
            refine v_iload_n E dX12_laysIndices_83 rfl ?_
            replace h := bnd_e h
            obtain ⟨r29, er29, h⟩ := h
            refine v_callV (na := 1) (As := [vI a1]) (rest := [vI 2, vI s26.1]) (ci := 12) (q := (RX12, TX12, 20)) E gw12_59 (by decide +kernel) rfl rfl (by decide) (kX12_size l er29).2 (kX12_size l er29).1 rfl rfl dX12_laysIndices_84 ⟨Nat.le_of_ble_eq_true rfl, Nat.le_of_ble_eq_true rfl⟩ ⟨(Nat.le_of_ble_eq_true rfl), (Nat.le_of_ble_eq_true rfl)⟩ (Nat.le_of_ble_eq_true rfl) ?_
            refine v_imul E dX12_laysIndices_87 ?_
            refine v_icmp_ge (tgt := 139) E dX12_laysIndices_88 (by decide) (fun c36 => ?_) (fun c36 => ?_)
            · rw [if_pos c36] at h
              refine v_drop (lv' := [some (vR (some o1)), some (vI a1), none, none, none, none]) [3] rfl ?_
              replace h := Option.some.inj h
              subst h
              exact hx
            · rw [if_neg c36] at h
              refine v_aload_n E dX12_laysIndices_91 rfl ?_
              refine v_aload_n E dX12_laysIndices_92 rfl ?_
              refine v_iload_n E dX12_laysIndices_93 rfl ?_
              refine v_iload_n E dX12_laysIndices_94 rfl ?_
              replace h := bnd_e h
              obtain ⟨r30, er30, h⟩ := h
              refine v_callV (na := 2) (As := [vI a1, vI s26.1]) (rest := [vR (some o1)]) (ci := 12) (q := (RX12, TX12, 20)) E gw12_147 (by decide +kernel) rfl rfl (by decide) (kX12_leftCorner l er30).2 (kX12_leftCorner l er30).1 rfl rfl dX12_laysIndices_95 ⟨Nat.le_of_ble_eq_true rfl, Nat.le_of_ble_eq_true rfl⟩ ⟨(Nat.le_of_ble_eq_true rfl), (Nat.le_of_ble_eq_true rfl)⟩ (Nat.le_of_ble_eq_true rfl) ?_
              replace h := bnd_e h
              obtain ⟨r31, er31, h⟩ := h
              refine v_callV (na := 1) (As := [vI r30]) (rest := []) (ci := 12) (q := (RX12, TX12, 20)) E gw12_165 (by decide +kernel) rfl rfl (by decide) (kX12_faceOf l er31).2 (kX12_faceOf l er31).1 rfl rfl dX12_laysIndices_98 ⟨Nat.le_of_ble_eq_true rfl, Nat.le_of_ble_eq_true rfl⟩ ⟨(Nat.le_of_ble_eq_true rfl), (Nat.le_of_ble_eq_true rfl)⟩ (Nat.le_of_ble_eq_true rfl) ?_
              refine v_istore (lv' := [some (vR (some o1)), some (vI a1), none, some (vI s26.1), some (vI r31), none]) E dX12_laysIndices_101 (by decide) rfl ?_
              refine v_aload_n E dX12_laysIndices_103 rfl ?_
              refine v_aload_n E dX12_laysIndices_104 rfl ?_
              refine v_iload_n E dX12_laysIndices_105 rfl ?_
              refine v_iload_n E dX12_laysIndices_106 rfl ?_
              replace h := bnd_e h
              obtain ⟨r32, er32, h⟩ := h
              refine v_callV (na := 2) (As := [vI a1, vI s26.1]) (rest := [vR (some o1)]) (ci := 12) (q := (RX12, TX12, 20)) E gw12_153 (by decide +kernel) rfl rfl (by decide) (kX12_rightCorner l er32).2 (kX12_rightCorner l er32).1 rfl rfl dX12_laysIndices_107 ⟨Nat.le_of_ble_eq_true rfl, Nat.le_of_ble_eq_true rfl⟩ ⟨(Nat.le_of_ble_eq_true rfl), (Nat.le_of_ble_eq_true rfl)⟩ (Nat.le_of_ble_eq_true rfl) ?_
              replace h := bnd_e h
              obtain ⟨r33, er33, h⟩ := h
              refine v_callV (na := 1) (As := [vI r32]) (rest := []) (ci := 12) (q := (RX12, TX12, 20)) E gw12_165 (by decide +kernel) rfl rfl (by decide) (kX12_faceOf l er33).2 (kX12_faceOf l er33).1 rfl rfl dX12_laysIndices_110 ⟨Nat.le_of_ble_eq_true rfl, Nat.le_of_ble_eq_true rfl⟩ ⟨(Nat.le_of_ble_eq_true rfl), (Nat.le_of_ble_eq_true rfl)⟩ (Nat.le_of_ble_eq_true rfl) ?_
              refine v_istore (lv' := [some (vR (some o1)), some (vI a1), none, some (vI s26.1), some (vI r31), some (vI r33)]) E dX12_laysIndices_113 (by decide) rfl ?_
              refine v_aload_n E dX12_laysIndices_115 rfl ?_
              refine v_iload E dX12_laysIndices_116 rfl ?_
              refine v_iload E dX12_laysIndices_118 rfl ?_
              refine v_iconst (v := (-1)) E dX12_laysIndices_120 (by decide) ?_
              replace h := bnd_e h
              obtain ⟨r34, er34, h⟩ := h
              refine v_callV (na := 3) (As := [vI r31, vI r33, vI (-1)]) (rest := []) (ci := 12) (q := (RX12, TX12, 20)) E gw12_174 (by decide +kernel) rfl rfl (by decide) (kX12_tellsIndex l er34).2 (kX12_tellsIndex l er34).1 rfl rfl dX12_laysIndices_121 ⟨Nat.le_of_ble_eq_true rfl, Nat.le_of_ble_eq_true rfl⟩ ⟨(Nat.le_of_ble_eq_true rfl), (Nat.le_of_ble_eq_true rfl)⟩ (Nat.le_of_ble_eq_true rfl) ?_
              refine v_aload_n E dX12_laysIndices_124 rfl ?_
              refine v_iload E dX12_laysIndices_125 rfl ?_
              refine v_iload E dX12_laysIndices_127 rfl ?_
              refine v_iconst (v := 1) E dX12_laysIndices_129 (by decide) ?_
              replace h := bnd_e h
              obtain ⟨r35, er35, h⟩ := h
              refine v_callV (na := 3) (As := [vI r33, vI r31, vI 1]) (rest := []) (ci := 12) (q := (RX12, TX12, 20)) E gw12_174 (by decide +kernel) rfl rfl (by decide) (kX12_tellsIndex l er35).2 (kX12_tellsIndex l er35).1 rfl rfl dX12_laysIndices_130 ⟨Nat.le_of_ble_eq_true rfl, Nat.le_of_ble_eq_true rfl⟩ ⟨(Nat.le_of_ble_eq_true rfl), (Nat.le_of_ble_eq_true rfl)⟩ (Nat.le_of_ble_eq_true rfl) ?_
              refine v_iinc (v := (s26.1 + 1)) (lv' := [some (vR (some o1)), some (vI a1), none, some (vI (s26.1 + 1)), some (vI r31), some (vI r33)]) E dX12_laysIndices_133 rfl (by rfl) (by decide) rfl ?_
              refine v_goto (tgt := 80) E dX12_laysIndices_136 (by decide) ?_
              refine v_drop (lv' := [some (vR (some o1)), some (vI a1), none, some (vI (s26.1 + 1)), none, none]) [4, 5] rfl ?_
              replace h := Option.some.inj h
              subst h
              exact hx
          · refine v_goto (tgt := 66) E dX12_laysIndices_139 (by decide) ?_
            replace h := Option.some.inj h
            subst h
            exact hx
      · replace h := Option.some.inj h
        subst h
        refine v_widen (k' := 0) (n' := 0) (Nat.le_of_ble_eq_true rfl) (Nat.le_of_ble_eq_true rfl) ?_
        exact v_vret E dX12_laysIndices_142
    refine v_if_ne (tgt := 61) E dX12_laysIndices_51 (by decide) (fun c18 => ?_) (fun c18 => ?_)
    · rw [if_neg c18] at h
      exact hK15 t4 h
    · rw [if_pos c18] at h
      refine v_aload_n E dX12_laysIndices_54 rfl ?_
      replace h := bnd_e h
      obtain ⟨v16, ev16, h⟩ := h
      refine g12_39 E ev16 dX12_laysIndices_55 ?_
      refine v_iconst (v := 1) E dX12_laysIndices_58 (by decide) ?_
      refine v_iconst (v := (-1)) E dX12_laysIndices_59 (by decide) ?_
      replace h := bnd_e h
      obtain ⟨A17, eA17, h⟩ := h
      refine v_iastore E eA17 dX12_laysIndices_60 ?_
      exact hK15 A17 h
