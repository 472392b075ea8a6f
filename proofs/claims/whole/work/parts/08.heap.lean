section HV
variable {p : Program} {l : Launch} {e : Env} {R : Room} {s : State} {m : MethodId} {args : Array Value} {below : List Frame} {meth : Method} {c : Code} {Q : State → Prop} {base : Nat} {D : va_G} {cy : Nat → ClassId} {own : String} {cc : ByteArray} {nL : Nat} {ret : Option FieldType} {nm : String} {pc : Nat} {lv lv' : List (Option LV)} {st : List LV} {A : AH} {k n : Nat}
theorem WH.ob {H : Heap} {ci a : Nat} (hW : WH base D cy A H) (ha : Hk A a = ci + 1) (hci : ci ≤ 12) : t_OB a (D.1 ci) (nF ci) (D.2 ci) H (fun j => fv A ci j a) := by
  have h := (hW.2.2.2.2 a (by omega)).1 (by omega)
  rw [ha, Nat.add_sub_cancel] at h
  exact h
theorem v_get (E : EN p s m args meth c D cy own cc nL ret nm) {ci kf idx : Nat} {C : String} {T : u_T} {N : Nat} (hc : vwCl[ci]? = some (C, T, N)) (hin : ∀ w ∈ u_ws C T N, w ∈ lw_g) (hN : nF ci = N) (hkf : kf < N) (hdecl : (T kf).1 = C) (hlink : Cond.fieldLink own idx C (T kf).2.1 (T kf).2.2.1 ∈ lw_g) (hci : ci ≤ 12) {a : Nat} (ha : Hk A a = ci + 1) (hd : decode cc pc = .ok (.getfield idx, 3)) {x : LV} (hx : fv A ci kf a = toV x)
    (kk : V p l e R s m args below meth c Q base D cy nL (pc + 3) lv (x :: st) A k n) : V p l e R s m args below meth c Q base D cy nL pc lv (vR (some a) :: st) A k n := by
  intro H locs ls hW hF hL
  obtain ⟨hex, hb, -, hown, hts, hK, -⟩ := E
  obtain ⟨cell, q1, q2, q3, q4⟩ := hW.ob ha hci
  obtain ⟨hS, hfc, kC, hkC, hkind⟩ := hK.1 ci _ hc
  obtain ⟨cf, kff, fi, f, hi, hsl⟩ := hS kf hkf
  have hlk := hts _ hlink
  rw [← hdecl] at hlk
  refine W.getf hex hb hown hlk hi (u_facts hfc hkC (u_lays hts hin hkf) hi).1 q1 (by rw [q3]; exact fun h => by cases h) (v := toV x) ?_ rfl rfl hd (kk H locs ls hW hF hL)
  rw [hsl, q4 kf (by rw [hN]; exact hkf)]
  exact congrArg some hx
theorem v_gI (E : EN p s m args meth c D cy own cc nL ret nm) {ci kf idx : Nat} {C : String} {T : u_T} {N : Nat} (hc : vwCl[ci]? = some (C, T, N)) (hin : ∀ w ∈ u_ws C T N, w ∈ lw_g) (hN : nF ci = N) (hkf : kf < N) (hdecl : (T kf).1 = C) (hlink : Cond.fieldLink own idx C (T kf).2.1 (T kf).2.2.1 ∈ lw_g) (hci : ci ≤ 12) (hft : ft ci kf = 0) {o : Option Nat} {v : Int32} (e1 : gI A (ci + 1) (32 * ci + kf) o = some v) (hd : decode cc pc = .ok (.getfield idx, 3))
    (kk : V p l e R s m args below meth c Q base D cy nL (pc + 3) lv (vI v :: st) A k n) : V p l e R s m args below meth c Q base D cy nL pc lv (vR o :: st) A k n := by
  unfold gI at e1
  split at e1
  · cases e1
  · split at e1
    · rename_i ha
      cases e1
      exact v_get E hc hin hN hkf hdecl hlink hci ha hd (by unfold fv; rw [if_pos hft]; rfl) kk
    · cases e1
theorem v_gJ (E : EN p s m args meth c D cy own cc nL ret nm) {ci kf idx : Nat} {C : String} {T : u_T} {N : Nat} (hc : vwCl[ci]? = some (C, T, N)) (hin : ∀ w ∈ u_ws C T N, w ∈ lw_g) (hN : nF ci = N) (hkf : kf < N) (hdecl : (T kf).1 = C) (hlink : Cond.fieldLink own idx C (T kf).2.1 (T kf).2.2.1 ∈ lw_g) (hci : ci ≤ 12) (hft : ft ci kf = 1) {o : Option Nat} {v : Int64} (e1 : gJ A (ci + 1) (32 * ci + kf) o = some v) (hd : decode cc pc = .ok (.getfield idx, 3))
    (kk : V p l e R s m args below meth c Q base D cy nL (pc + 3) lv (vJ v :: st) A k n) : V p l e R s m args below meth c Q base D cy nL pc lv (vR o :: st) A k n := by
  unfold gJ at e1
  split at e1
  · cases e1
  · split at e1
    · rename_i ha
      cases e1
      exact v_get E hc hin hN hkf hdecl hlink hci ha hd (by unfold fv; rw [hft, if_neg (by decide), if_pos rfl]; rfl) kk
    · cases e1
theorem v_gR (E : EN p s m args meth c D cy own cc nL ret nm) {ci kf idx : Nat} {C : String} {T : u_T} {N : Nat} (hc : vwCl[ci]? = some (C, T, N)) (hin : ∀ w ∈ u_ws C T N, w ∈ lw_g) (hN : nF ci = N) (hkf : kf < N) (hdecl : (T kf).1 = C) (hlink : Cond.fieldLink own idx C (T kf).2.1 (T kf).2.2.1 ∈ lw_g) (hci : ci ≤ 12) (hft : ft ci kf = 2) {o : Option Nat} {v : Option Nat} (e1 : gR A (ci + 1) (32 * ci + kf) o = some v) (hd : decode cc pc = .ok (.getfield idx, 3))
    (kk : V p l e R s m args below meth c Q base D cy nL (pc + 3) lv (vR v :: st) A k n) : V p l e R s m args below meth c Q base D cy nL pc lv (vR o :: st) A k n := by
  unfold gR at e1
  split at e1
  · cases e1
  · split at e1
    · rename_i ha
      cases e1
      exact v_get E hc hin hN hkf hdecl hlink hci ha hd (by unfold fv; rw [hft, if_neg (by decide), if_neg (by decide)]; rfl) kk
    · cases e1
/-- a field is written: the new heap differs at this object alone -/
theorem v_put (E : EN p s m args meth c D cy own cc nL ret nm) {ci kf idx : Nat} {C : String} {T : u_T} {N : Nat} {ty : FieldType} (tyT : Nat → FieldType) (hc : vwCl[ci]? = some (C, T, N)) (hin : ∀ w ∈ u_ws C T N, w ∈ lw_g) (htyT : ∀ j, j < N → parseFieldDescriptor (T j).2.2.1 = some (tyT j)) (hnm : ∀ a, a < N → ∀ b, b < N → a ≠ b → (T a).2.1 ≠ (T b).2.1) (hN : nF ci = N) (hkf : kf < N) (hdecl : (T kf).1 = C) (hlink : Cond.fieldLink own idx C (T kf).2.1 (T kf).2.2.1 ∈ lw_g) (hci : ci ≤ 12) (hfin : (T kf).2.2.2 = false ∨ ((T kf).2.2.2 = true ∧ nm = "<init>" ∧ C = own))
    {A' : AH} {a : Nat} (ha : Hk A a = ci + 1) {x : LV} (hty : parseFieldDescriptor (T kf).2.2.1 = some ty) (hnr : narrow ty (toV x) = toV x) (hft : fits ty (toV x) = true)
    (e1 : Hk A' = Hk A) (e2 : Hn A' = Hn A) (e0 : Hs A' = Hs A) (e3 : ∀ b, b ≠ a → ∀ f, Hi A' f b = Hi A f b ∧ Hj A' f b = Hj A f b ∧ Hr A' f b = Hr A f b ∧ He A' b f = He A b f ∧ Hq A' b f = Hq A b f) (e4 : ∀ j, j < N → fv A' ci j a = if j = kf then toV x else fv A ci j a)
    (hd : decode cc pc = .ok (.putfield idx, 3)) (kk : V p l e R s m args below meth c Q base D cy nL (pc + 3) lv st A' k n) : V p l e R s m args below meth c Q base D cy nL pc lv (x :: vR (some a) :: st) A k n := by
  intro H locs ls hW hF hL
  obtain ⟨hex, hb, -, hown, hts, hK, -, -, -, hname⟩ := E
  obtain ⟨cell, q1, q2, q3, q4⟩ := hW.ob ha hci
  have hap := va_apart (own := own) hts hin tyT htyT hnm hK hc
  obtain ⟨hS, hfc, kC, hkC, hkind⟩ := hK.1 ci _ hc
  obtain ⟨cf, kff, fi, f, hi, hsl⟩ := hS kf hkf
  have hlk := hts _ hlink
  rw [← hdecl] at hlk
  have hst := (u_facts hfc hkC (u_lays hts hin hkf) hi).1
  have hlay := hts _ (hin _ (u_in_lay hkf))
  have hfin' : ∀ H' : Heap, H'[a]? = some (cell.setSlot f.slot (toV x)) → H'.size = H.size → (∀ q, q ≠ a → H'[q]? = H[q]?) → W p l e R s m args below meth c H' (locs ++ [⟨a, f.slot⟩]) k n Q (F0 m (pc + 3) ls (st.map toV)) := by
    intro H' g1 g2 g3
    refine kk H' _ ls (hW.put (a := a) e1 e2 e0 e3 g2 g3 (by omega) ⟨fun _ => ?_, fun q => ?_, fun q => ?_⟩) (hF.put g3 (hW.2.1 a (by omega)).1) hL
    · rw [e1, ha, Nat.add_sub_cancel, hN]
      refine ⟨_, g1, q2, q3, fun j hj => ?_⟩
      have q4' : ∀ j, j < N → cell.slots[(D.2 ci) j]? = some (fv A ci j a) := fun j hj => q4 j (by rw [hN]; exact hj)
      rw [hsl, t_set q4' hap hkf (toV x) j hj]
      show some _ = some (fv A' ci j a)
      rw [e4 j hj]
      rfl
    · rw [e1, ha] at q; omega
    · rw [e1, ha] at q; omega
  unfold u_lay at hlay
  rcases hfin with hfin | ⟨hfin, hin2, hdo⟩
  · rw [if_neg (by rw [hfin]; decide)] at hlay
    have h6 := u_store hfc hkC hkind hlay hi hty hnr hft
    exact W.putK hex hb (f := f) ⟨hown, hlk, ⟨_, _, _, hi⟩, hst⟩ (by rw [q2]; exact h6) q1 q3 (by rw [hsl]; exact k2_hasslot (q4 kf (by rw [hN]; exact hkf))) rfl rfl hd hfin'
  · rw [if_pos hfin] at hlay
    have hcf : m.cls = cf := by
      obtain ⟨_, _, c', _, _, _, -, -, hf', -, -, -, hown2, -⟩ := Cond.laysFinal_spec hlay
      have g1 : c' = cf := by have := hi.symm.trans hf'; simp at this; exact this.1.symm
      rw [hdecl, hdo] at hown2
      rw [← g1]; exact Option.some.inj (hown.symm.trans hown2)
    have h6 := u_fits hfc hkC hkind (Or.inr hlay) hi hty hnr hft
    exact W.putFinK hex hb hown hlk hi hst hcf (hname.trans hin2) (by rw [q2]; exact h6) q1 q3 (by rw [hsl]; exact k2_hasslot (q4 kf (by rw [hN]; exact hkf))) rfl rfl hd hfin'
theorem up2_ne {α : Type} {f : Nat → Nat → α} {a b x y : Nat} {v : α} (h : ¬ (x = a ∧ y = b)) : up2 f a b v x y = f x y := if_neg h
theorem up2_eq {α : Type} {f : Nat → Nat → α} {a b : Nat} {v : α} : up2 f a b v a b = v := if_pos ⟨rfl, rfl⟩
theorem fv_si {ci kf j a : Nat} {v : Int32} (hft : ft ci kf = 0) : fv (si A (32 * ci + kf) a v) ci j a = if j = kf then toV (vI v) else fv A ci j a := by
  by_cases hj : j = kf
  · rw [if_pos hj, hj]
    unfold fv
    rw [if_pos hft]
    exact congrArg Value.int up2_eq
  · rw [if_neg hj]
    unfold fv
    rw [show Hi (si A (32 * ci + kf) a v) (32 * ci + j) a = Hi A (32 * ci + j) a from up2_ne (by omega)]
    rfl
theorem fv_sj {ci kf j a : Nat} {v : Int64} (hft : ft ci kf = 1) : fv (sj A (32 * ci + kf) a v) ci j a = if j = kf then toV (vJ v) else fv A ci j a := by
  by_cases hj : j = kf
  · rw [if_pos hj, hj]
    unfold fv
    rw [hft, if_neg (by decide), if_pos rfl]
    exact congrArg Value.long up2_eq
  · rw [if_neg hj]
    unfold fv
    rw [show Hj (sj A (32 * ci + kf) a v) (32 * ci + j) a = Hj A (32 * ci + j) a from up2_ne (by omega)]
    rfl
theorem fv_sr {ci kf j a : Nat} {v : Option Nat} (hft : ft ci kf = 2) : fv (sr A (32 * ci + kf) a v) ci j a = if j = kf then toV (vR v) else fv A ci j a := by
  by_cases hj : j = kf
  · rw [if_pos hj, hj]
    unfold fv
    rw [hft, if_neg (by decide), if_neg (by decide)]
    exact congrArg va_rf up2_eq
  · rw [if_neg hj]
    unfold fv
    rw [show Hr (sr A (32 * ci + kf) a v) (32 * ci + j) a = Hr A (32 * ci + j) a from up2_ne (by omega)]
    rfl
theorem v_pI (E : EN p s m args meth c D cy own cc nL ret nm) {ci kf idx : Nat} {C : String} {T : u_T} {N : Nat} {ty : FieldType} (tyT : Nat → FieldType) (hc : vwCl[ci]? = some (C, T, N)) (hin : ∀ w ∈ u_ws C T N, w ∈ lw_g) (htyT : ∀ j, j < N → parseFieldDescriptor (T j).2.2.1 = some (tyT j)) (hnm : ∀ a, a < N → ∀ b, b < N → a ≠ b → (T a).2.1 ≠ (T b).2.1) (hN : nF ci = N) (hkf : kf < N) (hdecl : (T kf).1 = C) (hlink : Cond.fieldLink own idx C (T kf).2.1 (T kf).2.2.1 ∈ lw_g) (hci : ci ≤ 12) (hfin : (T kf).2.2.2 = false ∨ ((T kf).2.2.2 = true ∧ nm = "<init>" ∧ C = own)) (hft : ft ci kf = 0) (hty : parseFieldDescriptor (T kf).2.2.1 = some ty) (htyi : ty = .int)
    {o : Option Nat} {v : Int32} {A' : AH} (e1 : pI A (ci + 1) (32 * ci + kf) o v = some A') (hd : decode cc pc = .ok (.putfield idx, 3)) (kk : V p l e R s m args below meth c Q base D cy nL (pc + 3) lv st A' k n) : V p l e R s m args below meth c Q base D cy nL pc lv (vI v :: vR o :: st) A k n := by
  unfold pI at e1
  split at e1
  · cases e1
  · rename_i a
    split at e1
    · rename_i ha
      cases e1
      refine v_put E tyT hc hin htyT hnm hN hkf hdecl hlink hci hfin (A' := si A (32 * ci + kf) a v) (a := a) ha hty (by rw [htyi]; rfl) (by rw [htyi]; rfl) rfl rfl rfl (fun b hb f => ?_) (fun j _ => fv_si hft) hd kk
      exact ⟨up2_ne (fun q => hb q.2), rfl, rfl, rfl, rfl⟩
    · cases e1
theorem v_pZ (E : EN p s m args meth c D cy own cc nL ret nm) {ci kf idx : Nat} {C : String} {T : u_T} {N : Nat} {ty : FieldType} (tyT : Nat → FieldType) (hc : vwCl[ci]? = some (C, T, N)) (hin : ∀ w ∈ u_ws C T N, w ∈ lw_g) (htyT : ∀ j, j < N → parseFieldDescriptor (T j).2.2.1 = some (tyT j)) (hnm : ∀ a, a < N → ∀ b, b < N → a ≠ b → (T a).2.1 ≠ (T b).2.1) (hN : nF ci = N) (hkf : kf < N) (hdecl : (T kf).1 = C) (hlink : Cond.fieldLink own idx C (T kf).2.1 (T kf).2.2.1 ∈ lw_g) (hci : ci ≤ 12) (hfin : (T kf).2.2.2 = false ∨ ((T kf).2.2.2 = true ∧ nm = "<init>" ∧ C = own)) (hft : ft ci kf = 0) (hty : parseFieldDescriptor (T kf).2.2.1 = some ty) (htyi : ty = .boolean)
    {o : Option Nat} {v : Int32} {A' : AH} (e1 : pZ A (ci + 1) (32 * ci + kf) o v = some A') (hd : decode cc pc = .ok (.putfield idx, 3)) (kk : V p l e R s m args below meth c Q base D cy nL (pc + 3) lv st A' k n) : V p l e R s m args below meth c Q base D cy nL pc lv (vI v :: vR o :: st) A k n := by
  unfold pZ at e1
  split at e1
  · cases e1
  · rename_i a
    split at e1
    · rename_i ha
      cases e1
      refine v_put E tyT hc hin htyT hnm hN hkf hdecl hlink hci hfin (A' := si A (32 * ci + kf) a v) (a := a) ha.1 hty (by rw [htyi]; rcases ha.2 with q | q <;> rw [q] <;> rfl) (by rw [htyi]; rcases ha.2 with q | q <;> rw [q] <;> rfl) rfl rfl rfl (fun b hb f => ?_) (fun j _ => fv_si hft) hd kk
      exact ⟨up2_ne (fun q => hb q.2), rfl, rfl, rfl, rfl⟩
    · cases e1
theorem v_pJ (E : EN p s m args meth c D cy own cc nL ret nm) {ci kf idx : Nat} {C : String} {T : u_T} {N : Nat} {ty : FieldType} (tyT : Nat → FieldType) (hc : vwCl[ci]? = some (C, T, N)) (hin : ∀ w ∈ u_ws C T N, w ∈ lw_g) (htyT : ∀ j, j < N → parseFieldDescriptor (T j).2.2.1 = some (tyT j)) (hnm : ∀ a, a < N → ∀ b, b < N → a ≠ b → (T a).2.1 ≠ (T b).2.1) (hN : nF ci = N) (hkf : kf < N) (hdecl : (T kf).1 = C) (hlink : Cond.fieldLink own idx C (T kf).2.1 (T kf).2.2.1 ∈ lw_g) (hci : ci ≤ 12) (hfin : (T kf).2.2.2 = false ∨ ((T kf).2.2.2 = true ∧ nm = "<init>" ∧ C = own)) (hft : ft ci kf = 1) (hty : parseFieldDescriptor (T kf).2.2.1 = some ty) (htyi : ty = .long)
    {o : Option Nat} {v : Int64} {A' : AH} (e1 : pJ A (ci + 1) (32 * ci + kf) o v = some A') (hd : decode cc pc = .ok (.putfield idx, 3)) (kk : V p l e R s m args below meth c Q base D cy nL (pc + 3) lv st A' k n) : V p l e R s m args below meth c Q base D cy nL pc lv (vJ v :: vR o :: st) A k n := by
  unfold pJ at e1
  split at e1
  · cases e1
  · rename_i a
    split at e1
    · rename_i ha
      cases e1
      refine v_put E tyT hc hin htyT hnm hN hkf hdecl hlink hci hfin (A' := sj A (32 * ci + kf) a v) (a := a) ha hty (by rw [htyi]; rfl) (by rw [htyi]; rfl) rfl rfl rfl (fun b hb f => ?_) (fun j _ => fv_sj hft) hd kk
      exact ⟨rfl, up2_ne (fun q => hb q.2), rfl, rfl, rfl⟩
    · cases e1
theorem v_pR (E : EN p s m args meth c D cy own cc nL ret nm) {ci kf idx : Nat} {C : String} {T : u_T} {N : Nat} {ty : FieldType} (tyT : Nat → FieldType) (hc : vwCl[ci]? = some (C, T, N)) (hin : ∀ w ∈ u_ws C T N, w ∈ lw_g) (htyT : ∀ j, j < N → parseFieldDescriptor (T j).2.2.1 = some (tyT j)) (hnm : ∀ a, a < N → ∀ b, b < N → a ≠ b → (T a).2.1 ≠ (T b).2.1) (hN : nF ci = N) (hkf : kf < N) (hdecl : (T kf).1 = C) (hlink : Cond.fieldLink own idx C (T kf).2.1 (T kf).2.2.1 ∈ lw_g) (hci : ci ≤ 12) (hfin : (T kf).2.2.2 = false ∨ ((T kf).2.2.2 = true ∧ nm = "<init>" ∧ C = own)) (hft : ft ci kf = 2) (hty : parseFieldDescriptor (T kf).2.2.1 = some ty) (htyi : (∃ z, ty = .object z) ∨ ∃ z, ty = .array z)
    {o : Option Nat} {v : Option Nat} {A' : AH} (e1 : pR A (ci + 1) (32 * ci + kf) o v = some A') (hd : decode cc pc = .ok (.putfield idx, 3)) (kk : V p l e R s m args below meth c Q base D cy nL (pc + 3) lv st A' k n) : V p l e R s m args below meth c Q base D cy nL pc lv (vR v :: vR o :: st) A k n := by
  unfold pR at e1
  split at e1
  · cases e1
  · rename_i a
    split at e1
    · rename_i ha
      cases e1
      refine v_put E tyT hc hin htyT hnm hN hkf hdecl hlink hci hfin (A' := sr A (32 * ci + kf) a v) (a := a) ha hty (by rcases htyi with ⟨z, q⟩ | ⟨z, q⟩ <;> rw [q] <;> cases v <;> rfl) (by rcases htyi with ⟨z, q⟩ | ⟨z, q⟩ <;> rw [q] <;> cases v <;> rfl) rfl rfl rfl (fun b hb f => ?_) (fun j _ => fv_sr hft) hd kk
      exact ⟨rfl, rfl, up2_ne (fun q => hb q.2), rfl, rfl⟩
    · cases e1
theorem WH.ia {H : Heap} {a kd : Nat} (hW : WH base D cy A H) (ha : Hk A a = kd) (hkd : kd = 14 ∨ kd = 15) : H[a]? = some (arrV (cy kd) (Hn A a) (fun j => .int (He A a j))) := by
  have h := (hW.2.2.2.2 a (by omega)).2.1 (by omega)
  rw [ha] at h
  exact h
theorem WH.ra {H : Heap} {a kd : Nat} (hW : WH base D cy A H) (ha : Hk A a = kd) (hkd : 16 ≤ kd) : H[a]? = some (arrV (cy kd) (Hn A a) (fun j => va_rf (Hq A a j))) := by
  have h := (hW.2.2.2.2 a (by omega)).2.2 (by omega)
  rw [ha] at h
  exact h
theorem v_iaload (E : EN p s m args meth c D cy own cc nL ret nm) {o : Option Nat} {i v : Int32} (e1 : aI A 14 o i = some v) (hd : decode cc pc = .ok (.iaload, 1)) (kk : V p l e R s m args below meth c Q base D cy nL (pc + 1) lv (vI v :: st) A k n) : V p l e R s m args below meth c Q base D cy nL pc lv (vI i :: vR o :: st) A k n := by
  unfold aI at e1
  split at e1
  · cases e1
  · rename_i a
    split at e1
    · rename_i ha
      cases e1
      intro H locs ls hW hF hL
      have hc := hW.ia ha.1 (Or.inl rfl)
      exact W.iald (v := .int (He A a i.toNatClampNeg)) E.1 E.2.1 hc ((E.2.2.2.2.2.1.2 0 _ rfl).1 _ _) (fun q => by cases q) (by rw [arrV_size]; exact fun q => q.elim ha.2.1 (Nat.not_le.mpr ha.2.2)) (arrV_read _ _ ha.2.2) rfl rfl hd (kk H locs ls hW hF hL)
    · cases e1
theorem v_baload (E : EN p s m args meth c D cy own cc nL ret nm) {o : Option Nat} {i v : Int32} (e1 : aI A 15 o i = some v) (hd : decode cc pc = .ok (.baload, 1)) (kk : V p l e R s m args below meth c Q base D cy nL (pc + 1) lv (vI v :: st) A k n) : V p l e R s m args below meth c Q base D cy nL pc lv (vI i :: vR o :: st) A k n := by
  unfold aI at e1
  split at e1
  · cases e1
  · rename_i a
    split at e1
    · rename_i ha
      cases e1
      intro H locs ls hW hF hL
      have hc := hW.ia ha.1 (Or.inr rfl)
      exact W.zald (v := .int (He A a i.toNatClampNeg)) E.1 E.2.1 hc ((E.2.2.2.2.2.1.2 1 _ rfl).1 _ _) (fun q => by cases q) (by rw [arrV_size]; exact fun q => q.elim ha.2.1 (Nat.not_le.mpr ha.2.2)) (arrV_read _ _ ha.2.2) rfl rfl hd (kk H locs ls hW hF hL)
    · cases e1
theorem v_aaload (E : EN p s m args meth c D cy own cc nL ret nm) {kd t0 : Nat} {C : String} (hkd : 16 ≤ kd) (ht : (tyl cy)[t0]? = some (cy kd, .object C)) {o v : Option Nat} {i : Int32} (e1 : aR A kd o i = some v) (hd : decode cc pc = .ok (.aaload, 1)) (kk : V p l e R s m args below meth c Q base D cy nL (pc + 1) lv (vR v :: st) A k n) : V p l e R s m args below meth c Q base D cy nL pc lv (vI i :: vR o :: st) A k n := by
  unfold aR at e1
  split at e1
  · cases e1
  · rename_i a
    split at e1
    · rename_i ha
      cases e1
      intro H locs ls hW hF hL
      have hc := hW.ra ha.1 hkd
      exact W.aald (v := va_rf (Hq A a i.toNatClampNeg)) (ty := .object C) E.1 E.2.1 hc ((E.2.2.2.2.2.1.2 t0 _ ht).1 _ _) rfl (fun q => by cases q) (by rw [arrV_size]; exact fun q => q.elim ha.2.1 (Nat.not_le.mpr ha.2.2)) (arrV_read _ _ ha.2.2) rfl rfl hd (kk H locs ls hW hF hL)
    · cases e1
theorem WH.seti {H H' : Heap} {a kd i : Nat} {v : Int32} (hW : WH base D cy A H) (ha : Hk A a = kd) (hkd : kd = 14 ∨ kd = 15) (z : H'.size = H.size) (o : ∀ q, q ≠ a → H'[q]? = H[q]?) (hc : H'[a]? = some ((arrV (cy kd) (Hn A a) (fun j => .int (He A a j))).setSlot i (.int v))) : WH base D cy (se A a i v) H' := by
  refine hW.put (a := a) rfl rfl rfl (fun b hb f => ⟨rfl, rfl, rfl, up2_ne (fun q => hb q.1), rfl⟩) z o (by omega) ⟨fun q => ?_, fun _ => ?_, fun q => ?_⟩
  · have q : Hk A a ≤ 13 := q
    omega
  · show H'[a]? = some (arrV (cy (Hk A a)) (Hn A a) (fun j => .int (He (se A a i v) a j)))
    rw [hc, arrV_store, ha]
    congr 2
    funext j
    by_cases hj : j = i
    · subst hj
      exact (if_pos rfl).trans (congrArg Value.int up2_eq).symm
    · exact (if_neg hj).trans (congrArg Value.int (up2_ne (fun q => hj q.2))).symm
  · have q : 16 ≤ Hk A a := q
    omega
theorem WH.setr {H H' : Heap} {a kd i : Nat} {v : Option Nat} (hW : WH base D cy A H) (ha : Hk A a = kd) (hkd : 16 ≤ kd) (z : H'.size = H.size) (o : ∀ q, q ≠ a → H'[q]? = H[q]?) (hc : H'[a]? = some ((arrV (cy kd) (Hn A a) (fun j => va_rf (Hq A a j))).setSlot i (va_rf v))) : WH base D cy (sq A a i v) H' := by
  refine hW.put (a := a) rfl rfl rfl (fun b hb f => ⟨rfl, rfl, rfl, rfl, up2_ne (fun q => hb q.1)⟩) z o (by omega) ⟨fun q => ?_, fun q => ?_, fun _ => ?_⟩
  · have q : Hk A a ≤ 13 := q
    omega
  · have q : Hk A a = 14 ∨ Hk A a = 15 := q
    omega
  · show H'[a]? = some (arrV (cy (Hk A a)) (Hn A a) (fun j => va_rf (Hq (sq A a i v) a j)))
    rw [hc, arrV_store, ha]
    congr 2
    funext j
    by_cases hj : j = i
    · subst hj
      exact (if_pos rfl).trans (congrArg va_rf up2_eq).symm
    · exact (if_neg hj).trans (congrArg va_rf (up2_ne (fun q => hj q.2))).symm
theorem v_iastore (E : EN p s m args meth c D cy own cc nL ret nm) {o : Option Nat} {i v : Int32} {A' : AH} (e1 : sI A 14 o i v = some A') (hd : decode cc pc = .ok (.iastore, 1)) (kk : V p l e R s m args below meth c Q base D cy nL (pc + 1) lv st A' k n) : V p l e R s m args below meth c Q base D cy nL pc lv (vI v :: vI i :: vR o :: st) A k n := by
  unfold sI at e1
  split at e1
  · cases e1
  · rename_i a
    split at e1
    · rename_i ha
      cases e1
      intro H locs ls hW hF hL
      have hc := hW.ia ha.1 (Or.inl rfl)
      refine W.iast E.1 E.2.1 hc ((E.2.2.2.2.2.1.2 0 _ rfl).1 _ _) (fun q => by cases q) (by rw [arrV_size]; exact fun q => q.elim ha.2.1 (Nat.not_le.mpr ha.2.2)) rfl rfl hd fun H' g1 g2 g3 => ?_
      exact kk H' _ ls (hW.seti ha.1 (Or.inl rfl) g2 g3 g1) (hF.put g3 (hW.2.1 a (by omega)).1) hL
    · cases e1
theorem v_bastore (E : EN p s m args meth c D cy own cc nL ret nm) {o : Option Nat} {i v : Int32} {A' : AH} (e1 : sZ A 15 o i v = some A') (hd : decode cc pc = .ok (.bastore, 1)) (kk : V p l e R s m args below meth c Q base D cy nL (pc + 1) lv st A' k n) : V p l e R s m args below meth c Q base D cy nL pc lv (vI v :: vI i :: vR o :: st) A k n := by
  unfold sZ at e1
  split at e1
  · cases e1
  · rename_i a
    split at e1
    · rename_i ha
      cases e1
      intro H locs ls hW hF hL
      have hc := hW.ia ha.1 (Or.inr rfl)
      refine W.zast E.1 E.2.1 hc ((E.2.2.2.2.2.1.2 1 _ rfl).1 _ _) (fun q => by cases q) (by rw [arrV_size]; exact fun q => q.elim ha.2.1 (Nat.not_le.mpr ha.2.2.1)) rfl rfl hd fun H' g1 g2 g3 => ?_
      have hnr : narrow .boolean (.int v) = .int v := by rcases ha.2.2.2 with q | q <;> rw [q] <;> rfl
      rw [hnr] at g1
      exact kk H' _ ls (hW.seti ha.1 (Or.inr rfl) g2 g3 g1) (hF.put g3 (hW.2.1 a (by omega)).1) hL
    · cases e1
theorem v_aastore (E : EN p s m args meth c D cy own cc nL ret nm) {kd ci t0 : Nat} {r : vw_C} (hkd : 16 ≤ kd) (hci : ci ≤ 12) (hc : vwCl[ci]? = some r) (ht : (tyl cy)[t0]? = some (cy kd, .object r.1)) {o v : Option Nat} {i : Int32} {A' : AH} (e1 : sR A kd (ci + 1) o i v = some A') (hd : decode cc pc = .ok (.aastore, 1)) (kk : V p l e R s m args below meth c Q base D cy nL (pc + 1) lv st A' k n) : V p l e R s m args below meth c Q base D cy nL pc lv (vR v :: vI i :: vR o :: st) A k n := by
  unfold sR at e1
  split at e1
  · cases e1
  · rename_i a
    split at e1
    · rename_i ha
      cases e1
      intro H locs ls hW hF hL
      have hca := hW.ra ha.1 hkd
      cases v with
      | none =>
        refine va_WaastN (C := r.1) E.1 E.2.1 hca ((E.2.2.2.2.2.1.2 t0 _ ht).1 _ _) (fun q => by cases q) (by rw [arrV_size]; exact fun q => q.elim ha.2.1 (Nat.not_le.mpr ha.2.2.1)) rfl rfl hd fun H' g1 g2 g3 => ?_
        exact kk H' _ ls (hW.setr ha.1 hkd g2 g3 g1) (hF.put g3 (hW.2.1 a (by omega)).1) hL
      | some b =>
        have hb : Hk A b = ci + 1 := of_decide_eq_true ha.2.2.2
        obtain ⟨cellV, g1, g2, g3, -⟩ := hW.ob hb hci
        have hcls := (E.2.2.2.2.2.1.1 ci r hc).2
        obtain ⟨kA, comp, k1, k2, k3, -⟩ := (E.2.2.2.2.2.1.2 t0 _ ht).2
        have hcomp : comp = D.1 ci := Option.some.inj (k3.symm.trans hcls.1)
        subst hcomp
        obtain ⟨kC, hkC, -⟩ := hcls.2
        refine W.aast E.1 E.2.1 hca (fun q h => by cases h) (fun h => by cases h) k1 k2 rfl hkC ⟨ha.2.1, by rw [arrV_size]; exact ha.2.2.1⟩ g1 (fun q h => by rw [g3] at h; cases h) (by rw [g2]; exact hkC) (by rw [g2]; exact va_assign hcls) rfl rfl hd fun H' f1 f2 f3 => ?_
        exact kk H' _ ls (hW.setr (v := some b) ha.1 hkd f2 f3 f1) (hF.put f3 (hW.2.1 a (by omega)).1) hL
    · cases e1
theorem v_alen (E : EN p s m args meth c D cy own cc nL ret nm) {kd t0 : Nat} {ty : FieldType} (hkd : 14 ≤ kd) (ht : (tyl cy)[t0]? = some (cy kd, ty)) {o : Option Nat} {v : Int32} (e1 : aL A kd o = some v) (hd : decode cc pc = .ok (.arraylength, 1)) (kk : V p l e R s m args below meth c Q base D cy nL (pc + 1) lv (vI v :: st) A k n) : V p l e R s m args below meth c Q base D cy nL pc lv (vR o :: st) A k n := by
  unfold aL at e1
  split at e1
  · cases e1
  · rename_i a
    split at e1
    · rename_i ha
      cases e1
      intro H locs ls hW hF hL
      by_cases hr : 16 ≤ kd
      · exact W.alen (n := Int32.ofNat (Hn A a)) E.1 E.2.1 (hW.ra ha hr) ((E.2.2.2.2.2.1.2 t0 _ ht).1 _ _) (by rw [arrV_size] <;> rfl) rfl rfl hd (kk H locs ls hW hF hL)
      · exact W.alen (n := Int32.ofNat (Hn A a)) E.1 E.2.1 (hW.ia ha (by omega)) ((E.2.2.2.2.2.1.2 t0 _ ht).1 _ _) (by rw [arrV_size] <;> rfl) rfl rfl hd (kk H locs ls hW hF hL)
    · cases e1
end HV
