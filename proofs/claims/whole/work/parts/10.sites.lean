theorem inG0 : ∀ w ∈ u_ws RX0 TX0 3, w ∈ lw_g := fun w h => in_g (inX0 w h) (List.all_eq_true.mp (by decide +kernel : (u_ws RX0 TX0 3).all goodWord = true) w h)
theorem inG1 : ∀ w ∈ u_ws RX1 TX1 2, w ∈ lw_g := fun w h => in_g (inX1 w h) (List.all_eq_true.mp (by decide +kernel : (u_ws RX1 TX1 2).all goodWord = true) w h)
theorem inG2 : ∀ w ∈ u_ws RX2 TX2 1, w ∈ lw_g := fun w h => in_g (inX2 w h) (List.all_eq_true.mp (by decide +kernel : (u_ws RX2 TX2 1).all goodWord = true) w h)
theorem inG3 : ∀ w ∈ u_ws RX3 TX3 8, w ∈ lw_g := fun w h => in_g (inX3 w h) (List.all_eq_true.mp (by decide +kernel : (u_ws RX3 TX3 8).all goodWord = true) w h)
theorem inG4 : ∀ w ∈ u_ws RX4 TX4 3, w ∈ lw_g := fun w h => in_g (inX4 w h) (List.all_eq_true.mp (by decide +kernel : (u_ws RX4 TX4 3).all goodWord = true) w h)
theorem inG5 : ∀ w ∈ u_ws RX5 TX5 3, w ∈ lw_g := fun w h => in_g (inX5 w h) (List.all_eq_true.mp (by decide +kernel : (u_ws RX5 TX5 3).all goodWord = true) w h)
theorem inG6 : ∀ w ∈ u_ws RX6 TX6 3, w ∈ lw_g := fun w h => in_g (inX6 w h) (List.all_eq_true.mp (by decide +kernel : (u_ws RX6 TX6 3).all goodWord = true) w h)
theorem inG7 : ∀ w ∈ u_ws RX7 TX7 14, w ∈ lw_g := fun w h => in_g (inX7 w h) (List.all_eq_true.mp (by decide +kernel : (u_ws RX7 TX7 14).all goodWord = true) w h)
theorem inG8 : ∀ w ∈ u_ws RX8 TX8 2, w ∈ lw_g := fun w h => in_g (inX8 w h) (List.all_eq_true.mp (by decide +kernel : (u_ws RX8 TX8 2).all goodWord = true) w h)
theorem inG9 : ∀ w ∈ u_ws RX9 TX9 3, w ∈ lw_g := fun w h => in_g (inX9 w h) (List.all_eq_true.mp (by decide +kernel : (u_ws RX9 TX9 3).all goodWord = true) w h)
theorem inG10 : ∀ w ∈ u_ws RX10 TX10 3, w ∈ lw_g := fun w h => in_g (inX10 w h) (List.all_eq_true.mp (by decide +kernel : (u_ws RX10 TX10 3).all goodWord = true) w h)
theorem inG11 : ∀ w ∈ u_ws RX11 TX11 8, w ∈ lw_g := fun w h => in_g (inX11 w h) (List.all_eq_true.mp (by decide +kernel : (u_ws RX11 TX11 8).all goodWord = true) w h)
theorem inG12 : ∀ w ∈ u_ws RX12 TX12 20, w ∈ lw_g := fun w h => in_g (inX12 w h) (List.all_eq_true.mp (by decide +kernel : (u_ws RX12 TX12 20).all goodWord = true) w h)
section SV
variable {p : Program} {l : Launch} {e : Env} {R : Room} {s : State} {m : MethodId} {args : Array Value} {below : List Frame} {meth : Method} {c : Code} {Q : State → Prop} {base : Nat} {D : va_G} {cy : Nat → ClassId} {cc : ByteArray} {nL : Nat} {ret : Option FieldType} {nm : String} {pc : Nat} {lv lv' : List (Option LV)} {st : List LV} {A : AH} {k n : Nat}
theorem q233 : Cond.fieldLink RX11 10 RX11 (TX11 0).2.1 (TX11 0).2.2.1 ∈ lw_g := in_g (List.mem_of_getElem? (i := 233) (by decide +kernel)) (by decide +kernel)
theorem g11_10 (E : EN p s m args meth c D cy RX11 cc nL ret nm) {o : Option Nat} {v : Option Nat} (e1 : gR A 12 352 o = some v) (hd : decode cc pc = .ok (.getfield 10, 3)) (kk : V p l e R s m args below meth c Q base D cy nL (pc + 3) lv (vR v :: st) A k n) : V p l e R s m args below meth c Q base D cy nL pc lv (vR o :: st) A k n := v_gR E (ci := 11) (kf := 0) rfl inG11 rfl (by decide) rfl q233 (by decide) rfl e1 hd kk
theorem p11_10 (E : EN p s m args meth c D cy RX11 cc nL ret "<init>") {o : Option Nat} {v : Option Nat} {A' : AH} (e1 : pR A 12 352 o v = some A') (hd : decode cc pc = .ok (.putfield 10, 3)) (kk : V p l e R s m args below meth c Q base D cy nL (pc + 3) lv st A' k n) : V p l e R s m args below meth c Q base D cy nL pc lv (vR v :: vR o :: st) A k n := v_pR E (ci := 11) (kf := 0) tyX11 rfl inG11 tyX11_ok nmX11 rfl (by decide) rfl q233 (by decide) (Or.inr ⟨rfl, rfl, rfl⟩) rfl (by decide +kernel : parseFieldDescriptor (TX11 0).2.2.1 = some (tyX11 0)) (Or.inl ⟨_, rfl⟩) e1 hd kk
theorem q234 : Cond.fieldLink RX11 19 RX11 (TX11 1).2.1 (TX11 1).2.2.1 ∈ lw_g := in_g (List.mem_of_getElem? (i := 234) (by decide +kernel)) (by decide +kernel)
theorem g11_19 (E : EN p s m args meth c D cy RX11 cc nL ret nm) {o : Option Nat} {v : Option Nat} (e1 : gR A 12 353 o = some v) (hd : decode cc pc = .ok (.getfield 19, 3)) (kk : V p l e R s m args below meth c Q base D cy nL (pc + 3) lv (vR v :: st) A k n) : V p l e R s m args below meth c Q base D cy nL pc lv (vR o :: st) A k n := v_gR E (ci := 11) (kf := 1) rfl inG11 rfl (by decide) rfl q234 (by decide) rfl e1 hd kk
theorem p11_19 (E : EN p s m args meth c D cy RX11 cc nL ret "<init>") {o : Option Nat} {v : Option Nat} {A' : AH} (e1 : pR A 12 353 o v = some A') (hd : decode cc pc = .ok (.putfield 19, 3)) (kk : V p l e R s m args below meth c Q base D cy nL (pc + 3) lv st A' k n) : V p l e R s m args below meth c Q base D cy nL pc lv (vR v :: vR o :: st) A k n := v_pR E (ci := 11) (kf := 1) tyX11 rfl inG11 tyX11_ok nmX11 rfl (by decide) rfl q234 (by decide) (Or.inr ⟨rfl, rfl, rfl⟩) rfl (by decide +kernel : parseFieldDescriptor (TX11 1).2.2.1 = some (tyX11 1)) (Or.inl ⟨_, rfl⟩) e1 hd kk
theorem q235 : Cond.fieldLink RX11 26 RX11 (TX11 2).2.1 (TX11 2).2.2.1 ∈ lw_g := in_g (List.mem_of_getElem? (i := 235) (by decide +kernel)) (by decide +kernel)
theorem g11_26 (E : EN p s m args meth c D cy RX11 cc nL ret nm) {o : Option Nat} {v : Option Nat} (e1 : gR A 12 354 o = some v) (hd : decode cc pc = .ok (.getfield 26, 3)) (kk : V p l e R s m args below meth c Q base D cy nL (pc + 3) lv (vR v :: st) A k n) : V p l e R s m args below meth c Q base D cy nL pc lv (vR o :: st) A k n := v_gR E (ci := 11) (kf := 2) rfl inG11 rfl (by decide) rfl q235 (by decide) rfl e1 hd kk
theorem p11_26 (E : EN p s m args meth c D cy RX11 cc nL ret "<init>") {o : Option Nat} {v : Option Nat} {A' : AH} (e1 : pR A 12 354 o v = some A') (hd : decode cc pc = .ok (.putfield 26, 3)) (kk : V p l e R s m args below meth c Q base D cy nL (pc + 3) lv st A' k n) : V p l e R s m args below meth c Q base D cy nL pc lv (vR v :: vR o :: st) A k n := v_pR E (ci := 11) (kf := 2) tyX11 rfl inG11 tyX11_ok nmX11 rfl (by decide) rfl q235 (by decide) (Or.inr ⟨rfl, rfl, rfl⟩) rfl (by decide +kernel : parseFieldDescriptor (TX11 2).2.2.1 = some (tyX11 2)) (Or.inl ⟨_, rfl⟩) e1 hd kk
theorem q236 : Cond.fieldLink RX11 33 RX11 (TX11 3).2.1 (TX11 3).2.2.1 ∈ lw_g := in_g (List.mem_of_getElem? (i := 236) (by decide +kernel)) (by decide +kernel)
theorem g11_33 (E : EN p s m args meth c D cy RX11 cc nL ret nm) {o : Option Nat} {v : Option Nat} (e1 : gR A 12 355 o = some v) (hd : decode cc pc = .ok (.getfield 33, 3)) (kk : V p l e R s m args below meth c Q base D cy nL (pc + 3) lv (vR v :: st) A k n) : V p l e R s m args below meth c Q base D cy nL pc lv (vR o :: st) A k n := v_gR E (ci := 11) (kf := 3) rfl inG11 rfl (by decide) rfl q236 (by decide) rfl e1 hd kk
theorem p11_33 (E : EN p s m args meth c D cy RX11 cc nL ret "<init>") {o : Option Nat} {v : Option Nat} {A' : AH} (e1 : pR A 12 355 o v = some A') (hd : decode cc pc = .ok (.putfield 33, 3)) (kk : V p l e R s m args below meth c Q base D cy nL (pc + 3) lv st A' k n) : V p l e R s m args below meth c Q base D cy nL pc lv (vR v :: vR o :: st) A k n := v_pR E (ci := 11) (kf := 3) tyX11 rfl inG11 tyX11_ok nmX11 rfl (by decide) rfl q236 (by decide) (Or.inr ⟨rfl, rfl, rfl⟩) rfl (by decide +kernel : parseFieldDescriptor (TX11 3).2.2.1 = some (tyX11 3)) (Or.inl ⟨_, rfl⟩) e1 hd kk
theorem q237 : Cond.fieldLink RX11 40 RX11 (TX11 4).2.1 (TX11 4).2.2.1 ∈ lw_g := in_g (List.mem_of_getElem? (i := 237) (by decide +kernel)) (by decide +kernel)
theorem g11_40 (E : EN p s m args meth c D cy RX11 cc nL ret nm) {o : Option Nat} {v : Option Nat} (e1 : gR A 12 356 o = some v) (hd : decode cc pc = .ok (.getfield 40, 3)) (kk : V p l e R s m args below meth c Q base D cy nL (pc + 3) lv (vR v :: st) A k n) : V p l e R s m args below meth c Q base D cy nL pc lv (vR o :: st) A k n := v_gR E (ci := 11) (kf := 4) rfl inG11 rfl (by decide) rfl q237 (by decide) rfl e1 hd kk
theorem p11_40 (E : EN p s m args meth c D cy RX11 cc nL ret "<init>") {o : Option Nat} {v : Option Nat} {A' : AH} (e1 : pR A 12 356 o v = some A') (hd : decode cc pc = .ok (.putfield 40, 3)) (kk : V p l e R s m args below meth c Q base D cy nL (pc + 3) lv st A' k n) : V p l e R s m args below meth c Q base D cy nL pc lv (vR v :: vR o :: st) A k n := v_pR E (ci := 11) (kf := 4) tyX11 rfl inG11 tyX11_ok nmX11 rfl (by decide) rfl q237 (by decide) (Or.inr ⟨rfl, rfl, rfl⟩) rfl (by decide +kernel : parseFieldDescriptor (TX11 4).2.2.1 = some (tyX11 4)) (Or.inr ⟨_, rfl⟩) e1 hd kk
theorem q238 : Cond.fieldLink RX11 47 RX11 (TX11 5).2.1 (TX11 5).2.2.1 ∈ lw_g := in_g (List.mem_of_getElem? (i := 238) (by decide +kernel)) (by decide +kernel)
theorem g11_47 (E : EN p s m args meth c D cy RX11 cc nL ret nm) {o : Option Nat} {v : Option Nat} (e1 : gR A 12 357 o = some v) (hd : decode cc pc = .ok (.getfield 47, 3)) (kk : V p l e R s m args below meth c Q base D cy nL (pc + 3) lv (vR v :: st) A k n) : V p l e R s m args below meth c Q base D cy nL pc lv (vR o :: st) A k n := v_gR E (ci := 11) (kf := 5) rfl inG11 rfl (by decide) rfl q238 (by decide) rfl e1 hd kk
theorem p11_47 (E : EN p s m args meth c D cy RX11 cc nL ret "<init>") {o : Option Nat} {v : Option Nat} {A' : AH} (e1 : pR A 12 357 o v = some A') (hd : decode cc pc = .ok (.putfield 47, 3)) (kk : V p l e R s m args below meth c Q base D cy nL (pc + 3) lv st A' k n) : V p l e R s m args below meth c Q base D cy nL pc lv (vR v :: vR o :: st) A k n := v_pR E (ci := 11) (kf := 5) tyX11 rfl inG11 tyX11_ok nmX11 rfl (by decide) rfl q238 (by decide) (Or.inr ⟨rfl, rfl, rfl⟩) rfl (by decide +kernel : parseFieldDescriptor (TX11 5).2.2.1 = some (tyX11 5)) (Or.inl ⟨_, rfl⟩) e1 hd kk
theorem q239 : Cond.fieldLink RX11 54 RX11 (TX11 6).2.1 (TX11 6).2.2.1 ∈ lw_g := in_g (List.mem_of_getElem? (i := 239) (by decide +kernel)) (by decide +kernel)
theorem g11_54 (E : EN p s m args meth c D cy RX11 cc nL ret nm) {o : Option Nat} {v : Option Nat} (e1 : gR A 12 358 o = some v) (hd : decode cc pc = .ok (.getfield 54, 3)) (kk : V p l e R s m args below meth c Q base D cy nL (pc + 3) lv (vR v :: st) A k n) : V p l e R s m args below meth c Q base D cy nL pc lv (vR o :: st) A k n := v_gR E (ci := 11) (kf := 6) rfl inG11 rfl (by decide) rfl q239 (by decide) rfl e1 hd kk
theorem p11_54 (E : EN p s m args meth c D cy RX11 cc nL ret "<init>") {o : Option Nat} {v : Option Nat} {A' : AH} (e1 : pR A 12 358 o v = some A') (hd : decode cc pc = .ok (.putfield 54, 3)) (kk : V p l e R s m args below meth c Q base D cy nL (pc + 3) lv st A' k n) : V p l e R s m args below meth c Q base D cy nL pc lv (vR v :: vR o :: st) A k n := v_pR E (ci := 11) (kf := 6) tyX11 rfl inG11 tyX11_ok nmX11 rfl (by decide) rfl q239 (by decide) (Or.inr ⟨rfl, rfl, rfl⟩) rfl (by decide +kernel : parseFieldDescriptor (TX11 6).2.2.1 = some (tyX11 6)) (Or.inl ⟨_, rfl⟩) e1 hd kk
theorem q240 : Cond.fieldLink RX11 61 RX11 (TX11 7).2.1 (TX11 7).2.2.1 ∈ lw_g := in_g (List.mem_of_getElem? (i := 240) (by decide +kernel)) (by decide +kernel)
theorem g11_61 (E : EN p s m args meth c D cy RX11 cc nL ret nm) {o : Option Nat} {v : Option Nat} (e1 : gR A 12 359 o = some v) (hd : decode cc pc = .ok (.getfield 61, 3)) (kk : V p l e R s m args below meth c Q base D cy nL (pc + 3) lv (vR v :: st) A k n) : V p l e R s m args below meth c Q base D cy nL pc lv (vR o :: st) A k n := v_gR E (ci := 11) (kf := 7) rfl inG11 rfl (by decide) rfl q240 (by decide) rfl e1 hd kk
theorem p11_61 (E : EN p s m args meth c D cy RX11 cc nL ret "<init>") {o : Option Nat} {v : Option Nat} {A' : AH} (e1 : pR A 12 359 o v = some A') (hd : decode cc pc = .ok (.putfield 61, 3)) (kk : V p l e R s m args below meth c Q base D cy nL (pc + 3) lv st A' k n) : V p l e R s m args below meth c Q base D cy nL pc lv (vR v :: vR o :: st) A k n := v_pR E (ci := 11) (kf := 7) tyX11 rfl inG11 tyX11_ok nmX11 rfl (by decide) rfl q240 (by decide) (Or.inr ⟨rfl, rfl, rfl⟩) rfl (by decide +kernel : parseFieldDescriptor (TX11 7).2.2.1 = some (tyX11 7)) (Or.inl ⟨_, rfl⟩) e1 hd kk
theorem q147 : Cond.fieldLink RX0 9 RX0 (TX0 0).2.1 (TX0 0).2.2.1 ∈ lw_g := in_g (List.mem_of_getElem? (i := 147) (by decide +kernel)) (by decide +kernel)
theorem g0_9 (E : EN p s m args meth c D cy RX0 cc nL ret nm) {o : Option Nat} {v : Option Nat} (e1 : gR A 1 0 o = some v) (hd : decode cc pc = .ok (.getfield 9, 3)) (kk : V p l e R s m args below meth c Q base D cy nL (pc + 3) lv (vR v :: st) A k n) : V p l e R s m args below meth c Q base D cy nL pc lv (vR o :: st) A k n := v_gR E (ci := 0) (kf := 0) rfl inG0 rfl (by decide) rfl q147 (by decide) rfl e1 hd kk
theorem p0_9 (E : EN p s m args meth c D cy RX0 cc nL ret "<init>") {o : Option Nat} {v : Option Nat} {A' : AH} (e1 : pR A 1 0 o v = some A') (hd : decode cc pc = .ok (.putfield 9, 3)) (kk : V p l e R s m args below meth c Q base D cy nL (pc + 3) lv st A' k n) : V p l e R s m args below meth c Q base D cy nL pc lv (vR v :: vR o :: st) A k n := v_pR E (ci := 0) (kf := 0) tyX0 rfl inG0 tyX0_ok nmX0 rfl (by decide) rfl q147 (by decide) (Or.inr ⟨rfl, rfl, rfl⟩) rfl (by decide +kernel : parseFieldDescriptor (TX0 0).2.2.1 = some (tyX0 0)) (Or.inr ⟨_, rfl⟩) e1 hd kk
theorem q148 : Cond.fieldLink RX0 15 RX0 (TX0 1).2.1 (TX0 1).2.2.1 ∈ lw_g := in_g (List.mem_of_getElem? (i := 148) (by decide +kernel)) (by decide +kernel)
theorem g0_15 (E : EN p s m args meth c D cy RX0 cc nL ret nm) {o : Option Nat} {v : Option Nat} (e1 : gR A 1 1 o = some v) (hd : decode cc pc = .ok (.getfield 15, 3)) (kk : V p l e R s m args below meth c Q base D cy nL (pc + 3) lv (vR v :: st) A k n) : V p l e R s m args below meth c Q base D cy nL pc lv (vR o :: st) A k n := v_gR E (ci := 0) (kf := 1) rfl inG0 rfl (by decide) rfl q148 (by decide) rfl e1 hd kk
theorem p0_15 (E : EN p s m args meth c D cy RX0 cc nL ret "<init>") {o : Option Nat} {v : Option Nat} {A' : AH} (e1 : pR A 1 1 o v = some A') (hd : decode cc pc = .ok (.putfield 15, 3)) (kk : V p l e R s m args below meth c Q base D cy nL (pc + 3) lv st A' k n) : V p l e R s m args below meth c Q base D cy nL pc lv (vR v :: vR o :: st) A k n := v_pR E (ci := 0) (kf := 1) tyX0 rfl inG0 tyX0_ok nmX0 rfl (by decide) rfl q148 (by decide) (Or.inr ⟨rfl, rfl, rfl⟩) rfl (by decide +kernel : parseFieldDescriptor (TX0 1).2.2.1 = some (tyX0 1)) (Or.inr ⟨_, rfl⟩) e1 hd kk
theorem q149 : Cond.fieldLink RX0 18 RX0 (TX0 2).2.1 (TX0 2).2.2.1 ∈ lw_g := in_g (List.mem_of_getElem? (i := 149) (by decide +kernel)) (by decide +kernel)
theorem g0_18 (E : EN p s m args meth c D cy RX0 cc nL ret nm) {o : Option Nat} {v : Int32} (e1 : gI A 1 2 o = some v) (hd : decode cc pc = .ok (.getfield 18, 3)) (kk : V p l e R s m args below meth c Q base D cy nL (pc + 3) lv (vI v :: st) A k n) : V p l e R s m args below meth c Q base D cy nL pc lv (vR o :: st) A k n := v_gI E (ci := 0) (kf := 2) rfl inG0 rfl (by decide) rfl q149 (by decide) rfl e1 hd kk
theorem p0_18 (E : EN p s m args meth c D cy RX0 cc nL ret nm) {o : Option Nat} {v : Int32} {A' : AH} (e1 : pI A 1 2 o v = some A') (hd : decode cc pc = .ok (.putfield 18, 3)) (kk : V p l e R s m args below meth c Q base D cy nL (pc + 3) lv st A' k n) : V p l e R s m args below meth c Q base D cy nL pc lv (vI v :: vR o :: st) A k n := v_pI E (ci := 0) (kf := 2) tyX0 rfl inG0 tyX0_ok nmX0 rfl (by decide) rfl q149 (by decide) (Or.inl rfl) rfl (by decide +kernel : parseFieldDescriptor (TX0 2).2.2.1 = some (tyX0 2)) rfl e1 hd kk
theorem q210 : Cond.fieldLink RX1 9 RX1 (TX1 0).2.1 (TX1 0).2.2.1 ∈ lw_g := in_g (List.mem_of_getElem? (i := 210) (by decide +kernel)) (by decide +kernel)
theorem g1_9 (E : EN p s m args meth c D cy RX1 cc nL ret nm) {o : Option Nat} {v : Option Nat} (e1 : gR A 2 32 o = some v) (hd : decode cc pc = .ok (.getfield 9, 3)) (kk : V p l e R s m args below meth c Q base D cy nL (pc + 3) lv (vR v :: st) A k n) : V p l e R s m args below meth c Q base D cy nL pc lv (vR o :: st) A k n := v_gR E (ci := 1) (kf := 0) rfl inG1 rfl (by decide) rfl q210 (by decide) rfl e1 hd kk
theorem p1_9 (E : EN p s m args meth c D cy RX1 cc nL ret "<init>") {o : Option Nat} {v : Option Nat} {A' : AH} (e1 : pR A 2 32 o v = some A') (hd : decode cc pc = .ok (.putfield 9, 3)) (kk : V p l e R s m args below meth c Q base D cy nL (pc + 3) lv st A' k n) : V p l e R s m args below meth c Q base D cy nL pc lv (vR v :: vR o :: st) A k n := v_pR E (ci := 1) (kf := 0) tyX1 rfl inG1 tyX1_ok nmX1 rfl (by decide) rfl q210 (by decide) (Or.inr ⟨rfl, rfl, rfl⟩) rfl (by decide +kernel : parseFieldDescriptor (TX1 0).2.2.1 = some (tyX1 0)) (Or.inr ⟨_, rfl⟩) e1 hd kk
theorem q211 : Cond.fieldLink RX1 15 RX1 (TX1 1).2.1 (TX1 1).2.2.1 ∈ lw_g := in_g (List.mem_of_getElem? (i := 211) (by decide +kernel)) (by decide +kernel)
theorem g1_15 (E : EN p s m args meth c D cy RX1 cc nL ret nm) {o : Option Nat} {v : Int32} (e1 : gI A 2 33 o = some v) (hd : decode cc pc = .ok (.getfield 15, 3)) (kk : V p l e R s m args below meth c Q base D cy nL (pc + 3) lv (vI v :: st) A k n) : V p l e R s m args below meth c Q base D cy nL pc lv (vR o :: st) A k n := v_gI E (ci := 1) (kf := 1) rfl inG1 rfl (by decide) rfl q211 (by decide) rfl e1 hd kk
theorem p1_15 (E : EN p s m args meth c D cy RX1 cc nL ret nm) {o : Option Nat} {v : Int32} {A' : AH} (e1 : pI A 2 33 o v = some A') (hd : decode cc pc = .ok (.putfield 15, 3)) (kk : V p l e R s m args below meth c Q base D cy nL (pc + 3) lv st A' k n) : V p l e R s m args below meth c Q base D cy nL pc lv (vI v :: vR o :: st) A k n := v_pI E (ci := 1) (kf := 1) tyX1 rfl inG1 tyX1_ok nmX1 rfl (by decide) rfl q211 (by decide) (Or.inl rfl) rfl (by decide +kernel : parseFieldDescriptor (TX1 1).2.2.1 = some (tyX1 1)) rfl e1 hd kk
theorem q200 : Cond.fieldLink RX2 7 RX2 (TX2 0).2.1 (TX2 0).2.2.1 ∈ lw_g := in_g (List.mem_of_getElem? (i := 200) (by decide +kernel)) (by decide +kernel)
theorem g2_7 (E : EN p s m args meth c D cy RX2 cc nL ret nm) {o : Option Nat} {v : Int32} (e1 : gI A 3 64 o = some v) (hd : decode cc pc = .ok (.getfield 7, 3)) (kk : V p l e R s m args below meth c Q base D cy nL (pc + 3) lv (vI v :: st) A k n) : V p l e R s m args below meth c Q base D cy nL pc lv (vR o :: st) A k n := v_gI E (ci := 2) (kf := 0) rfl inG2 rfl (by decide) rfl q200 (by decide) rfl e1 hd kk
theorem p2_7 (E : EN p s m args meth c D cy RX2 cc nL ret nm) {o : Option Nat} {v : Int32} {A' : AH} (e1 : pI A 3 64 o v = some A') (hd : decode cc pc = .ok (.putfield 7, 3)) (kk : V p l e R s m args below meth c Q base D cy nL (pc + 3) lv st A' k n) : V p l e R s m args below meth c Q base D cy nL pc lv (vI v :: vR o :: st) A k n := v_pI E (ci := 2) (kf := 0) tyX2 rfl inG2 tyX2_ok nmX2 rfl (by decide) rfl q200 (by decide) (Or.inl rfl) rfl (by decide +kernel : parseFieldDescriptor (TX2 0).2.2.1 = some (tyX2 0)) rfl e1 hd kk
theorem q639 : Cond.fieldLink RX3 9 RX3 (TX3 0).2.1 (TX3 0).2.2.1 ∈ lw_g := in_g (List.mem_of_getElem? (i := 639) (by decide +kernel)) (by decide +kernel)
theorem g3_9 (E : EN p s m args meth c D cy RX3 cc nL ret nm) {o : Option Nat} {v : Option Nat} (e1 : gR A 4 96 o = some v) (hd : decode cc pc = .ok (.getfield 9, 3)) (kk : V p l e R s m args below meth c Q base D cy nL (pc + 3) lv (vR v :: st) A k n) : V p l e R s m args below meth c Q base D cy nL pc lv (vR o :: st) A k n := v_gR E (ci := 3) (kf := 0) rfl inG3 rfl (by decide) rfl q639 (by decide) rfl e1 hd kk
theorem p3_9 (E : EN p s m args meth c D cy RX3 cc nL ret "<init>") {o : Option Nat} {v : Option Nat} {A' : AH} (e1 : pR A 4 96 o v = some A') (hd : decode cc pc = .ok (.putfield 9, 3)) (kk : V p l e R s m args below meth c Q base D cy nL (pc + 3) lv st A' k n) : V p l e R s m args below meth c Q base D cy nL pc lv (vR v :: vR o :: st) A k n := v_pR E (ci := 3) (kf := 0) tyX3 rfl inG3 tyX3_ok nmX3 rfl (by decide) rfl q639 (by decide) (Or.inr ⟨rfl, rfl, rfl⟩) rfl (by decide +kernel : parseFieldDescriptor (TX3 0).2.2.1 = some (tyX3 0)) (Or.inl ⟨_, rfl⟩) e1 hd kk
theorem q640 : Cond.fieldLink RX3 19 RX3 (TX3 1).2.1 (TX3 1).2.2.1 ∈ lw_g := in_g (List.mem_of_getElem? (i := 640) (by decide +kernel)) (by decide +kernel)
theorem g3_19 (E : EN p s m args meth c D cy RX3 cc nL ret nm) {o : Option Nat} {v : Int32} (e1 : gI A 4 97 o = some v) (hd : decode cc pc = .ok (.getfield 19, 3)) (kk : V p l e R s m args below meth c Q base D cy nL (pc + 3) lv (vI v :: st) A k n) : V p l e R s m args below meth c Q base D cy nL pc lv (vR o :: st) A k n := v_gI E (ci := 3) (kf := 1) rfl inG3 rfl (by decide) rfl q640 (by decide) rfl e1 hd kk
theorem p3_19 (E : EN p s m args meth c D cy RX3 cc nL ret "<init>") {o : Option Nat} {v : Int32} {A' : AH} (e1 : pI A 4 97 o v = some A') (hd : decode cc pc = .ok (.putfield 19, 3)) (kk : V p l e R s m args below meth c Q base D cy nL (pc + 3) lv st A' k n) : V p l e R s m args below meth c Q base D cy nL pc lv (vI v :: vR o :: st) A k n := v_pI E (ci := 3) (kf := 1) tyX3 rfl inG3 tyX3_ok nmX3 rfl (by decide) rfl q640 (by decide) (Or.inr ⟨rfl, rfl, rfl⟩) rfl (by decide +kernel : parseFieldDescriptor (TX3 1).2.2.1 = some (tyX3 1)) rfl e1 hd kk
theorem q641 : Cond.fieldLink RX3 29 RX3 (TX3 2).2.1 (TX3 2).2.2.1 ∈ lw_g := in_g (List.mem_of_getElem? (i := 641) (by decide +kernel)) (by decide +kernel)
theorem g3_29 (E : EN p s m args meth c D cy RX3 cc nL ret nm) {o : Option Nat} {v : Option Nat} (e1 : gR A 4 98 o = some v) (hd : decode cc pc = .ok (.getfield 29, 3)) (kk : V p l e R s m args below meth c Q base D cy nL (pc + 3) lv (vR v :: st) A k n) : V p l e R s m args below meth c Q base D cy nL pc lv (vR o :: st) A k n := v_gR E (ci := 3) (kf := 2) rfl inG3 rfl (by decide) rfl q641 (by decide) rfl e1 hd kk
theorem p3_29 (E : EN p s m args meth c D cy RX3 cc nL ret "<init>") {o : Option Nat} {v : Option Nat} {A' : AH} (e1 : pR A 4 98 o v = some A') (hd : decode cc pc = .ok (.putfield 29, 3)) (kk : V p l e R s m args below meth c Q base D cy nL (pc + 3) lv st A' k n) : V p l e R s m args below meth c Q base D cy nL pc lv (vR v :: vR o :: st) A k n := v_pR E (ci := 3) (kf := 2) tyX3 rfl inG3 tyX3_ok nmX3 rfl (by decide) rfl q641 (by decide) (Or.inr ⟨rfl, rfl, rfl⟩) rfl (by decide +kernel : parseFieldDescriptor (TX3 2).2.2.1 = some (tyX3 2)) (Or.inr ⟨_, rfl⟩) e1 hd kk
theorem q642 : Cond.fieldLink RX3 33 RX3 (TX3 3).2.1 (TX3 3).2.2.1 ∈ lw_g := in_g (List.mem_of_getElem? (i := 642) (by decide +kernel)) (by decide +kernel)
theorem g3_33 (E : EN p s m args meth c D cy RX3 cc nL ret nm) {o : Option Nat} {v : Option Nat} (e1 : gR A 4 99 o = some v) (hd : decode cc pc = .ok (.getfield 33, 3)) (kk : V p l e R s m args below meth c Q base D cy nL (pc + 3) lv (vR v :: st) A k n) : V p l e R s m args below meth c Q base D cy nL pc lv (vR o :: st) A k n := v_gR E (ci := 3) (kf := 3) rfl inG3 rfl (by decide) rfl q642 (by decide) rfl e1 hd kk
theorem p3_33 (E : EN p s m args meth c D cy RX3 cc nL ret "<init>") {o : Option Nat} {v : Option Nat} {A' : AH} (e1 : pR A 4 99 o v = some A') (hd : decode cc pc = .ok (.putfield 33, 3)) (kk : V p l e R s m args below meth c Q base D cy nL (pc + 3) lv st A' k n) : V p l e R s m args below meth c Q base D cy nL pc lv (vR v :: vR o :: st) A k n := v_pR E (ci := 3) (kf := 3) tyX3 rfl inG3 tyX3_ok nmX3 rfl (by decide) rfl q642 (by decide) (Or.inr ⟨rfl, rfl, rfl⟩) rfl (by decide +kernel : parseFieldDescriptor (TX3 3).2.2.1 = some (tyX3 3)) (Or.inr ⟨_, rfl⟩) e1 hd kk
theorem q643 : Cond.fieldLink RX3 39 RX3 (TX3 4).2.1 (TX3 4).2.2.1 ∈ lw_g := in_g (List.mem_of_getElem? (i := 643) (by decide +kernel)) (by decide +kernel)
theorem g3_39 (E : EN p s m args meth c D cy RX3 cc nL ret nm) {o : Option Nat} {v : Option Nat} (e1 : gR A 4 100 o = some v) (hd : decode cc pc = .ok (.getfield 39, 3)) (kk : V p l e R s m args below meth c Q base D cy nL (pc + 3) lv (vR v :: st) A k n) : V p l e R s m args below meth c Q base D cy nL pc lv (vR o :: st) A k n := v_gR E (ci := 3) (kf := 4) rfl inG3 rfl (by decide) rfl q643 (by decide) rfl e1 hd kk
theorem p3_39 (E : EN p s m args meth c D cy RX3 cc nL ret "<init>") {o : Option Nat} {v : Option Nat} {A' : AH} (e1 : pR A 4 100 o v = some A') (hd : decode cc pc = .ok (.putfield 39, 3)) (kk : V p l e R s m args below meth c Q base D cy nL (pc + 3) lv st A' k n) : V p l e R s m args below meth c Q base D cy nL pc lv (vR v :: vR o :: st) A k n := v_pR E (ci := 3) (kf := 4) tyX3 rfl inG3 tyX3_ok nmX3 rfl (by decide) rfl q643 (by decide) (Or.inr ⟨rfl, rfl, rfl⟩) rfl (by decide +kernel : parseFieldDescriptor (TX3 4).2.2.1 = some (tyX3 4)) (Or.inr ⟨_, rfl⟩) e1 hd kk
theorem q644 : Cond.fieldLink RX3 42 RX3 (TX3 5).2.1 (TX3 5).2.2.1 ∈ lw_g := in_g (List.mem_of_getElem? (i := 644) (by decide +kernel)) (by decide +kernel)
theorem g3_42 (E : EN p s m args meth c D cy RX3 cc nL ret nm) {o : Option Nat} {v : Option Nat} (e1 : gR A 4 101 o = some v) (hd : decode cc pc = .ok (.getfield 42, 3)) (kk : V p l e R s m args below meth c Q base D cy nL (pc + 3) lv (vR v :: st) A k n) : V p l e R s m args below meth c Q base D cy nL pc lv (vR o :: st) A k n := v_gR E (ci := 3) (kf := 5) rfl inG3 rfl (by decide) rfl q644 (by decide) rfl e1 hd kk
theorem p3_42 (E : EN p s m args meth c D cy RX3 cc nL ret "<init>") {o : Option Nat} {v : Option Nat} {A' : AH} (e1 : pR A 4 101 o v = some A') (hd : decode cc pc = .ok (.putfield 42, 3)) (kk : V p l e R s m args below meth c Q base D cy nL (pc + 3) lv st A' k n) : V p l e R s m args below meth c Q base D cy nL pc lv (vR v :: vR o :: st) A k n := v_pR E (ci := 3) (kf := 5) tyX3 rfl inG3 tyX3_ok nmX3 rfl (by decide) rfl q644 (by decide) (Or.inr ⟨rfl, rfl, rfl⟩) rfl (by decide +kernel : parseFieldDescriptor (TX3 5).2.2.1 = some (tyX3 5)) (Or.inr ⟨_, rfl⟩) e1 hd kk
theorem q645 : Cond.fieldLink RX3 45 RX3 (TX3 6).2.1 (TX3 6).2.2.1 ∈ lw_g := in_g (List.mem_of_getElem? (i := 645) (by decide +kernel)) (by decide +kernel)
theorem g3_45 (E : EN p s m args meth c D cy RX3 cc nL ret nm) {o : Option Nat} {v : Option Nat} (e1 : gR A 4 102 o = some v) (hd : decode cc pc = .ok (.getfield 45, 3)) (kk : V p l e R s m args below meth c Q base D cy nL (pc + 3) lv (vR v :: st) A k n) : V p l e R s m args below meth c Q base D cy nL pc lv (vR o :: st) A k n := v_gR E (ci := 3) (kf := 6) rfl inG3 rfl (by decide) rfl q645 (by decide) rfl e1 hd kk
theorem p3_45 (E : EN p s m args meth c D cy RX3 cc nL ret "<init>") {o : Option Nat} {v : Option Nat} {A' : AH} (e1 : pR A 4 102 o v = some A') (hd : decode cc pc = .ok (.putfield 45, 3)) (kk : V p l e R s m args below meth c Q base D cy nL (pc + 3) lv st A' k n) : V p l e R s m args below meth c Q base D cy nL pc lv (vR v :: vR o :: st) A k n := v_pR E (ci := 3) (kf := 6) tyX3 rfl inG3 tyX3_ok nmX3 rfl (by decide) rfl q645 (by decide) (Or.inr ⟨rfl, rfl, rfl⟩) rfl (by decide +kernel : parseFieldDescriptor (TX3 6).2.2.1 = some (tyX3 6)) (Or.inr ⟨_, rfl⟩) e1 hd kk
theorem q646 : Cond.fieldLink RX3 48 RX3 (TX3 7).2.1 (TX3 7).2.2.1 ∈ lw_g := in_g (List.mem_of_getElem? (i := 646) (by decide +kernel)) (by decide +kernel)
theorem g3_48 (E : EN p s m args meth c D cy RX3 cc nL ret nm) {o : Option Nat} {v : Int32} (e1 : gI A 4 103 o = some v) (hd : decode cc pc = .ok (.getfield 48, 3)) (kk : V p l e R s m args below meth c Q base D cy nL (pc + 3) lv (vI v :: st) A k n) : V p l e R s m args below meth c Q base D cy nL pc lv (vR o :: st) A k n := v_gI E (ci := 3) (kf := 7) rfl inG3 rfl (by decide) rfl q646 (by decide) rfl e1 hd kk
theorem p3_48 (E : EN p s m args meth c D cy RX3 cc nL ret "<init>") {o : Option Nat} {v : Int32} {A' : AH} (e1 : pZ A 4 103 o v = some A') (hd : decode cc pc = .ok (.putfield 48, 3)) (kk : V p l e R s m args below meth c Q base D cy nL (pc + 3) lv st A' k n) : V p l e R s m args below meth c Q base D cy nL pc lv (vI v :: vR o :: st) A k n := v_pZ E (ci := 3) (kf := 7) tyX3 rfl inG3 tyX3_ok nmX3 rfl (by decide) rfl q646 (by decide) (Or.inr ⟨rfl, rfl, rfl⟩) rfl (by decide +kernel : parseFieldDescriptor (TX3 7).2.2.1 = some (tyX3 7)) rfl e1 hd kk
theorem q223 : Cond.fieldLink RX4 9 RX4 (TX4 0).2.1 (TX4 0).2.2.1 ∈ lw_g := in_g (List.mem_of_getElem? (i := 223) (by decide +kernel)) (by decide +kernel)
theorem g4_9 (E : EN p s m args meth c D cy RX4 cc nL ret nm) {o : Option Nat} {v : Option Nat} (e1 : gR A 5 128 o = some v) (hd : decode cc pc = .ok (.getfield 9, 3)) (kk : V p l e R s m args below meth c Q base D cy nL (pc + 3) lv (vR v :: st) A k n) : V p l e R s m args below meth c Q base D cy nL pc lv (vR o :: st) A k n := v_gR E (ci := 4) (kf := 0) rfl inG4 rfl (by decide) rfl q223 (by decide) rfl e1 hd kk
theorem p4_9 (E : EN p s m args meth c D cy RX4 cc nL ret "<init>") {o : Option Nat} {v : Option Nat} {A' : AH} (e1 : pR A 5 128 o v = some A') (hd : decode cc pc = .ok (.putfield 9, 3)) (kk : V p l e R s m args below meth c Q base D cy nL (pc + 3) lv st A' k n) : V p l e R s m args below meth c Q base D cy nL pc lv (vR v :: vR o :: st) A k n := v_pR E (ci := 4) (kf := 0) tyX4 rfl inG4 tyX4_ok nmX4 rfl (by decide) rfl q223 (by decide) (Or.inr ⟨rfl, rfl, rfl⟩) rfl (by decide +kernel : parseFieldDescriptor (TX4 0).2.2.1 = some (tyX4 0)) (Or.inr ⟨_, rfl⟩) e1 hd kk
theorem q224 : Cond.fieldLink RX4 15 RX4 (TX4 1).2.1 (TX4 1).2.2.1 ∈ lw_g := in_g (List.mem_of_getElem? (i := 224) (by decide +kernel)) (by decide +kernel)
theorem g4_15 (E : EN p s m args meth c D cy RX4 cc nL ret nm) {o : Option Nat} {v : Int32} (e1 : gI A 5 129 o = some v) (hd : decode cc pc = .ok (.getfield 15, 3)) (kk : V p l e R s m args below meth c Q base D cy nL (pc + 3) lv (vI v :: st) A k n) : V p l e R s m args below meth c Q base D cy nL pc lv (vR o :: st) A k n := v_gI E (ci := 4) (kf := 1) rfl inG4 rfl (by decide) rfl q224 (by decide) rfl e1 hd kk
theorem p4_15 (E : EN p s m args meth c D cy RX4 cc nL ret nm) {o : Option Nat} {v : Int32} {A' : AH} (e1 : pI A 5 129 o v = some A') (hd : decode cc pc = .ok (.putfield 15, 3)) (kk : V p l e R s m args below meth c Q base D cy nL (pc + 3) lv st A' k n) : V p l e R s m args below meth c Q base D cy nL pc lv (vI v :: vR o :: st) A k n := v_pI E (ci := 4) (kf := 1) tyX4 rfl inG4 tyX4_ok nmX4 rfl (by decide) rfl q224 (by decide) (Or.inl rfl) rfl (by decide +kernel : parseFieldDescriptor (TX4 1).2.2.1 = some (tyX4 1)) rfl e1 hd kk
theorem q225 : Cond.fieldLink RX4 19 RX4 (TX4 2).2.1 (TX4 2).2.2.1 ∈ lw_g := in_g (List.mem_of_getElem? (i := 225) (by decide +kernel)) (by decide +kernel)
theorem g4_19 (E : EN p s m args meth c D cy RX4 cc nL ret nm) {o : Option Nat} {v : Int32} (e1 : gI A 5 130 o = some v) (hd : decode cc pc = .ok (.getfield 19, 3)) (kk : V p l e R s m args below meth c Q base D cy nL (pc + 3) lv (vI v :: st) A k n) : V p l e R s m args below meth c Q base D cy nL pc lv (vR o :: st) A k n := v_gI E (ci := 4) (kf := 2) rfl inG4 rfl (by decide) rfl q225 (by decide) rfl e1 hd kk
theorem p4_19 (E : EN p s m args meth c D cy RX4 cc nL ret nm) {o : Option Nat} {v : Int32} {A' : AH} (e1 : pI A 5 130 o v = some A') (hd : decode cc pc = .ok (.putfield 19, 3)) (kk : V p l e R s m args below meth c Q base D cy nL (pc + 3) lv st A' k n) : V p l e R s m args below meth c Q base D cy nL pc lv (vI v :: vR o :: st) A k n := v_pI E (ci := 4) (kf := 2) tyX4 rfl inG4 tyX4_ok nmX4 rfl (by decide) rfl q225 (by decide) (Or.inl rfl) rfl (by decide +kernel : parseFieldDescriptor (TX4 2).2.2.1 = some (tyX4 2)) rfl e1 hd kk
theorem q165 : Cond.fieldLink RX5 11 RX5 (TX5 0).2.1 (TX5 0).2.2.1 ∈ lw_g := in_g (List.mem_of_getElem? (i := 165) (by decide +kernel)) (by decide +kernel)
theorem g5_11 (E : EN p s m args meth c D cy RX5 cc nL ret nm) {o : Option Nat} {v : Option Nat} (e1 : gR A 6 160 o = some v) (hd : decode cc pc = .ok (.getfield 11, 3)) (kk : V p l e R s m args below meth c Q base D cy nL (pc + 3) lv (vR v :: st) A k n) : V p l e R s m args below meth c Q base D cy nL pc lv (vR o :: st) A k n := v_gR E (ci := 5) (kf := 0) rfl inG5 rfl (by decide) rfl q165 (by decide) rfl e1 hd kk
theorem p5_11 (E : EN p s m args meth c D cy RX5 cc nL ret "<init>") {o : Option Nat} {v : Option Nat} {A' : AH} (e1 : pR A 6 160 o v = some A') (hd : decode cc pc = .ok (.putfield 11, 3)) (kk : V p l e R s m args below meth c Q base D cy nL (pc + 3) lv st A' k n) : V p l e R s m args below meth c Q base D cy nL pc lv (vR v :: vR o :: st) A k n := v_pR E (ci := 5) (kf := 0) tyX5 rfl inG5 tyX5_ok nmX5 rfl (by decide) rfl q165 (by decide) (Or.inr ⟨rfl, rfl, rfl⟩) rfl (by decide +kernel : parseFieldDescriptor (TX5 0).2.2.1 = some (tyX5 0)) (Or.inr ⟨_, rfl⟩) e1 hd kk
theorem q166 : Cond.fieldLink RX5 17 RX5 (TX5 1).2.1 (TX5 1).2.2.1 ∈ lw_g := in_g (List.mem_of_getElem? (i := 166) (by decide +kernel)) (by decide +kernel)
theorem g5_17 (E : EN p s m args meth c D cy RX5 cc nL ret nm) {o : Option Nat} {v : Int32} (e1 : gI A 6 161 o = some v) (hd : decode cc pc = .ok (.getfield 17, 3)) (kk : V p l e R s m args below meth c Q base D cy nL (pc + 3) lv (vI v :: st) A k n) : V p l e R s m args below meth c Q base D cy nL pc lv (vR o :: st) A k n := v_gI E (ci := 5) (kf := 1) rfl inG5 rfl (by decide) rfl q166 (by decide) rfl e1 hd kk
theorem p5_17 (E : EN p s m args meth c D cy RX5 cc nL ret nm) {o : Option Nat} {v : Int32} {A' : AH} (e1 : pI A 6 161 o v = some A') (hd : decode cc pc = .ok (.putfield 17, 3)) (kk : V p l e R s m args below meth c Q base D cy nL (pc + 3) lv st A' k n) : V p l e R s m args below meth c Q base D cy nL pc lv (vI v :: vR o :: st) A k n := v_pI E (ci := 5) (kf := 1) tyX5 rfl inG5 tyX5_ok nmX5 rfl (by decide) rfl q166 (by decide) (Or.inl rfl) rfl (by decide +kernel : parseFieldDescriptor (TX5 1).2.2.1 = some (tyX5 1)) rfl e1 hd kk
theorem q167 : Cond.fieldLink RX5 21 RX5 (TX5 2).2.1 (TX5 2).2.2.1 ∈ lw_g := in_g (List.mem_of_getElem? (i := 167) (by decide +kernel)) (by decide +kernel)
theorem g5_21 (E : EN p s m args meth c D cy RX5 cc nL ret nm) {o : Option Nat} {v : Int32} (e1 : gI A 6 162 o = some v) (hd : decode cc pc = .ok (.getfield 21, 3)) (kk : V p l e R s m args below meth c Q base D cy nL (pc + 3) lv (vI v :: st) A k n) : V p l e R s m args below meth c Q base D cy nL pc lv (vR o :: st) A k n := v_gI E (ci := 5) (kf := 2) rfl inG5 rfl (by decide) rfl q167 (by decide) rfl e1 hd kk
theorem p5_21 (E : EN p s m args meth c D cy RX5 cc nL ret nm) {o : Option Nat} {v : Int32} {A' : AH} (e1 : pI A 6 162 o v = some A') (hd : decode cc pc = .ok (.putfield 21, 3)) (kk : V p l e R s m args below meth c Q base D cy nL (pc + 3) lv st A' k n) : V p l e R s m args below meth c Q base D cy nL pc lv (vI v :: vR o :: st) A k n := v_pI E (ci := 5) (kf := 2) tyX5 rfl inG5 tyX5_ok nmX5 rfl (by decide) rfl q167 (by decide) (Or.inl rfl) rfl (by decide +kernel : parseFieldDescriptor (TX5 2).2.2.1 = some (tyX5 2)) rfl e1 hd kk
theorem q184 : Cond.fieldLink RX6 10 RX6 (TX6 0).2.1 (TX6 0).2.2.1 ∈ lw_g := in_g (List.mem_of_getElem? (i := 184) (by decide +kernel)) (by decide +kernel)
theorem g6_10 (E : EN p s m args meth c D cy RX6 cc nL ret nm) {o : Option Nat} {v : Option Nat} (e1 : gR A 7 192 o = some v) (hd : decode cc pc = .ok (.getfield 10, 3)) (kk : V p l e R s m args below meth c Q base D cy nL (pc + 3) lv (vR v :: st) A k n) : V p l e R s m args below meth c Q base D cy nL pc lv (vR o :: st) A k n := v_gR E (ci := 6) (kf := 0) rfl inG6 rfl (by decide) rfl q184 (by decide) rfl e1 hd kk
theorem p6_10 (E : EN p s m args meth c D cy RX6 cc nL ret "<init>") {o : Option Nat} {v : Option Nat} {A' : AH} (e1 : pR A 7 192 o v = some A') (hd : decode cc pc = .ok (.putfield 10, 3)) (kk : V p l e R s m args below meth c Q base D cy nL (pc + 3) lv st A' k n) : V p l e R s m args below meth c Q base D cy nL pc lv (vR v :: vR o :: st) A k n := v_pR E (ci := 6) (kf := 0) tyX6 rfl inG6 tyX6_ok nmX6 rfl (by decide) rfl q184 (by decide) (Or.inr ⟨rfl, rfl, rfl⟩) rfl (by decide +kernel : parseFieldDescriptor (TX6 0).2.2.1 = some (tyX6 0)) (Or.inl ⟨_, rfl⟩) e1 hd kk
theorem q185 : Cond.fieldLink RX6 16 RX6 (TX6 1).2.1 (TX6 1).2.2.1 ∈ lw_g := in_g (List.mem_of_getElem? (i := 185) (by decide +kernel)) (by decide +kernel)
theorem g6_16 (E : EN p s m args meth c D cy RX6 cc nL ret nm) {o : Option Nat} {v : Int32} (e1 : gI A 7 193 o = some v) (hd : decode cc pc = .ok (.getfield 16, 3)) (kk : V p l e R s m args below meth c Q base D cy nL (pc + 3) lv (vI v :: st) A k n) : V p l e R s m args below meth c Q base D cy nL pc lv (vR o :: st) A k n := v_gI E (ci := 6) (kf := 1) rfl inG6 rfl (by decide) rfl q185 (by decide) rfl e1 hd kk
theorem p6_16 (E : EN p s m args meth c D cy RX6 cc nL ret nm) {o : Option Nat} {v : Int32} {A' : AH} (e1 : pI A 7 193 o v = some A') (hd : decode cc pc = .ok (.putfield 16, 3)) (kk : V p l e R s m args below meth c Q base D cy nL (pc + 3) lv st A' k n) : V p l e R s m args below meth c Q base D cy nL pc lv (vI v :: vR o :: st) A k n := v_pI E (ci := 6) (kf := 1) tyX6 rfl inG6 tyX6_ok nmX6 rfl (by decide) rfl q185 (by decide) (Or.inl rfl) rfl (by decide +kernel : parseFieldDescriptor (TX6 1).2.2.1 = some (tyX6 1)) rfl e1 hd kk
theorem q186 : Cond.fieldLink RX6 20 RX6 (TX6 2).2.1 (TX6 2).2.2.1 ∈ lw_g := in_g (List.mem_of_getElem? (i := 186) (by decide +kernel)) (by decide +kernel)
theorem g6_20 (E : EN p s m args meth c D cy RX6 cc nL ret nm) {o : Option Nat} {v : Int32} (e1 : gI A 7 194 o = some v) (hd : decode cc pc = .ok (.getfield 20, 3)) (kk : V p l e R s m args below meth c Q base D cy nL (pc + 3) lv (vI v :: st) A k n) : V p l e R s m args below meth c Q base D cy nL pc lv (vR o :: st) A k n := v_gI E (ci := 6) (kf := 2) rfl inG6 rfl (by decide) rfl q186 (by decide) rfl e1 hd kk
theorem p6_20 (E : EN p s m args meth c D cy RX6 cc nL ret nm) {o : Option Nat} {v : Int32} {A' : AH} (e1 : pZ A 7 194 o v = some A') (hd : decode cc pc = .ok (.putfield 20, 3)) (kk : V p l e R s m args below meth c Q base D cy nL (pc + 3) lv st A' k n) : V p l e R s m args below meth c Q base D cy nL pc lv (vI v :: vR o :: st) A k n := v_pZ E (ci := 6) (kf := 2) tyX6 rfl inG6 tyX6_ok nmX6 rfl (by decide) rfl q186 (by decide) (Or.inl rfl) rfl (by decide +kernel : parseFieldDescriptor (TX6 2).2.2.1 = some (tyX6 2)) rfl e1 hd kk
theorem q357 : Cond.fieldLink RX7 9 RX7 (TX7 6).2.1 (TX7 6).2.2.1 ∈ lw_g := in_g (List.mem_of_getElem? (i := 357) (by decide +kernel)) (by decide +kernel)
theorem g7_9 (E : EN p s m args meth c D cy RX7 cc nL ret nm) {o : Option Nat} {v : Int32} (e1 : gI A 8 230 o = some v) (hd : decode cc pc = .ok (.getfield 9, 3)) (kk : V p l e R s m args below meth c Q base D cy nL (pc + 3) lv (vI v :: st) A k n) : V p l e R s m args below meth c Q base D cy nL pc lv (vR o :: st) A k n := v_gI E (ci := 7) (kf := 6) rfl inG7 rfl (by decide) rfl q357 (by decide) rfl e1 hd kk
theorem p7_9 (E : EN p s m args meth c D cy RX7 cc nL ret nm) {o : Option Nat} {v : Int32} {A' : AH} (e1 : pZ A 8 230 o v = some A') (hd : decode cc pc = .ok (.putfield 9, 3)) (kk : V p l e R s m args below meth c Q base D cy nL (pc + 3) lv st A' k n) : V p l e R s m args below meth c Q base D cy nL pc lv (vI v :: vR o :: st) A k n := v_pZ E (ci := 7) (kf := 6) tyX7 rfl inG7 tyX7_ok nmX7 rfl (by decide) rfl q357 (by decide) (Or.inl rfl) rfl (by decide +kernel : parseFieldDescriptor (TX7 6).2.2.1 = some (tyX7 6)) rfl e1 hd kk
theorem q358 : Cond.fieldLink RX7 15 RX7 (TX7 7).2.1 (TX7 7).2.2.1 ∈ lw_g := in_g (List.mem_of_getElem? (i := 358) (by decide +kernel)) (by decide +kernel)
theorem g7_15 (E : EN p s m args meth c D cy RX7 cc nL ret nm) {o : Option Nat} {v : Int64} (e1 : gJ A 8 231 o = some v) (hd : decode cc pc = .ok (.getfield 15, 3)) (kk : V p l e R s m args below meth c Q base D cy nL (pc + 3) lv (vJ v :: st) A k n) : V p l e R s m args below meth c Q base D cy nL pc lv (vR o :: st) A k n := v_gJ E (ci := 7) (kf := 7) rfl inG7 rfl (by decide) rfl q358 (by decide) rfl e1 hd kk
theorem p7_15 (E : EN p s m args meth c D cy RX7 cc nL ret nm) {o : Option Nat} {v : Int64} {A' : AH} (e1 : pJ A 8 231 o v = some A') (hd : decode cc pc = .ok (.putfield 15, 3)) (kk : V p l e R s m args below meth c Q base D cy nL (pc + 3) lv st A' k n) : V p l e R s m args below meth c Q base D cy nL pc lv (vJ v :: vR o :: st) A k n := v_pJ E (ci := 7) (kf := 7) tyX7 rfl inG7 tyX7_ok nmX7 rfl (by decide) rfl q358 (by decide) (Or.inl rfl) rfl (by decide +kernel : parseFieldDescriptor (TX7 7).2.2.1 = some (tyX7 7)) rfl e1 hd kk
theorem q359 : Cond.fieldLink RX7 19 RX7 (TX7 8).2.1 (TX7 8).2.2.1 ∈ lw_g := in_g (List.mem_of_getElem? (i := 359) (by decide +kernel)) (by decide +kernel)
theorem g7_19 (E : EN p s m args meth c D cy RX7 cc nL ret nm) {o : Option Nat} {v : Int32} (e1 : gI A 8 232 o = some v) (hd : decode cc pc = .ok (.getfield 19, 3)) (kk : V p l e R s m args below meth c Q base D cy nL (pc + 3) lv (vI v :: st) A k n) : V p l e R s m args below meth c Q base D cy nL pc lv (vR o :: st) A k n := v_gI E (ci := 7) (kf := 8) rfl inG7 rfl (by decide) rfl q359 (by decide) rfl e1 hd kk
theorem p7_19 (E : EN p s m args meth c D cy RX7 cc nL ret nm) {o : Option Nat} {v : Int32} {A' : AH} (e1 : pI A 8 232 o v = some A') (hd : decode cc pc = .ok (.putfield 19, 3)) (kk : V p l e R s m args below meth c Q base D cy nL (pc + 3) lv st A' k n) : V p l e R s m args below meth c Q base D cy nL pc lv (vI v :: vR o :: st) A k n := v_pI E (ci := 7) (kf := 8) tyX7 rfl inG7 tyX7_ok nmX7 rfl (by decide) rfl q359 (by decide) (Or.inl rfl) rfl (by decide +kernel : parseFieldDescriptor (TX7 8).2.2.1 = some (tyX7 8)) rfl e1 hd kk
theorem q360 : Cond.fieldLink RX7 23 RX7 (TX7 9).2.1 (TX7 9).2.2.1 ∈ lw_g := in_g (List.mem_of_getElem? (i := 360) (by decide +kernel)) (by decide +kernel)
theorem g7_23 (E : EN p s m args meth c D cy RX7 cc nL ret nm) {o : Option Nat} {v : Int32} (e1 : gI A 8 233 o = some v) (hd : decode cc pc = .ok (.getfield 23, 3)) (kk : V p l e R s m args below meth c Q base D cy nL (pc + 3) lv (vI v :: st) A k n) : V p l e R s m args below meth c Q base D cy nL pc lv (vR o :: st) A k n := v_gI E (ci := 7) (kf := 9) rfl inG7 rfl (by decide) rfl q360 (by decide) rfl e1 hd kk
theorem p7_23 (E : EN p s m args meth c D cy RX7 cc nL ret nm) {o : Option Nat} {v : Int32} {A' : AH} (e1 : pZ A 8 233 o v = some A') (hd : decode cc pc = .ok (.putfield 23, 3)) (kk : V p l e R s m args below meth c Q base D cy nL (pc + 3) lv st A' k n) : V p l e R s m args below meth c Q base D cy nL pc lv (vI v :: vR o :: st) A k n := v_pZ E (ci := 7) (kf := 9) tyX7 rfl inG7 tyX7_ok nmX7 rfl (by decide) rfl q360 (by decide) (Or.inl rfl) rfl (by decide +kernel : parseFieldDescriptor (TX7 9).2.2.1 = some (tyX7 9)) rfl e1 hd kk
theorem q361 : Cond.fieldLink RX7 26 RX7 (TX7 10).2.1 (TX7 10).2.2.1 ∈ lw_g := in_g (List.mem_of_getElem? (i := 361) (by decide +kernel)) (by decide +kernel)
theorem g7_26 (E : EN p s m args meth c D cy RX7 cc nL ret nm) {o : Option Nat} {v : Int32} (e1 : gI A 8 234 o = some v) (hd : decode cc pc = .ok (.getfield 26, 3)) (kk : V p l e R s m args below meth c Q base D cy nL (pc + 3) lv (vI v :: st) A k n) : V p l e R s m args below meth c Q base D cy nL pc lv (vR o :: st) A k n := v_gI E (ci := 7) (kf := 10) rfl inG7 rfl (by decide) rfl q361 (by decide) rfl e1 hd kk
theorem p7_26 (E : EN p s m args meth c D cy RX7 cc nL ret nm) {o : Option Nat} {v : Int32} {A' : AH} (e1 : pI A 8 234 o v = some A') (hd : decode cc pc = .ok (.putfield 26, 3)) (kk : V p l e R s m args below meth c Q base D cy nL (pc + 3) lv st A' k n) : V p l e R s m args below meth c Q base D cy nL pc lv (vI v :: vR o :: st) A k n := v_pI E (ci := 7) (kf := 10) tyX7 rfl inG7 tyX7_ok nmX7 rfl (by decide) rfl q361 (by decide) (Or.inl rfl) rfl (by decide +kernel : parseFieldDescriptor (TX7 10).2.2.1 = some (tyX7 10)) rfl e1 hd kk
theorem q362 : Cond.fieldLink RX7 29 RX7 (TX7 11).2.1 (TX7 11).2.2.1 ∈ lw_g := in_g (List.mem_of_getElem? (i := 362) (by decide +kernel)) (by decide +kernel)
theorem g7_29 (E : EN p s m args meth c D cy RX7 cc nL ret nm) {o : Option Nat} {v : Int32} (e1 : gI A 8 235 o = some v) (hd : decode cc pc = .ok (.getfield 29, 3)) (kk : V p l e R s m args below meth c Q base D cy nL (pc + 3) lv (vI v :: st) A k n) : V p l e R s m args below meth c Q base D cy nL pc lv (vR o :: st) A k n := v_gI E (ci := 7) (kf := 11) rfl inG7 rfl (by decide) rfl q362 (by decide) rfl e1 hd kk
theorem p7_29 (E : EN p s m args meth c D cy RX7 cc nL ret nm) {o : Option Nat} {v : Int32} {A' : AH} (e1 : pI A 8 235 o v = some A') (hd : decode cc pc = .ok (.putfield 29, 3)) (kk : V p l e R s m args below meth c Q base D cy nL (pc + 3) lv st A' k n) : V p l e R s m args below meth c Q base D cy nL pc lv (vI v :: vR o :: st) A k n := v_pI E (ci := 7) (kf := 11) tyX7 rfl inG7 tyX7_ok nmX7 rfl (by decide) rfl q362 (by decide) (Or.inl rfl) rfl (by decide +kernel : parseFieldDescriptor (TX7 11).2.2.1 = some (tyX7 11)) rfl e1 hd kk
theorem q363 : Cond.fieldLink RX7 32 RX7 (TX7 12).2.1 (TX7 12).2.2.1 ∈ lw_g := in_g (List.mem_of_getElem? (i := 363) (by decide +kernel)) (by decide +kernel)
theorem g7_32 (E : EN p s m args meth c D cy RX7 cc nL ret nm) {o : Option Nat} {v : Int32} (e1 : gI A 8 236 o = some v) (hd : decode cc pc = .ok (.getfield 32, 3)) (kk : V p l e R s m args below meth c Q base D cy nL (pc + 3) lv (vI v :: st) A k n) : V p l e R s m args below meth c Q base D cy nL pc lv (vR o :: st) A k n := v_gI E (ci := 7) (kf := 12) rfl inG7 rfl (by decide) rfl q363 (by decide) rfl e1 hd kk
theorem p7_32 (E : EN p s m args meth c D cy RX7 cc nL ret nm) {o : Option Nat} {v : Int32} {A' : AH} (e1 : pZ A 8 236 o v = some A') (hd : decode cc pc = .ok (.putfield 32, 3)) (kk : V p l e R s m args below meth c Q base D cy nL (pc + 3) lv st A' k n) : V p l e R s m args below meth c Q base D cy nL pc lv (vI v :: vR o :: st) A k n := v_pZ E (ci := 7) (kf := 12) tyX7 rfl inG7 tyX7_ok nmX7 rfl (by decide) rfl q363 (by decide) (Or.inl rfl) rfl (by decide +kernel : parseFieldDescriptor (TX7 12).2.2.1 = some (tyX7 12)) rfl e1 hd kk
theorem q364 : Cond.fieldLink RX7 35 RX7 (TX7 13).2.1 (TX7 13).2.2.1 ∈ lw_g := in_g (List.mem_of_getElem? (i := 364) (by decide +kernel)) (by decide +kernel)
theorem g7_35 (E : EN p s m args meth c D cy RX7 cc nL ret nm) {o : Option Nat} {v : Option Nat} (e1 : gR A 8 237 o = some v) (hd : decode cc pc = .ok (.getfield 35, 3)) (kk : V p l e R s m args below meth c Q base D cy nL (pc + 3) lv (vR v :: st) A k n) : V p l e R s m args below meth c Q base D cy nL pc lv (vR o :: st) A k n := v_gR E (ci := 7) (kf := 13) rfl inG7 rfl (by decide) rfl q364 (by decide) rfl e1 hd kk
theorem p7_35 (E : EN p s m args meth c D cy RX7 cc nL ret "<init>") {o : Option Nat} {v : Option Nat} {A' : AH} (e1 : pR A 8 237 o v = some A') (hd : decode cc pc = .ok (.putfield 35, 3)) (kk : V p l e R s m args below meth c Q base D cy nL (pc + 3) lv st A' k n) : V p l e R s m args below meth c Q base D cy nL pc lv (vR v :: vR o :: st) A k n := v_pR E (ci := 7) (kf := 13) tyX7 rfl inG7 tyX7_ok nmX7 rfl (by decide) rfl q364 (by decide) (Or.inr ⟨rfl, rfl, rfl⟩) rfl (by decide +kernel : parseFieldDescriptor (TX7 13).2.2.1 = some (tyX7 13)) (Or.inr ⟨_, rfl⟩) e1 hd kk
theorem q351 : Cond.fieldLink RX7 45 RX7 (TX7 0).2.1 (TX7 0).2.2.1 ∈ lw_g := in_g (List.mem_of_getElem? (i := 351) (by decide +kernel)) (by decide +kernel)
theorem g7_45 (E : EN p s m args meth c D cy RX7 cc nL ret nm) {o : Option Nat} {v : Int32} (e1 : gI A 8 224 o = some v) (hd : decode cc pc = .ok (.getfield 45, 3)) (kk : V p l e R s m args below meth c Q base D cy nL (pc + 3) lv (vI v :: st) A k n) : V p l e R s m args below meth c Q base D cy nL pc lv (vR o :: st) A k n := v_gI E (ci := 7) (kf := 0) rfl inG7 rfl (by decide) rfl q351 (by decide) rfl e1 hd kk
theorem p7_45 (E : EN p s m args meth c D cy RX7 cc nL ret "<init>") {o : Option Nat} {v : Int32} {A' : AH} (e1 : pI A 8 224 o v = some A') (hd : decode cc pc = .ok (.putfield 45, 3)) (kk : V p l e R s m args below meth c Q base D cy nL (pc + 3) lv st A' k n) : V p l e R s m args below meth c Q base D cy nL pc lv (vI v :: vR o :: st) A k n := v_pI E (ci := 7) (kf := 0) tyX7 rfl inG7 tyX7_ok nmX7 rfl (by decide) rfl q351 (by decide) (Or.inr ⟨rfl, rfl, rfl⟩) rfl (by decide +kernel : parseFieldDescriptor (TX7 0).2.2.1 = some (tyX7 0)) rfl e1 hd kk
theorem q352 : Cond.fieldLink RX7 48 RX7 (TX7 1).2.1 (TX7 1).2.2.1 ∈ lw_g := in_g (List.mem_of_getElem? (i := 352) (by decide +kernel)) (by decide +kernel)
theorem g7_48 (E : EN p s m args meth c D cy RX7 cc nL ret nm) {o : Option Nat} {v : Int32} (e1 : gI A 8 225 o = some v) (hd : decode cc pc = .ok (.getfield 48, 3)) (kk : V p l e R s m args below meth c Q base D cy nL (pc + 3) lv (vI v :: st) A k n) : V p l e R s m args below meth c Q base D cy nL pc lv (vR o :: st) A k n := v_gI E (ci := 7) (kf := 1) rfl inG7 rfl (by decide) rfl q352 (by decide) rfl e1 hd kk
theorem p7_48 (E : EN p s m args meth c D cy RX7 cc nL ret "<init>") {o : Option Nat} {v : Int32} {A' : AH} (e1 : pI A 8 225 o v = some A') (hd : decode cc pc = .ok (.putfield 48, 3)) (kk : V p l e R s m args below meth c Q base D cy nL (pc + 3) lv st A' k n) : V p l e R s m args below meth c Q base D cy nL pc lv (vI v :: vR o :: st) A k n := v_pI E (ci := 7) (kf := 1) tyX7 rfl inG7 tyX7_ok nmX7 rfl (by decide) rfl q352 (by decide) (Or.inr ⟨rfl, rfl, rfl⟩) rfl (by decide +kernel : parseFieldDescriptor (TX7 1).2.2.1 = some (tyX7 1)) rfl e1 hd kk
theorem q353 : Cond.fieldLink RX7 51 RX7 (TX7 2).2.1 (TX7 2).2.2.1 ∈ lw_g := in_g (List.mem_of_getElem? (i := 353) (by decide +kernel)) (by decide +kernel)
theorem g7_51 (E : EN p s m args meth c D cy RX7 cc nL ret nm) {o : Option Nat} {v : Option Nat} (e1 : gR A 8 226 o = some v) (hd : decode cc pc = .ok (.getfield 51, 3)) (kk : V p l e R s m args below meth c Q base D cy nL (pc + 3) lv (vR v :: st) A k n) : V p l e R s m args below meth c Q base D cy nL pc lv (vR o :: st) A k n := v_gR E (ci := 7) (kf := 2) rfl inG7 rfl (by decide) rfl q353 (by decide) rfl e1 hd kk
theorem p7_51 (E : EN p s m args meth c D cy RX7 cc nL ret "<init>") {o : Option Nat} {v : Option Nat} {A' : AH} (e1 : pR A 8 226 o v = some A') (hd : decode cc pc = .ok (.putfield 51, 3)) (kk : V p l e R s m args below meth c Q base D cy nL (pc + 3) lv st A' k n) : V p l e R s m args below meth c Q base D cy nL pc lv (vR v :: vR o :: st) A k n := v_pR E (ci := 7) (kf := 2) tyX7 rfl inG7 tyX7_ok nmX7 rfl (by decide) rfl q353 (by decide) (Or.inr ⟨rfl, rfl, rfl⟩) rfl (by decide +kernel : parseFieldDescriptor (TX7 2).2.2.1 = some (tyX7 2)) (Or.inr ⟨_, rfl⟩) e1 hd kk
theorem q354 : Cond.fieldLink RX7 54 RX7 (TX7 3).2.1 (TX7 3).2.2.1 ∈ lw_g := in_g (List.mem_of_getElem? (i := 354) (by decide +kernel)) (by decide +kernel)
theorem g7_54 (E : EN p s m args meth c D cy RX7 cc nL ret nm) {o : Option Nat} {v : Option Nat} (e1 : gR A 8 227 o = some v) (hd : decode cc pc = .ok (.getfield 54, 3)) (kk : V p l e R s m args below meth c Q base D cy nL (pc + 3) lv (vR v :: st) A k n) : V p l e R s m args below meth c Q base D cy nL pc lv (vR o :: st) A k n := v_gR E (ci := 7) (kf := 3) rfl inG7 rfl (by decide) rfl q354 (by decide) rfl e1 hd kk
theorem p7_54 (E : EN p s m args meth c D cy RX7 cc nL ret "<init>") {o : Option Nat} {v : Option Nat} {A' : AH} (e1 : pR A 8 227 o v = some A') (hd : decode cc pc = .ok (.putfield 54, 3)) (kk : V p l e R s m args below meth c Q base D cy nL (pc + 3) lv st A' k n) : V p l e R s m args below meth c Q base D cy nL pc lv (vR v :: vR o :: st) A k n := v_pR E (ci := 7) (kf := 3) tyX7 rfl inG7 tyX7_ok nmX7 rfl (by decide) rfl q354 (by decide) (Or.inr ⟨rfl, rfl, rfl⟩) rfl (by decide +kernel : parseFieldDescriptor (TX7 3).2.2.1 = some (tyX7 3)) (Or.inr ⟨_, rfl⟩) e1 hd kk
theorem q355 : Cond.fieldLink RX7 57 RX7 (TX7 4).2.1 (TX7 4).2.2.1 ∈ lw_g := in_g (List.mem_of_getElem? (i := 355) (by decide +kernel)) (by decide +kernel)
theorem g7_57 (E : EN p s m args meth c D cy RX7 cc nL ret nm) {o : Option Nat} {v : Option Nat} (e1 : gR A 8 228 o = some v) (hd : decode cc pc = .ok (.getfield 57, 3)) (kk : V p l e R s m args below meth c Q base D cy nL (pc + 3) lv (vR v :: st) A k n) : V p l e R s m args below meth c Q base D cy nL pc lv (vR o :: st) A k n := v_gR E (ci := 7) (kf := 4) rfl inG7 rfl (by decide) rfl q355 (by decide) rfl e1 hd kk
theorem p7_57 (E : EN p s m args meth c D cy RX7 cc nL ret "<init>") {o : Option Nat} {v : Option Nat} {A' : AH} (e1 : pR A 8 228 o v = some A') (hd : decode cc pc = .ok (.putfield 57, 3)) (kk : V p l e R s m args below meth c Q base D cy nL (pc + 3) lv st A' k n) : V p l e R s m args below meth c Q base D cy nL pc lv (vR v :: vR o :: st) A k n := v_pR E (ci := 7) (kf := 4) tyX7 rfl inG7 tyX7_ok nmX7 rfl (by decide) rfl q355 (by decide) (Or.inr ⟨rfl, rfl, rfl⟩) rfl (by decide +kernel : parseFieldDescriptor (TX7 4).2.2.1 = some (tyX7 4)) (Or.inr ⟨_, rfl⟩) e1 hd kk
theorem q356 : Cond.fieldLink RX7 60 RX7 (TX7 5).2.1 (TX7 5).2.2.1 ∈ lw_g := in_g (List.mem_of_getElem? (i := 356) (by decide +kernel)) (by decide +kernel)
theorem g7_60 (E : EN p s m args meth c D cy RX7 cc nL ret nm) {o : Option Nat} {v : Option Nat} (e1 : gR A 8 229 o = some v) (hd : decode cc pc = .ok (.getfield 60, 3)) (kk : V p l e R s m args below meth c Q base D cy nL (pc + 3) lv (vR v :: st) A k n) : V p l e R s m args below meth c Q base D cy nL pc lv (vR o :: st) A k n := v_gR E (ci := 7) (kf := 5) rfl inG7 rfl (by decide) rfl q356 (by decide) rfl e1 hd kk
theorem p7_60 (E : EN p s m args meth c D cy RX7 cc nL ret "<init>") {o : Option Nat} {v : Option Nat} {A' : AH} (e1 : pR A 8 229 o v = some A') (hd : decode cc pc = .ok (.putfield 60, 3)) (kk : V p l e R s m args below meth c Q base D cy nL (pc + 3) lv st A' k n) : V p l e R s m args below meth c Q base D cy nL pc lv (vR v :: vR o :: st) A k n := v_pR E (ci := 7) (kf := 5) tyX7 rfl inG7 tyX7_ok nmX7 rfl (by decide) rfl q356 (by decide) (Or.inr ⟨rfl, rfl, rfl⟩) rfl (by decide +kernel : parseFieldDescriptor (TX7 5).2.2.1 = some (tyX7 5)) (Or.inr ⟨_, rfl⟩) e1 hd kk
theorem q117 : Cond.fieldLink RX8 11 RX8 (TX8 0).2.1 (TX8 0).2.2.1 ∈ lw_g := in_g (List.mem_of_getElem? (i := 117) (by decide +kernel)) (by decide +kernel)
theorem g8_11 (E : EN p s m args meth c D cy RX8 cc nL ret nm) {o : Option Nat} {v : Option Nat} (e1 : gR A 9 256 o = some v) (hd : decode cc pc = .ok (.getfield 11, 3)) (kk : V p l e R s m args below meth c Q base D cy nL (pc + 3) lv (vR v :: st) A k n) : V p l e R s m args below meth c Q base D cy nL pc lv (vR o :: st) A k n := v_gR E (ci := 8) (kf := 0) rfl inG8 rfl (by decide) rfl q117 (by decide) rfl e1 hd kk
theorem p8_11 (E : EN p s m args meth c D cy RX8 cc nL ret "<init>") {o : Option Nat} {v : Option Nat} {A' : AH} (e1 : pR A 9 256 o v = some A') (hd : decode cc pc = .ok (.putfield 11, 3)) (kk : V p l e R s m args below meth c Q base D cy nL (pc + 3) lv st A' k n) : V p l e R s m args below meth c Q base D cy nL pc lv (vR v :: vR o :: st) A k n := v_pR E (ci := 8) (kf := 0) tyX8 rfl inG8 tyX8_ok nmX8 rfl (by decide) rfl q117 (by decide) (Or.inr ⟨rfl, rfl, rfl⟩) rfl (by decide +kernel : parseFieldDescriptor (TX8 0).2.2.1 = some (tyX8 0)) (Or.inr ⟨_, rfl⟩) e1 hd kk
theorem q118 : Cond.fieldLink RX8 17 RX8 (TX8 1).2.1 (TX8 1).2.2.1 ∈ lw_g := in_g (List.mem_of_getElem? (i := 118) (by decide +kernel)) (by decide +kernel)
theorem g8_17 (E : EN p s m args meth c D cy RX8 cc nL ret nm) {o : Option Nat} {v : Int32} (e1 : gI A 9 257 o = some v) (hd : decode cc pc = .ok (.getfield 17, 3)) (kk : V p l e R s m args below meth c Q base D cy nL (pc + 3) lv (vI v :: st) A k n) : V p l e R s m args below meth c Q base D cy nL pc lv (vR o :: st) A k n := v_gI E (ci := 8) (kf := 1) rfl inG8 rfl (by decide) rfl q118 (by decide) rfl e1 hd kk
theorem p8_17 (E : EN p s m args meth c D cy RX8 cc nL ret nm) {o : Option Nat} {v : Int32} {A' : AH} (e1 : pI A 9 257 o v = some A') (hd : decode cc pc = .ok (.putfield 17, 3)) (kk : V p l e R s m args below meth c Q base D cy nL (pc + 3) lv st A' k n) : V p l e R s m args below meth c Q base D cy nL pc lv (vI v :: vR o :: st) A k n := v_pI E (ci := 8) (kf := 1) tyX8 rfl inG8 tyX8_ok nmX8 rfl (by decide) rfl q118 (by decide) (Or.inl rfl) rfl (by decide +kernel : parseFieldDescriptor (TX8 1).2.2.1 = some (tyX8 1)) rfl e1 hd kk
theorem q130 : Cond.fieldLink RX9 9 RX9 (TX9 0).2.1 (TX9 0).2.2.1 ∈ lw_g := in_g (List.mem_of_getElem? (i := 130) (by decide +kernel)) (by decide +kernel)
theorem g9_9 (E : EN p s m args meth c D cy RX9 cc nL ret nm) {o : Option Nat} {v : Option Nat} (e1 : gR A 10 288 o = some v) (hd : decode cc pc = .ok (.getfield 9, 3)) (kk : V p l e R s m args below meth c Q base D cy nL (pc + 3) lv (vR v :: st) A k n) : V p l e R s m args below meth c Q base D cy nL pc lv (vR o :: st) A k n := v_gR E (ci := 9) (kf := 0) rfl inG9 rfl (by decide) rfl q130 (by decide) rfl e1 hd kk
theorem p9_9 (E : EN p s m args meth c D cy RX9 cc nL ret "<init>") {o : Option Nat} {v : Option Nat} {A' : AH} (e1 : pR A 10 288 o v = some A') (hd : decode cc pc = .ok (.putfield 9, 3)) (kk : V p l e R s m args below meth c Q base D cy nL (pc + 3) lv st A' k n) : V p l e R s m args below meth c Q base D cy nL pc lv (vR v :: vR o :: st) A k n := v_pR E (ci := 9) (kf := 0) tyX9 rfl inG9 tyX9_ok nmX9 rfl (by decide) rfl q130 (by decide) (Or.inr ⟨rfl, rfl, rfl⟩) rfl (by decide +kernel : parseFieldDescriptor (TX9 0).2.2.1 = some (tyX9 0)) (Or.inr ⟨_, rfl⟩) e1 hd kk
theorem q131 : Cond.fieldLink RX9 15 RX9 (TX9 1).2.1 (TX9 1).2.2.1 ∈ lw_g := in_g (List.mem_of_getElem? (i := 131) (by decide +kernel)) (by decide +kernel)
theorem g9_15 (E : EN p s m args meth c D cy RX9 cc nL ret nm) {o : Option Nat} {v : Int32} (e1 : gI A 10 289 o = some v) (hd : decode cc pc = .ok (.getfield 15, 3)) (kk : V p l e R s m args below meth c Q base D cy nL (pc + 3) lv (vI v :: st) A k n) : V p l e R s m args below meth c Q base D cy nL pc lv (vR o :: st) A k n := v_gI E (ci := 9) (kf := 1) rfl inG9 rfl (by decide) rfl q131 (by decide) rfl e1 hd kk
theorem p9_15 (E : EN p s m args meth c D cy RX9 cc nL ret nm) {o : Option Nat} {v : Int32} {A' : AH} (e1 : pI A 10 289 o v = some A') (hd : decode cc pc = .ok (.putfield 15, 3)) (kk : V p l e R s m args below meth c Q base D cy nL (pc + 3) lv st A' k n) : V p l e R s m args below meth c Q base D cy nL pc lv (vI v :: vR o :: st) A k n := v_pI E (ci := 9) (kf := 1) tyX9 rfl inG9 tyX9_ok nmX9 rfl (by decide) rfl q131 (by decide) (Or.inl rfl) rfl (by decide +kernel : parseFieldDescriptor (TX9 1).2.2.1 = some (tyX9 1)) rfl e1 hd kk
theorem q132 : Cond.fieldLink RX9 19 RX9 (TX9 2).2.1 (TX9 2).2.2.1 ∈ lw_g := in_g (List.mem_of_getElem? (i := 132) (by decide +kernel)) (by decide +kernel)
theorem g9_19 (E : EN p s m args meth c D cy RX9 cc nL ret nm) {o : Option Nat} {v : Int32} (e1 : gI A 10 290 o = some v) (hd : decode cc pc = .ok (.getfield 19, 3)) (kk : V p l e R s m args below meth c Q base D cy nL (pc + 3) lv (vI v :: st) A k n) : V p l e R s m args below meth c Q base D cy nL pc lv (vR o :: st) A k n := v_gI E (ci := 9) (kf := 2) rfl inG9 rfl (by decide) rfl q132 (by decide) rfl e1 hd kk
theorem p9_19 (E : EN p s m args meth c D cy RX9 cc nL ret nm) {o : Option Nat} {v : Int32} {A' : AH} (e1 : pI A 10 290 o v = some A') (hd : decode cc pc = .ok (.putfield 19, 3)) (kk : V p l e R s m args below meth c Q base D cy nL (pc + 3) lv st A' k n) : V p l e R s m args below meth c Q base D cy nL pc lv (vI v :: vR o :: st) A k n := v_pI E (ci := 9) (kf := 2) tyX9 rfl inG9 tyX9_ok nmX9 rfl (by decide) rfl q132 (by decide) (Or.inl rfl) rfl (by decide +kernel : parseFieldDescriptor (TX9 2).2.2.1 = some (tyX9 2)) rfl e1 hd kk
theorem q400 : Cond.fieldLink RX10 7 RX10 (TX10 2).2.1 (TX10 2).2.2.1 ∈ lw_g := in_g (List.mem_of_getElem? (i := 400) (by decide +kernel)) (by decide +kernel)
theorem g10_7 (E : EN p s m args meth c D cy RX10 cc nL ret nm) {o : Option Nat} {v : Option Nat} (e1 : gR A 11 322 o = some v) (hd : decode cc pc = .ok (.getfield 7, 3)) (kk : V p l e R s m args below meth c Q base D cy nL (pc + 3) lv (vR v :: st) A k n) : V p l e R s m args below meth c Q base D cy nL pc lv (vR o :: st) A k n := v_gR E (ci := 10) (kf := 2) rfl inG10 rfl (by decide) rfl q400 (by decide) rfl e1 hd kk
theorem p10_7 (E : EN p s m args meth c D cy RX10 cc nL ret nm) {o : Option Nat} {v : Option Nat} {A' : AH} (e1 : pR A 11 322 o v = some A') (hd : decode cc pc = .ok (.putfield 7, 3)) (kk : V p l e R s m args below meth c Q base D cy nL (pc + 3) lv st A' k n) : V p l e R s m args below meth c Q base D cy nL pc lv (vR v :: vR o :: st) A k n := v_pR E (ci := 10) (kf := 2) tyX10 rfl inG10 tyX10_ok nmX10 rfl (by decide) rfl q400 (by decide) (Or.inl rfl) rfl (by decide +kernel : parseFieldDescriptor (TX10 2).2.2.1 = some (tyX10 2)) (Or.inl ⟨_, rfl⟩) e1 hd kk
theorem q398 : Cond.fieldLink RX10 13 RX10 (TX10 0).2.1 (TX10 0).2.2.1 ∈ lw_g := in_g (List.mem_of_getElem? (i := 398) (by decide +kernel)) (by decide +kernel)
theorem g10_13 (E : EN p s m args meth c D cy RX10 cc nL ret nm) {o : Option Nat} {v : Option Nat} (e1 : gR A 11 320 o = some v) (hd : decode cc pc = .ok (.getfield 13, 3)) (kk : V p l e R s m args below meth c Q base D cy nL (pc + 3) lv (vR v :: st) A k n) : V p l e R s m args below meth c Q base D cy nL pc lv (vR o :: st) A k n := v_gR E (ci := 10) (kf := 0) rfl inG10 rfl (by decide) rfl q398 (by decide) rfl e1 hd kk
theorem p10_13 (E : EN p s m args meth c D cy RX10 cc nL ret "<init>") {o : Option Nat} {v : Option Nat} {A' : AH} (e1 : pR A 11 320 o v = some A') (hd : decode cc pc = .ok (.putfield 13, 3)) (kk : V p l e R s m args below meth c Q base D cy nL (pc + 3) lv st A' k n) : V p l e R s m args below meth c Q base D cy nL pc lv (vR v :: vR o :: st) A k n := v_pR E (ci := 10) (kf := 0) tyX10 rfl inG10 tyX10_ok nmX10 rfl (by decide) rfl q398 (by decide) (Or.inr ⟨rfl, rfl, rfl⟩) rfl (by decide +kernel : parseFieldDescriptor (TX10 0).2.2.1 = some (tyX10 0)) (Or.inl ⟨_, rfl⟩) e1 hd kk
theorem q399 : Cond.fieldLink RX10 17 RX10 (TX10 1).2.1 (TX10 1).2.2.1 ∈ lw_g := in_g (List.mem_of_getElem? (i := 399) (by decide +kernel)) (by decide +kernel)
theorem g10_17 (E : EN p s m args meth c D cy RX10 cc nL ret nm) {o : Option Nat} {v : Int32} (e1 : gI A 11 321 o = some v) (hd : decode cc pc = .ok (.getfield 17, 3)) (kk : V p l e R s m args below meth c Q base D cy nL (pc + 3) lv (vI v :: st) A k n) : V p l e R s m args below meth c Q base D cy nL pc lv (vR o :: st) A k n := v_gI E (ci := 10) (kf := 1) rfl inG10 rfl (by decide) rfl q399 (by decide) rfl e1 hd kk
theorem p10_17 (E : EN p s m args meth c D cy RX10 cc nL ret "<init>") {o : Option Nat} {v : Int32} {A' : AH} (e1 : pI A 11 321 o v = some A') (hd : decode cc pc = .ok (.putfield 17, 3)) (kk : V p l e R s m args below meth c Q base D cy nL (pc + 3) lv st A' k n) : V p l e R s m args below meth c Q base D cy nL pc lv (vI v :: vR o :: st) A k n := v_pI E (ci := 10) (kf := 1) tyX10 rfl inG10 tyX10_ok nmX10 rfl (by decide) rfl q399 (by decide) (Or.inr ⟨rfl, rfl, rfl⟩) rfl (by decide +kernel : parseFieldDescriptor (TX10 1).2.2.1 = some (tyX10 1)) rfl e1 hd kk
theorem q1023 : Cond.fieldLink RX12 7 RX12 (TX12 0).2.1 (TX12 0).2.2.1 ∈ lw_g := in_g (List.mem_of_getElem? (i := 1023) (by decide +kernel)) (by decide +kernel)
theorem g12_7 (E : EN p s m args meth c D cy RX12 cc nL ret nm) {o : Option Nat} {v : Option Nat} (e1 : gR A 13 384 o = some v) (hd : decode cc pc = .ok (.getfield 7, 3)) (kk : V p l e R s m args below meth c Q base D cy nL (pc + 3) lv (vR v :: st) A k n) : V p l e R s m args below meth c Q base D cy nL pc lv (vR o :: st) A k n := v_gR E (ci := 12) (kf := 0) rfl inG12 rfl (by decide) rfl q1023 (by decide) rfl e1 hd kk
theorem p12_7 (E : EN p s m args meth c D cy RX12 cc nL ret "<init>") {o : Option Nat} {v : Option Nat} {A' : AH} (e1 : pR A 13 384 o v = some A') (hd : decode cc pc = .ok (.putfield 7, 3)) (kk : V p l e R s m args below meth c Q base D cy nL (pc + 3) lv st A' k n) : V p l e R s m args below meth c Q base D cy nL pc lv (vR v :: vR o :: st) A k n := v_pR E (ci := 12) (kf := 0) tyX12 rfl inG12 tyX12_ok nmX12 rfl (by decide) rfl q1023 (by decide) (Or.inr ⟨rfl, rfl, rfl⟩) rfl (by decide +kernel : parseFieldDescriptor (TX12 0).2.2.1 = some (tyX12 0)) (Or.inr ⟨_, rfl⟩) e1 hd kk
theorem q1024 : Cond.fieldLink RX12 13 RX12 (TX12 1).2.1 (TX12 1).2.2.1 ∈ lw_g := in_g (List.mem_of_getElem? (i := 1024) (by decide +kernel)) (by decide +kernel)
theorem g12_13 (E : EN p s m args meth c D cy RX12 cc nL ret nm) {o : Option Nat} {v : Option Nat} (e1 : gR A 13 385 o = some v) (hd : decode cc pc = .ok (.getfield 13, 3)) (kk : V p l e R s m args below meth c Q base D cy nL (pc + 3) lv (vR v :: st) A k n) : V p l e R s m args below meth c Q base D cy nL pc lv (vR o :: st) A k n := v_gR E (ci := 12) (kf := 1) rfl inG12 rfl (by decide) rfl q1024 (by decide) rfl e1 hd kk
theorem p12_13 (E : EN p s m args meth c D cy RX12 cc nL ret "<init>") {o : Option Nat} {v : Option Nat} {A' : AH} (e1 : pR A 13 385 o v = some A') (hd : decode cc pc = .ok (.putfield 13, 3)) (kk : V p l e R s m args below meth c Q base D cy nL (pc + 3) lv st A' k n) : V p l e R s m args below meth c Q base D cy nL pc lv (vR v :: vR o :: st) A k n := v_pR E (ci := 12) (kf := 1) tyX12 rfl inG12 tyX12_ok nmX12 rfl (by decide) rfl q1024 (by decide) (Or.inr ⟨rfl, rfl, rfl⟩) rfl (by decide +kernel : parseFieldDescriptor (TX12 1).2.2.1 = some (tyX12 1)) (Or.inr ⟨_, rfl⟩) e1 hd kk
theorem q1025 : Cond.fieldLink RX12 16 RX12 (TX12 2).2.1 (TX12 2).2.2.1 ∈ lw_g := in_g (List.mem_of_getElem? (i := 1025) (by decide +kernel)) (by decide +kernel)
theorem g12_16 (E : EN p s m args meth c D cy RX12 cc nL ret nm) {o : Option Nat} {v : Option Nat} (e1 : gR A 13 386 o = some v) (hd : decode cc pc = .ok (.getfield 16, 3)) (kk : V p l e R s m args below meth c Q base D cy nL (pc + 3) lv (vR v :: st) A k n) : V p l e R s m args below meth c Q base D cy nL pc lv (vR o :: st) A k n := v_gR E (ci := 12) (kf := 2) rfl inG12 rfl (by decide) rfl q1025 (by decide) rfl e1 hd kk
theorem p12_16 (E : EN p s m args meth c D cy RX12 cc nL ret "<init>") {o : Option Nat} {v : Option Nat} {A' : AH} (e1 : pR A 13 386 o v = some A') (hd : decode cc pc = .ok (.putfield 16, 3)) (kk : V p l e R s m args below meth c Q base D cy nL (pc + 3) lv st A' k n) : V p l e R s m args below meth c Q base D cy nL pc lv (vR v :: vR o :: st) A k n := v_pR E (ci := 12) (kf := 2) tyX12 rfl inG12 tyX12_ok nmX12 rfl (by decide) rfl q1025 (by decide) (Or.inr ⟨rfl, rfl, rfl⟩) rfl (by decide +kernel : parseFieldDescriptor (TX12 2).2.2.1 = some (tyX12 2)) (Or.inr ⟨_, rfl⟩) e1 hd kk
theorem q1028 : Cond.fieldLink RX12 20 RX12 (TX12 5).2.1 (TX12 5).2.2.1 ∈ lw_g := in_g (List.mem_of_getElem? (i := 1028) (by decide +kernel)) (by decide +kernel)
theorem g12_20 (E : EN p s m args meth c D cy RX12 cc nL ret nm) {o : Option Nat} {v : Option Nat} (e1 : gR A 13 389 o = some v) (hd : decode cc pc = .ok (.getfield 20, 3)) (kk : V p l e R s m args below meth c Q base D cy nL (pc + 3) lv (vR v :: st) A k n) : V p l e R s m args below meth c Q base D cy nL pc lv (vR o :: st) A k n := v_gR E (ci := 12) (kf := 5) rfl inG12 rfl (by decide) rfl q1028 (by decide) rfl e1 hd kk
theorem p12_20 (E : EN p s m args meth c D cy RX12 cc nL ret "<init>") {o : Option Nat} {v : Option Nat} {A' : AH} (e1 : pR A 13 389 o v = some A') (hd : decode cc pc = .ok (.putfield 20, 3)) (kk : V p l e R s m args below meth c Q base D cy nL (pc + 3) lv st A' k n) : V p l e R s m args below meth c Q base D cy nL pc lv (vR v :: vR o :: st) A k n := v_pR E (ci := 12) (kf := 5) tyX12 rfl inG12 tyX12_ok nmX12 rfl (by decide) rfl q1028 (by decide) (Or.inr ⟨rfl, rfl, rfl⟩) rfl (by decide +kernel : parseFieldDescriptor (TX12 5).2.2.1 = some (tyX12 5)) (Or.inr ⟨_, rfl⟩) e1 hd kk
theorem q1030 : Cond.fieldLink RX12 23 RX12 (TX12 7).2.1 (TX12 7).2.2.1 ∈ lw_g := in_g (List.mem_of_getElem? (i := 1030) (by decide +kernel)) (by decide +kernel)
theorem g12_23 (E : EN p s m args meth c D cy RX12 cc nL ret nm) {o : Option Nat} {v : Int32} (e1 : gI A 13 391 o = some v) (hd : decode cc pc = .ok (.getfield 23, 3)) (kk : V p l e R s m args below meth c Q base D cy nL (pc + 3) lv (vI v :: st) A k n) : V p l e R s m args below meth c Q base D cy nL pc lv (vR o :: st) A k n := v_gI E (ci := 12) (kf := 7) rfl inG12 rfl (by decide) rfl q1030 (by decide) rfl e1 hd kk
theorem p12_23 (E : EN p s m args meth c D cy RX12 cc nL ret nm) {o : Option Nat} {v : Int32} {A' : AH} (e1 : pI A 13 391 o v = some A') (hd : decode cc pc = .ok (.putfield 23, 3)) (kk : V p l e R s m args below meth c Q base D cy nL (pc + 3) lv st A' k n) : V p l e R s m args below meth c Q base D cy nL pc lv (vI v :: vR o :: st) A k n := v_pI E (ci := 12) (kf := 7) tyX12 rfl inG12 tyX12_ok nmX12 rfl (by decide) rfl q1030 (by decide) (Or.inl rfl) rfl (by decide +kernel : parseFieldDescriptor (TX12 7).2.2.1 = some (tyX12 7)) rfl e1 hd kk
theorem q1032 : Cond.fieldLink RX12 27 RX12 (TX12 9).2.1 (TX12 9).2.2.1 ∈ lw_g := in_g (List.mem_of_getElem? (i := 1032) (by decide +kernel)) (by decide +kernel)
theorem g12_27 (E : EN p s m args meth c D cy RX12 cc nL ret nm) {o : Option Nat} {v : Option Nat} (e1 : gR A 13 393 o = some v) (hd : decode cc pc = .ok (.getfield 27, 3)) (kk : V p l e R s m args below meth c Q base D cy nL (pc + 3) lv (vR v :: st) A k n) : V p l e R s m args below meth c Q base D cy nL pc lv (vR o :: st) A k n := v_gR E (ci := 12) (kf := 9) rfl inG12 rfl (by decide) rfl q1032 (by decide) rfl e1 hd kk
theorem p12_27 (E : EN p s m args meth c D cy RX12 cc nL ret "<init>") {o : Option Nat} {v : Option Nat} {A' : AH} (e1 : pR A 13 393 o v = some A') (hd : decode cc pc = .ok (.putfield 27, 3)) (kk : V p l e R s m args below meth c Q base D cy nL (pc + 3) lv st A' k n) : V p l e R s m args below meth c Q base D cy nL pc lv (vR v :: vR o :: st) A k n := v_pR E (ci := 12) (kf := 9) tyX12 rfl inG12 tyX12_ok nmX12 rfl (by decide) rfl q1032 (by decide) (Or.inr ⟨rfl, rfl, rfl⟩) rfl (by decide +kernel : parseFieldDescriptor (TX12 9).2.2.1 = some (tyX12 9)) (Or.inr ⟨_, rfl⟩) e1 hd kk
theorem q1033 : Cond.fieldLink RX12 30 RX12 (TX12 10).2.1 (TX12 10).2.2.1 ∈ lw_g := in_g (List.mem_of_getElem? (i := 1033) (by decide +kernel)) (by decide +kernel)
theorem g12_30 (E : EN p s m args meth c D cy RX12 cc nL ret nm) {o : Option Nat} {v : Option Nat} (e1 : gR A 13 394 o = some v) (hd : decode cc pc = .ok (.getfield 30, 3)) (kk : V p l e R s m args below meth c Q base D cy nL (pc + 3) lv (vR v :: st) A k n) : V p l e R s m args below meth c Q base D cy nL pc lv (vR o :: st) A k n := v_gR E (ci := 12) (kf := 10) rfl inG12 rfl (by decide) rfl q1033 (by decide) rfl e1 hd kk
theorem p12_30 (E : EN p s m args meth c D cy RX12 cc nL ret "<init>") {o : Option Nat} {v : Option Nat} {A' : AH} (e1 : pR A 13 394 o v = some A') (hd : decode cc pc = .ok (.putfield 30, 3)) (kk : V p l e R s m args below meth c Q base D cy nL (pc + 3) lv st A' k n) : V p l e R s m args below meth c Q base D cy nL pc lv (vR v :: vR o :: st) A k n := v_pR E (ci := 12) (kf := 10) tyX12 rfl inG12 tyX12_ok nmX12 rfl (by decide) rfl q1033 (by decide) (Or.inr ⟨rfl, rfl, rfl⟩) rfl (by decide +kernel : parseFieldDescriptor (TX12 10).2.2.1 = some (tyX12 10)) (Or.inr ⟨_, rfl⟩) e1 hd kk
theorem q1034 : Cond.fieldLink RX12 33 RX12 (TX12 11).2.1 (TX12 11).2.2.1 ∈ lw_g := in_g (List.mem_of_getElem? (i := 1034) (by decide +kernel)) (by decide +kernel)
theorem g12_33 (E : EN p s m args meth c D cy RX12 cc nL ret nm) {o : Option Nat} {v : Option Nat} (e1 : gR A 13 395 o = some v) (hd : decode cc pc = .ok (.getfield 33, 3)) (kk : V p l e R s m args below meth c Q base D cy nL (pc + 3) lv (vR v :: st) A k n) : V p l e R s m args below meth c Q base D cy nL pc lv (vR o :: st) A k n := v_gR E (ci := 12) (kf := 11) rfl inG12 rfl (by decide) rfl q1034 (by decide) rfl e1 hd kk
theorem p12_33 (E : EN p s m args meth c D cy RX12 cc nL ret "<init>") {o : Option Nat} {v : Option Nat} {A' : AH} (e1 : pR A 13 395 o v = some A') (hd : decode cc pc = .ok (.putfield 33, 3)) (kk : V p l e R s m args below meth c Q base D cy nL (pc + 3) lv st A' k n) : V p l e R s m args below meth c Q base D cy nL pc lv (vR v :: vR o :: st) A k n := v_pR E (ci := 12) (kf := 11) tyX12 rfl inG12 tyX12_ok nmX12 rfl (by decide) rfl q1034 (by decide) (Or.inr ⟨rfl, rfl, rfl⟩) rfl (by decide +kernel : parseFieldDescriptor (TX12 11).2.2.1 = some (tyX12 11)) (Or.inr ⟨_, rfl⟩) e1 hd kk
theorem q1036 : Cond.fieldLink RX12 36 RX12 (TX12 13).2.1 (TX12 13).2.2.1 ∈ lw_g := in_g (List.mem_of_getElem? (i := 1036) (by decide +kernel)) (by decide +kernel)
theorem g12_36 (E : EN p s m args meth c D cy RX12 cc nL ret nm) {o : Option Nat} {v : Option Nat} (e1 : gR A 13 397 o = some v) (hd : decode cc pc = .ok (.getfield 36, 3)) (kk : V p l e R s m args below meth c Q base D cy nL (pc + 3) lv (vR v :: st) A k n) : V p l e R s m args below meth c Q base D cy nL pc lv (vR o :: st) A k n := v_gR E (ci := 12) (kf := 13) rfl inG12 rfl (by decide) rfl q1036 (by decide) rfl e1 hd kk
theorem p12_36 (E : EN p s m args meth c D cy RX12 cc nL ret "<init>") {o : Option Nat} {v : Option Nat} {A' : AH} (e1 : pR A 13 397 o v = some A') (hd : decode cc pc = .ok (.putfield 36, 3)) (kk : V p l e R s m args below meth c Q base D cy nL (pc + 3) lv st A' k n) : V p l e R s m args below meth c Q base D cy nL pc lv (vR v :: vR o :: st) A k n := v_pR E (ci := 12) (kf := 13) tyX12 rfl inG12 tyX12_ok nmX12 rfl (by decide) rfl q1036 (by decide) (Or.inr ⟨rfl, rfl, rfl⟩) rfl (by decide +kernel : parseFieldDescriptor (TX12 13).2.2.1 = some (tyX12 13)) (Or.inr ⟨_, rfl⟩) e1 hd kk
theorem q1039 : Cond.fieldLink RX12 39 RX12 (TX12 16).2.1 (TX12 16).2.2.1 ∈ lw_g := in_g (List.mem_of_getElem? (i := 1039) (by decide +kernel)) (by decide +kernel)
theorem g12_39 (E : EN p s m args meth c D cy RX12 cc nL ret nm) {o : Option Nat} {v : Option Nat} (e1 : gR A 13 400 o = some v) (hd : decode cc pc = .ok (.getfield 39, 3)) (kk : V p l e R s m args below meth c Q base D cy nL (pc + 3) lv (vR v :: st) A k n) : V p l e R s m args below meth c Q base D cy nL pc lv (vR o :: st) A k n := v_gR E (ci := 12) (kf := 16) rfl inG12 rfl (by decide) rfl q1039 (by decide) rfl e1 hd kk
theorem p12_39 (E : EN p s m args meth c D cy RX12 cc nL ret "<init>") {o : Option Nat} {v : Option Nat} {A' : AH} (e1 : pR A 13 400 o v = some A') (hd : decode cc pc = .ok (.putfield 39, 3)) (kk : V p l e R s m args below meth c Q base D cy nL (pc + 3) lv st A' k n) : V p l e R s m args below meth c Q base D cy nL pc lv (vR v :: vR o :: st) A k n := v_pR E (ci := 12) (kf := 16) tyX12 rfl inG12 tyX12_ok nmX12 rfl (by decide) rfl q1039 (by decide) (Or.inr ⟨rfl, rfl, rfl⟩) rfl (by decide +kernel : parseFieldDescriptor (TX12 16).2.2.1 = some (tyX12 16)) (Or.inr ⟨_, rfl⟩) e1 hd kk
theorem q1040 : Cond.fieldLink RX12 42 RX12 (TX12 17).2.1 (TX12 17).2.2.1 ∈ lw_g := in_g (List.mem_of_getElem? (i := 1040) (by decide +kernel)) (by decide +kernel)
theorem g12_42 (E : EN p s m args meth c D cy RX12 cc nL ret nm) {o : Option Nat} {v : Option Nat} (e1 : gR A 13 401 o = some v) (hd : decode cc pc = .ok (.getfield 42, 3)) (kk : V p l e R s m args below meth c Q base D cy nL (pc + 3) lv (vR v :: st) A k n) : V p l e R s m args below meth c Q base D cy nL pc lv (vR o :: st) A k n := v_gR E (ci := 12) (kf := 17) rfl inG12 rfl (by decide) rfl q1040 (by decide) rfl e1 hd kk
theorem p12_42 (E : EN p s m args meth c D cy RX12 cc nL ret "<init>") {o : Option Nat} {v : Option Nat} {A' : AH} (e1 : pR A 13 401 o v = some A') (hd : decode cc pc = .ok (.putfield 42, 3)) (kk : V p l e R s m args below meth c Q base D cy nL (pc + 3) lv st A' k n) : V p l e R s m args below meth c Q base D cy nL pc lv (vR v :: vR o :: st) A k n := v_pR E (ci := 12) (kf := 17) tyX12 rfl inG12 tyX12_ok nmX12 rfl (by decide) rfl q1040 (by decide) (Or.inr ⟨rfl, rfl, rfl⟩) rfl (by decide +kernel : parseFieldDescriptor (TX12 17).2.2.1 = some (tyX12 17)) (Or.inr ⟨_, rfl⟩) e1 hd kk
theorem q1041 : Cond.fieldLink RX12 45 RX12 (TX12 18).2.1 (TX12 18).2.2.1 ∈ lw_g := in_g (List.mem_of_getElem? (i := 1041) (by decide +kernel)) (by decide +kernel)
theorem g12_45 (E : EN p s m args meth c D cy RX12 cc nL ret nm) {o : Option Nat} {v : Option Nat} (e1 : gR A 13 402 o = some v) (hd : decode cc pc = .ok (.getfield 45, 3)) (kk : V p l e R s m args below meth c Q base D cy nL (pc + 3) lv (vR v :: st) A k n) : V p l e R s m args below meth c Q base D cy nL pc lv (vR o :: st) A k n := v_gR E (ci := 12) (kf := 18) rfl inG12 rfl (by decide) rfl q1041 (by decide) rfl e1 hd kk
theorem p12_45 (E : EN p s m args meth c D cy RX12 cc nL ret "<init>") {o : Option Nat} {v : Option Nat} {A' : AH} (e1 : pR A 13 402 o v = some A') (hd : decode cc pc = .ok (.putfield 45, 3)) (kk : V p l e R s m args below meth c Q base D cy nL (pc + 3) lv st A' k n) : V p l e R s m args below meth c Q base D cy nL pc lv (vR v :: vR o :: st) A k n := v_pR E (ci := 12) (kf := 18) tyX12 rfl inG12 tyX12_ok nmX12 rfl (by decide) rfl q1041 (by decide) (Or.inr ⟨rfl, rfl, rfl⟩) rfl (by decide +kernel : parseFieldDescriptor (TX12 18).2.2.1 = some (tyX12 18)) (Or.inr ⟨_, rfl⟩) e1 hd kk
theorem q1026 : Cond.fieldLink RX12 48 RX12 (TX12 3).2.1 (TX12 3).2.2.1 ∈ lw_g := in_g (List.mem_of_getElem? (i := 1026) (by decide +kernel)) (by decide +kernel)
theorem g12_48 (E : EN p s m args meth c D cy RX12 cc nL ret nm) {o : Option Nat} {v : Int32} (e1 : gI A 13 387 o = some v) (hd : decode cc pc = .ok (.getfield 48, 3)) (kk : V p l e R s m args below meth c Q base D cy nL (pc + 3) lv (vI v :: st) A k n) : V p l e R s m args below meth c Q base D cy nL pc lv (vR o :: st) A k n := v_gI E (ci := 12) (kf := 3) rfl inG12 rfl (by decide) rfl q1026 (by decide) rfl e1 hd kk
theorem p12_48 (E : EN p s m args meth c D cy RX12 cc nL ret nm) {o : Option Nat} {v : Int32} {A' : AH} (e1 : pI A 13 387 o v = some A') (hd : decode cc pc = .ok (.putfield 48, 3)) (kk : V p l e R s m args below meth c Q base D cy nL (pc + 3) lv st A' k n) : V p l e R s m args below meth c Q base D cy nL pc lv (vI v :: vR o :: st) A k n := v_pI E (ci := 12) (kf := 3) tyX12 rfl inG12 tyX12_ok nmX12 rfl (by decide) rfl q1026 (by decide) (Or.inl rfl) rfl (by decide +kernel : parseFieldDescriptor (TX12 3).2.2.1 = some (tyX12 3)) rfl e1 hd kk
theorem q1035 : Cond.fieldLink RX12 67 RX12 (TX12 12).2.1 (TX12 12).2.2.1 ∈ lw_g := in_g (List.mem_of_getElem? (i := 1035) (by decide +kernel)) (by decide +kernel)
theorem g12_67 (E : EN p s m args meth c D cy RX12 cc nL ret nm) {o : Option Nat} {v : Int32} (e1 : gI A 13 396 o = some v) (hd : decode cc pc = .ok (.getfield 67, 3)) (kk : V p l e R s m args below meth c Q base D cy nL (pc + 3) lv (vI v :: st) A k n) : V p l e R s m args below meth c Q base D cy nL pc lv (vR o :: st) A k n := v_gI E (ci := 12) (kf := 12) rfl inG12 rfl (by decide) rfl q1035 (by decide) rfl e1 hd kk
theorem p12_67 (E : EN p s m args meth c D cy RX12 cc nL ret nm) {o : Option Nat} {v : Int32} {A' : AH} (e1 : pI A 13 396 o v = some A') (hd : decode cc pc = .ok (.putfield 67, 3)) (kk : V p l e R s m args below meth c Q base D cy nL (pc + 3) lv st A' k n) : V p l e R s m args below meth c Q base D cy nL pc lv (vI v :: vR o :: st) A k n := v_pI E (ci := 12) (kf := 12) tyX12 rfl inG12 tyX12_ok nmX12 rfl (by decide) rfl q1035 (by decide) (Or.inl rfl) rfl (by decide +kernel : parseFieldDescriptor (TX12 12).2.2.1 = some (tyX12 12)) rfl e1 hd kk
theorem q1029 : Cond.fieldLink RX12 79 RX12 (TX12 6).2.1 (TX12 6).2.2.1 ∈ lw_g := in_g (List.mem_of_getElem? (i := 1029) (by decide +kernel)) (by decide +kernel)
theorem g12_79 (E : EN p s m args meth c D cy RX12 cc nL ret nm) {o : Option Nat} {v : Int32} (e1 : gI A 13 390 o = some v) (hd : decode cc pc = .ok (.getfield 79, 3)) (kk : V p l e R s m args below meth c Q base D cy nL (pc + 3) lv (vI v :: st) A k n) : V p l e R s m args below meth c Q base D cy nL pc lv (vR o :: st) A k n := v_gI E (ci := 12) (kf := 6) rfl inG12 rfl (by decide) rfl q1029 (by decide) rfl e1 hd kk
theorem p12_79 (E : EN p s m args meth c D cy RX12 cc nL ret nm) {o : Option Nat} {v : Int32} {A' : AH} (e1 : pI A 13 390 o v = some A') (hd : decode cc pc = .ok (.putfield 79, 3)) (kk : V p l e R s m args below meth c Q base D cy nL (pc + 3) lv st A' k n) : V p l e R s m args below meth c Q base D cy nL pc lv (vI v :: vR o :: st) A k n := v_pI E (ci := 12) (kf := 6) tyX12 rfl inG12 tyX12_ok nmX12 rfl (by decide) rfl q1029 (by decide) (Or.inl rfl) rfl (by decide +kernel : parseFieldDescriptor (TX12 6).2.2.1 = some (tyX12 6)) rfl e1 hd kk
theorem q1037 : Cond.fieldLink RX12 112 RX12 (TX12 14).2.1 (TX12 14).2.2.1 ∈ lw_g := in_g (List.mem_of_getElem? (i := 1037) (by decide +kernel)) (by decide +kernel)
theorem g12_112 (E : EN p s m args meth c D cy RX12 cc nL ret nm) {o : Option Nat} {v : Int32} (e1 : gI A 13 398 o = some v) (hd : decode cc pc = .ok (.getfield 112, 3)) (kk : V p l e R s m args below meth c Q base D cy nL (pc + 3) lv (vI v :: st) A k n) : V p l e R s m args below meth c Q base D cy nL pc lv (vR o :: st) A k n := v_gI E (ci := 12) (kf := 14) rfl inG12 rfl (by decide) rfl q1037 (by decide) rfl e1 hd kk
theorem p12_112 (E : EN p s m args meth c D cy RX12 cc nL ret nm) {o : Option Nat} {v : Int32} {A' : AH} (e1 : pZ A 13 398 o v = some A') (hd : decode cc pc = .ok (.putfield 112, 3)) (kk : V p l e R s m args below meth c Q base D cy nL (pc + 3) lv st A' k n) : V p l e R s m args below meth c Q base D cy nL pc lv (vI v :: vR o :: st) A k n := v_pZ E (ci := 12) (kf := 14) tyX12 rfl inG12 tyX12_ok nmX12 rfl (by decide) rfl q1037 (by decide) (Or.inl rfl) rfl (by decide +kernel : parseFieldDescriptor (TX12 14).2.2.1 = some (tyX12 14)) rfl e1 hd kk
theorem q1038 : Cond.fieldLink RX12 138 RX12 (TX12 15).2.1 (TX12 15).2.2.1 ∈ lw_g := in_g (List.mem_of_getElem? (i := 1038) (by decide +kernel)) (by decide +kernel)
theorem g12_138 (E : EN p s m args meth c D cy RX12 cc nL ret nm) {o : Option Nat} {v : Int32} (e1 : gI A 13 399 o = some v) (hd : decode cc pc = .ok (.getfield 138, 3)) (kk : V p l e R s m args below meth c Q base D cy nL (pc + 3) lv (vI v :: st) A k n) : V p l e R s m args below meth c Q base D cy nL pc lv (vR o :: st) A k n := v_gI E (ci := 12) (kf := 15) rfl inG12 rfl (by decide) rfl q1038 (by decide) rfl e1 hd kk
theorem p12_138 (E : EN p s m args meth c D cy RX12 cc nL ret nm) {o : Option Nat} {v : Int32} {A' : AH} (e1 : pI A 13 399 o v = some A') (hd : decode cc pc = .ok (.putfield 138, 3)) (kk : V p l e R s m args below meth c Q base D cy nL (pc + 3) lv st A' k n) : V p l e R s m args below meth c Q base D cy nL pc lv (vI v :: vR o :: st) A k n := v_pI E (ci := 12) (kf := 15) tyX12 rfl inG12 tyX12_ok nmX12 rfl (by decide) rfl q1038 (by decide) (Or.inl rfl) rfl (by decide +kernel : parseFieldDescriptor (TX12 15).2.2.1 = some (tyX12 15)) rfl e1 hd kk
theorem q1042 : Cond.fieldLink RX12 196 RX12 (TX12 19).2.1 (TX12 19).2.2.1 ∈ lw_g := in_g (List.mem_of_getElem? (i := 1042) (by decide +kernel)) (by decide +kernel)
theorem g12_196 (E : EN p s m args meth c D cy RX12 cc nL ret nm) {o : Option Nat} {v : Int32} (e1 : gI A 13 403 o = some v) (hd : decode cc pc = .ok (.getfield 196, 3)) (kk : V p l e R s m args below meth c Q base D cy nL (pc + 3) lv (vI v :: st) A k n) : V p l e R s m args below meth c Q base D cy nL pc lv (vR o :: st) A k n := v_gI E (ci := 12) (kf := 19) rfl inG12 rfl (by decide) rfl q1042 (by decide) rfl e1 hd kk
theorem p12_196 (E : EN p s m args meth c D cy RX12 cc nL ret nm) {o : Option Nat} {v : Int32} {A' : AH} (e1 : pI A 13 403 o v = some A') (hd : decode cc pc = .ok (.putfield 196, 3)) (kk : V p l e R s m args below meth c Q base D cy nL (pc + 3) lv st A' k n) : V p l e R s m args below meth c Q base D cy nL pc lv (vI v :: vR o :: st) A k n := v_pI E (ci := 12) (kf := 19) tyX12 rfl inG12 tyX12_ok nmX12 rfl (by decide) rfl q1042 (by decide) (Or.inl rfl) rfl (by decide +kernel : parseFieldDescriptor (TX12 19).2.2.1 = some (tyX12 19)) rfl e1 hd kk
theorem q1031 : Cond.fieldLink RX12 220 RX12 (TX12 8).2.1 (TX12 8).2.2.1 ∈ lw_g := in_g (List.mem_of_getElem? (i := 1031) (by decide +kernel)) (by decide +kernel)
theorem g12_220 (E : EN p s m args meth c D cy RX12 cc nL ret nm) {o : Option Nat} {v : Int32} (e1 : gI A 13 392 o = some v) (hd : decode cc pc = .ok (.getfield 220, 3)) (kk : V p l e R s m args below meth c Q base D cy nL (pc + 3) lv (vI v :: st) A k n) : V p l e R s m args below meth c Q base D cy nL pc lv (vR o :: st) A k n := v_gI E (ci := 12) (kf := 8) rfl inG12 rfl (by decide) rfl q1031 (by decide) rfl e1 hd kk
theorem p12_220 (E : EN p s m args meth c D cy RX12 cc nL ret nm) {o : Option Nat} {v : Int32} {A' : AH} (e1 : pI A 13 392 o v = some A') (hd : decode cc pc = .ok (.putfield 220, 3)) (kk : V p l e R s m args below meth c Q base D cy nL (pc + 3) lv st A' k n) : V p l e R s m args below meth c Q base D cy nL pc lv (vI v :: vR o :: st) A k n := v_pI E (ci := 12) (kf := 8) tyX12 rfl inG12 tyX12_ok nmX12 rfl (by decide) rfl q1031 (by decide) (Or.inl rfl) rfl (by decide +kernel : parseFieldDescriptor (TX12 8).2.2.1 = some (tyX12 8)) rfl e1 hd kk
theorem q1027 : Cond.fieldLink RX12 236 RX12 (TX12 4).2.1 (TX12 4).2.2.1 ∈ lw_g := in_g (List.mem_of_getElem? (i := 1027) (by decide +kernel)) (by decide +kernel)
theorem g12_236 (E : EN p s m args meth c D cy RX12 cc nL ret nm) {o : Option Nat} {v : Int32} (e1 : gI A 13 388 o = some v) (hd : decode cc pc = .ok (.getfield 236, 3)) (kk : V p l e R s m args below meth c Q base D cy nL (pc + 3) lv (vI v :: st) A k n) : V p l e R s m args below meth c Q base D cy nL pc lv (vR o :: st) A k n := v_gI E (ci := 12) (kf := 4) rfl inG12 rfl (by decide) rfl q1027 (by decide) rfl e1 hd kk
theorem p12_236 (E : EN p s m args meth c D cy RX12 cc nL ret nm) {o : Option Nat} {v : Int32} {A' : AH} (e1 : pI A 13 388 o v = some A') (hd : decode cc pc = .ok (.putfield 236, 3)) (kk : V p l e R s m args below meth c Q base D cy nL (pc + 3) lv st A' k n) : V p l e R s m args below meth c Q base D cy nL pc lv (vI v :: vR o :: st) A k n := v_pI E (ci := 12) (kf := 4) tyX12 rfl inG12 tyX12_ok nmX12 rfl (by decide) rfl q1027 (by decide) (Or.inl rfl) rfl (by decide +kernel : parseFieldDescriptor (TX12 4).2.2.1 = some (tyX12 4)) rfl e1 hd kk
theorem q109 : Cond.classLink RX11 7 RX8 ∈ lw_g := in_g (List.mem_of_getElem? (i := 109) (by decide +kernel)) (by decide +kernel)
theorem q110 : Cond.instantiable RX8 2 ∈ lw_g := in_g (List.mem_of_getElem? (i := 110) (by decide +kernel)) (by decide +kernel)
theorem q87 : Cond.initialized RX8 ∈ lw_g := in_g (List.mem_of_getElem? (i := 87) (by decide +kernel)) (by decide +kernel)
theorem n11_7 (E : EN p s m args meth c D cy RX11 cc nL ret nm) (hk1 : k + 1 ≤ R.cells) (hn1 : n + 2 ≤ R.slots) (hd : decode cc pc = .ok (.new 7, 3)) (kk : V p l e R s m args below meth c Q base D cy nL (pc + 3) lv (vR (some (Hs A)) :: st) (nw A 9 0) (k + 1) (n + 2)) : V p l e R s m args below meth c Q base D cy nL pc lv st A k n := v_new E (ci := 8) tyX8 rfl inG8 tyX8_ok rfl q109 q110 q87 (by decide) (by decide) hk1 hn1 hd kk
theorem q124 : Cond.classLink RX11 16 RX9 ∈ lw_g := in_g (List.mem_of_getElem? (i := 124) (by decide +kernel)) (by decide +kernel)
theorem q125 : Cond.instantiable RX9 3 ∈ lw_g := in_g (List.mem_of_getElem? (i := 125) (by decide +kernel)) (by decide +kernel)
theorem q88 : Cond.initialized RX9 ∈ lw_g := in_g (List.mem_of_getElem? (i := 88) (by decide +kernel)) (by decide +kernel)
theorem n11_16 (E : EN p s m args meth c D cy RX11 cc nL ret nm) (hk1 : k + 1 ≤ R.cells) (hn1 : n + 3 ≤ R.slots) (hd : decode cc pc = .ok (.new 16, 3)) (kk : V p l e R s m args below meth c Q base D cy nL (pc + 3) lv (vR (some (Hs A)) :: st) (nw A 10 0) (k + 1) (n + 3)) : V p l e R s m args below meth c Q base D cy nL pc lv st A k n := v_new E (ci := 9) tyX9 rfl inG9 tyX9_ok rfl q124 q125 q88 (by decide) (by decide) hk1 hn1 hd kk
theorem q141 : Cond.classLink RX11 23 RX0 ∈ lw_g := in_g (List.mem_of_getElem? (i := 141) (by decide +kernel)) (by decide +kernel)
theorem q142 : Cond.instantiable RX0 3 ∈ lw_g := in_g (List.mem_of_getElem? (i := 142) (by decide +kernel)) (by decide +kernel)
theorem q89 : Cond.initialized RX0 ∈ lw_g := in_g (List.mem_of_getElem? (i := 89) (by decide +kernel)) (by decide +kernel)
theorem n11_23 (E : EN p s m args meth c D cy RX11 cc nL ret nm) (hk1 : k + 1 ≤ R.cells) (hn1 : n + 3 ≤ R.slots) (hd : decode cc pc = .ok (.new 23, 3)) (kk : V p l e R s m args below meth c Q base D cy nL (pc + 3) lv (vR (some (Hs A)) :: st) (nw A 1 0) (k + 1) (n + 3)) : V p l e R s m args below meth c Q base D cy nL pc lv st A k n := v_new E (ci := 0) tyX0 rfl inG0 tyX0_ok rfl q141 q142 q89 (by decide) (by decide) hk1 hn1 hd kk
theorem q157 : Cond.classLink RX11 30 RX5 ∈ lw_g := in_g (List.mem_of_getElem? (i := 157) (by decide +kernel)) (by decide +kernel)
theorem q158 : Cond.instantiable RX5 3 ∈ lw_g := in_g (List.mem_of_getElem? (i := 158) (by decide +kernel)) (by decide +kernel)
theorem q90 : Cond.initialized RX5 ∈ lw_g := in_g (List.mem_of_getElem? (i := 90) (by decide +kernel)) (by decide +kernel)
theorem n11_30 (E : EN p s m args meth c D cy RX11 cc nL ret nm) (hk1 : k + 1 ≤ R.cells) (hn1 : n + 3 ≤ R.slots) (hd : decode cc pc = .ok (.new 30, 3)) (kk : V p l e R s m args below meth c Q base D cy nL (pc + 3) lv (vR (some (Hs A)) :: st) (nw A 6 0) (k + 1) (n + 3)) : V p l e R s m args below meth c Q base D cy nL pc lv st A k n := v_new E (ci := 5) tyX5 rfl inG5 tyX5_ok rfl q157 q158 q90 (by decide) (by decide) hk1 hn1 hd kk
theorem q175 : Cond.classLink RX11 37 RX6 ∈ lw_g := in_g (List.mem_of_getElem? (i := 175) (by decide +kernel)) (by decide +kernel)
theorem q177 : Cond.instantiable RX6 3 ∈ lw_g := in_g (List.mem_of_getElem? (i := 177) (by decide +kernel)) (by decide +kernel)
theorem q91 : Cond.initialized RX6 ∈ lw_g := in_g (List.mem_of_getElem? (i := 91) (by decide +kernel)) (by decide +kernel)
theorem n11_37 (E : EN p s m args meth c D cy RX11 cc nL ret nm) (hk1 : k + 1 ≤ R.cells) (hn1 : n + 3 ≤ R.slots) (hd : decode cc pc = .ok (.new 37, 3)) (kk : V p l e R s m args below meth c Q base D cy nL (pc + 3) lv (vR (some (Hs A)) :: st) (nw A 7 0) (k + 1) (n + 3)) : V p l e R s m args below meth c Q base D cy nL pc lv st A k n := v_new E (ci := 6) tyX6 rfl inG6 tyX6_ok rfl q175 q177 q91 (by decide) (by decide) hk1 hn1 hd kk
theorem q194 : Cond.classLink RX11 44 RX2 ∈ lw_g := in_g (List.mem_of_getElem? (i := 194) (by decide +kernel)) (by decide +kernel)
theorem q195 : Cond.instantiable RX2 1 ∈ lw_g := in_g (List.mem_of_getElem? (i := 195) (by decide +kernel)) (by decide +kernel)
theorem q92 : Cond.initialized RX2 ∈ lw_g := in_g (List.mem_of_getElem? (i := 92) (by decide +kernel)) (by decide +kernel)
theorem n11_44 (E : EN p s m args meth c D cy RX11 cc nL ret nm) (hk1 : k + 1 ≤ R.cells) (hn1 : n + 1 ≤ R.slots) (hd : decode cc pc = .ok (.new 44, 3)) (kk : V p l e R s m args below meth c Q base D cy nL (pc + 3) lv (vR (some (Hs A)) :: st) (nw A 3 0) (k + 1) (n + 1)) : V p l e R s m args below meth c Q base D cy nL pc lv st A k n := v_new E (ci := 2) tyX2 rfl inG2 tyX2_ok rfl q194 q195 q92 (by decide) (by decide) hk1 hn1 hd kk
theorem q204 : Cond.classLink RX11 51 RX1 ∈ lw_g := in_g (List.mem_of_getElem? (i := 204) (by decide +kernel)) (by decide +kernel)
theorem q205 : Cond.instantiable RX1 2 ∈ lw_g := in_g (List.mem_of_getElem? (i := 205) (by decide +kernel)) (by decide +kernel)
theorem q93 : Cond.initialized RX1 ∈ lw_g := in_g (List.mem_of_getElem? (i := 93) (by decide +kernel)) (by decide +kernel)
theorem n11_51 (E : EN p s m args meth c D cy RX11 cc nL ret nm) (hk1 : k + 1 ≤ R.cells) (hn1 : n + 2 ≤ R.slots) (hd : decode cc pc = .ok (.new 51, 3)) (kk : V p l e R s m args below meth c Q base D cy nL (pc + 3) lv (vR (some (Hs A)) :: st) (nw A 2 0) (k + 1) (n + 2)) : V p l e R s m args below meth c Q base D cy nL pc lv st A k n := v_new E (ci := 1) tyX1 rfl inG1 tyX1_ok rfl q204 q205 q93 (by decide) (by decide) hk1 hn1 hd kk
theorem q217 : Cond.classLink RX11 58 RX4 ∈ lw_g := in_g (List.mem_of_getElem? (i := 217) (by decide +kernel)) (by decide +kernel)
theorem q218 : Cond.instantiable RX4 3 ∈ lw_g := in_g (List.mem_of_getElem? (i := 218) (by decide +kernel)) (by decide +kernel)
theorem q94 : Cond.initialized RX4 ∈ lw_g := in_g (List.mem_of_getElem? (i := 94) (by decide +kernel)) (by decide +kernel)
theorem n11_58 (E : EN p s m args meth c D cy RX11 cc nL ret nm) (hk1 : k + 1 ≤ R.cells) (hn1 : n + 3 ≤ R.slots) (hd : decode cc pc = .ok (.new 58, 3)) (kk : V p l e R s m args below meth c Q base D cy nL (pc + 3) lv (vR (some (Hs A)) :: st) (nw A 5 0) (k + 1) (n + 3)) : V p l e R s m args below meth c Q base D cy nL pc lv st A k n := v_new E (ci := 4) tyX4 rfl inG4 tyX4_ok rfl q217 q218 q94 (by decide) (by decide) hk1 hn1 hd kk
theorem q331 : Cond.classLink RX11 116 RX10 ∈ lw_g := in_g (List.mem_of_getElem? (i := 331) (by decide +kernel)) (by decide +kernel)
theorem q332 : Cond.instantiable RX10 3 ∈ lw_g := in_g (List.mem_of_getElem? (i := 332) (by decide +kernel)) (by decide +kernel)
theorem q97 : Cond.initialized RX10 ∈ lw_g := in_g (List.mem_of_getElem? (i := 97) (by decide +kernel)) (by decide +kernel)
theorem n11_116 (E : EN p s m args meth c D cy RX11 cc nL ret nm) (hk1 : k + 1 ≤ R.cells) (hn1 : n + 3 ≤ R.slots) (hd : decode cc pc = .ok (.new 116, 3)) (kk : V p l e R s m args below meth c Q base D cy nL (pc + 3) lv (vR (some (Hs A)) :: st) (nw A 11 0) (k + 1) (n + 3)) : V p l e R s m args below meth c Q base D cy nL pc lv st A k n := v_new E (ci := 10) tyX10 rfl inG10 tyX10_ok rfl q331 q332 q97 (by decide) (by decide) hk1 hn1 hd kk
theorem q333 : Cond.classLink RX11 122 RX7 ∈ lw_g := in_g (List.mem_of_getElem? (i := 333) (by decide +kernel)) (by decide +kernel)
theorem q334 : Cond.instantiable RX7 14 ∈ lw_g := in_g (List.mem_of_getElem? (i := 334) (by decide +kernel)) (by decide +kernel)
theorem q98 : Cond.initialized RX7 ∈ lw_g := in_g (List.mem_of_getElem? (i := 98) (by decide +kernel)) (by decide +kernel)
theorem n11_122 (E : EN p s m args meth c D cy RX11 cc nL ret nm) (hk1 : k + 1 ≤ R.cells) (hn1 : n + 14 ≤ R.slots) (hd : decode cc pc = .ok (.new 122, 3)) (kk : V p l e R s m args below meth c Q base D cy nL (pc + 3) lv (vR (some (Hs A)) :: st) (nw A 8 0) (k + 1) (n + 14)) : V p l e R s m args below meth c Q base D cy nL pc lv st A k n := v_new E (ci := 7) tyX7 rfl inG7 tyX7_ok rfl q333 q334 q98 (by decide) (by decide) hk1 hn1 hd kk
theorem q163 : Cond.classLink RX5 9 RX8 ∈ lw_g := in_g (List.mem_of_getElem? (i := 163) (by decide +kernel)) (by decide +kernel)
theorem n5_9 (E : EN p s m args meth c D cy RX5 cc nL ret nm) (hk1 : k + 1 ≤ R.cells) (hn1 : n + 2 ≤ R.slots) (hd : decode cc pc = .ok (.new 9, 3)) (kk : V p l e R s m args below meth c Q base D cy nL (pc + 3) lv (vR (some (Hs A)) :: st) (nw A 9 0) (k + 1) (n + 2)) : V p l e R s m args below meth c Q base D cy nL pc lv st A k n := v_new E (ci := 8) tyX8 rfl inG8 tyX8_ok rfl q163 q110 q87 (by decide) (by decide) hk1 hn1 hd kk
theorem q182 : Cond.classLink RX6 7 RX8 ∈ lw_g := in_g (List.mem_of_getElem? (i := 182) (by decide +kernel)) (by decide +kernel)
theorem n6_7 (E : EN p s m args meth c D cy RX6 cc nL ret nm) (hk1 : k + 1 ≤ R.cells) (hn1 : n + 2 ≤ R.slots) (hd : decode cc pc = .ok (.new 7, 3)) (kk : V p l e R s m args below meth c Q base D cy nL (pc + 3) lv (vR (some (Hs A)) :: st) (nw A 9 0) (k + 1) (n + 2)) : V p l e R s m args below meth c Q base D cy nL pc lv st A k n := v_new E (ci := 8) tyX8 rfl inG8 tyX8_ok rfl q182 q110 q87 (by decide) (by decide) hk1 hn1 hd kk
theorem q572 : Cond.classLink RX10 21 RX3 ∈ lw_g := in_g (List.mem_of_getElem? (i := 572) (by decide +kernel)) (by decide +kernel)
theorem q573 : Cond.instantiable RX3 8 ∈ lw_g := in_g (List.mem_of_getElem? (i := 573) (by decide +kernel)) (by decide +kernel)
theorem q100 : Cond.initialized RX3 ∈ lw_g := in_g (List.mem_of_getElem? (i := 100) (by decide +kernel)) (by decide +kernel)
theorem n10_21 (E : EN p s m args meth c D cy RX10 cc nL ret nm) (hk1 : k + 1 ≤ R.cells) (hn1 : n + 8 ≤ R.slots) (hd : decode cc pc = .ok (.new 21, 3)) (kk : V p l e R s m args below meth c Q base D cy nL (pc + 3) lv (vR (some (Hs A)) :: st) (nw A 4 0) (k + 1) (n + 8)) : V p l e R s m args below meth c Q base D cy nL pc lv st A k n := v_new E (ci := 3) tyX3 rfl inG3 tyX3_ok rfl q572 q573 q100 (by decide) (by decide) hk1 hn1 hd kk
theorem q101 : Cond.classLink RL 7 RX11 ∈ lw_g := in_g (List.mem_of_getElem? (i := 101) (by decide +kernel)) (by decide +kernel)
theorem q102 : Cond.instantiable RX11 8 ∈ lw_g := in_g (List.mem_of_getElem? (i := 102) (by decide +kernel)) (by decide +kernel)
theorem q86 : Cond.initialized RX11 ∈ lw_g := in_g (List.mem_of_getElem? (i := 86) (by decide +kernel)) (by decide +kernel)
theorem nL_7 (E : EN p s m args meth c D cy RL cc nL ret nm) (hk1 : k + 1 ≤ R.cells) (hn1 : n + 8 ≤ R.slots) (hd : decode cc pc = .ok (.new 7, 3)) (kk : V p l e R s m args below meth c Q base D cy nL (pc + 3) lv (vR (some (Hs A)) :: st) (nw A 12 0) (k + 1) (n + 8)) : V p l e R s m args below meth c Q base D cy nL pc lv st A k n := v_new E (ci := 11) tyX11 rfl inG11 tyX11_ok rfl q101 q102 q86 (by decide) (by decide) hk1 hn1 hd kk
theorem q1017 : Cond.classLink RL 10 RX12 ∈ lw_g := in_g (List.mem_of_getElem? (i := 1017) (by decide +kernel)) (by decide +kernel)
theorem q1018 : Cond.instantiable RX12 20 ∈ lw_g := in_g (List.mem_of_getElem? (i := 1018) (by decide +kernel)) (by decide +kernel)
theorem q95 : Cond.initialized RX12 ∈ lw_g := in_g (List.mem_of_getElem? (i := 95) (by decide +kernel)) (by decide +kernel)
theorem nL_10 (E : EN p s m args meth c D cy RL cc nL ret nm) (hk1 : k + 1 ≤ R.cells) (hn1 : n + 20 ≤ R.slots) (hd : decode cc pc = .ok (.new 10, 3)) (kk : V p l e R s m args below meth c Q base D cy nL (pc + 3) lv (vR (some (Hs A)) :: st) (nw A 13 0) (k + 1) (n + 20)) : V p l e R s m args below meth c Q base D cy nL pc lv st A k n := v_new E (ci := 12) tyX12 rfl inG12 tyX12_ok rfl q1017 q1018 q95 (by decide) (by decide) hk1 hn1 hd kk
theorem q140 : Cond.arrayClass .int ∈ lw_g := in_g (List.mem_of_getElem? (i := 140) (by decide +kernel)) (by decide +kernel)
theorem q664 : Cond.arrayClass .boolean ∈ lw_g := in_g (List.mem_of_getElem? (i := 664) (by decide +kernel)) (by decide +kernel)
theorem na11_37 (E : EN p s m args meth c D cy RX11 cc nL ret nm) {i : Int32} {bd : Nat} {A' : AH} (e1 : nA A 16 i bd = some A') (hk1 : k + 1 ≤ R.cells) (hn1 : n + bd ≤ R.slots) (hbd : bd ≤ 100000) (hd : decode cc pc = .ok (.anewarray 37, 3)) (kk : V p l e R s m args below meth c Q base D cy nL (pc + 3) lv (vR (some (Hs A)) :: st) A' (k + 1) (n + bd)) : V p l e R s m args below meth c Q base D cy nL pc lv (vI i :: st) A k n := by
  have hN := E.2.2.2.2.2.2.1
  exact v_newr E (kd := 16) (t0 := 2) (by decide) rfl hN.2.1 q175 e1 hk1 hn1 hbd hd kk
theorem na5_9 (E : EN p s m args meth c D cy RX5 cc nL ret nm) {i : Int32} {bd : Nat} {A' : AH} (e1 : nA A 17 i bd = some A') (hk1 : k + 1 ≤ R.cells) (hn1 : n + bd ≤ R.slots) (hbd : bd ≤ 100000) (hd : decode cc pc = .ok (.anewarray 9, 3)) (kk : V p l e R s m args below meth c Q base D cy nL (pc + 3) lv (vR (some (Hs A)) :: st) A' (k + 1) (n + bd)) : V p l e R s m args below meth c Q base D cy nL pc lv (vI i :: st) A k n := by
  have hN := E.2.2.2.2.2.2.1
  exact v_newr E (kd := 17) (t0 := 3) (by decide) rfl hN.2.2.1 q163 e1 hk1 hn1 hbd hd kk
theorem q115 : Cond.classLink RX8 9 "OneStrokes$Word" ∈ lw_g := in_g (List.mem_of_getElem? (i := 115) (by decide +kernel)) (by decide +kernel)
theorem na8_9 (E : EN p s m args meth c D cy RX8 cc nL ret nm) {i : Int32} {bd : Nat} {A' : AH} (e1 : nA A 18 i bd = some A') (hk1 : k + 1 ≤ R.cells) (hn1 : n + bd ≤ R.slots) (hbd : bd ≤ 100000) (hd : decode cc pc = .ok (.anewarray 9, 3)) (kk : V p l e R s m args below meth c Q base D cy nL (pc + 3) lv (vR (some (Hs A)) :: st) A' (k + 1) (n + bd)) : V p l e R s m args below meth c Q base D cy nL pc lv (vI i :: st) A k n := by
  have hN := E.2.2.2.2.2.2.1
  exact v_newr E (kd := 18) (t0 := 4) (by decide) rfl hN.2.2.2 q115 e1 hk1 hn1 hbd hd kk
theorem q938 : Cond.constantLong RX2 13 (1103515245) ∈ lw_g := in_g (List.mem_of_getElem? (i := 938) (by decide +kernel)) (by decide +kernel)
theorem q939 : Cond.constantLong RX2 15 (12345) ∈ lw_g := in_g (List.mem_of_getElem? (i := 939) (by decide +kernel)) (by decide +kernel)
theorem q940 : Cond.constantLong RX2 17 (2147483647) ∈ lw_g := in_g (List.mem_of_getElem? (i := 940) (by decide +kernel)) (by decide +kernel)
theorem q941 : Cond.constant RX2 19 (65536) ∈ lw_g := in_g (List.mem_of_getElem? (i := 941) (by decide +kernel)) (by decide +kernel)
theorem q450 : Cond.constantLong RX7 145 (8) ∈ lw_g := in_g (List.mem_of_getElem? (i := 450) (by decide +kernel)) (by decide +kernel)
theorem q262 : Cond.constant RX11 65 (-1000000002) ∈ lw_g := in_g (List.mem_of_getElem? (i := 262) (by decide +kernel)) (by decide +kernel)
theorem q271 : Cond.constant RX11 74 (-1000000004) ∈ lw_g := in_g (List.mem_of_getElem? (i := 271) (by decide +kernel)) (by decide +kernel)
theorem q516 : Cond.constant RX11 114 (-1000000001) ∈ lw_g := in_g (List.mem_of_getElem? (i := 516) (by decide +kernel)) (by decide +kernel)
theorem q737 : Cond.constantLong RX11 170 (-1000000001) ∈ lw_g := in_g (List.mem_of_getElem? (i := 737) (by decide +kernel)) (by decide +kernel)
theorem q813 : Cond.constant RX11 230 (-1000000003) ∈ lw_g := in_g (List.mem_of_getElem? (i := 813) (by decide +kernel)) (by decide +kernel)
theorem q1088 : Cond.constantLong RX12 76 (255) ∈ lw_g := in_g (List.mem_of_getElem? (i := 1088) (by decide +kernel)) (by decide +kernel)
theorem q1092 : Cond.constant RX12 78 (-1000000002) ∈ lw_g := in_g (List.mem_of_getElem? (i := 1092) (by decide +kernel)) (by decide +kernel)
theorem q1093 : Cond.constant RX12 82 (-1000000004) ∈ lw_g := in_g (List.mem_of_getElem? (i := 1093) (by decide +kernel)) (by decide +kernel)
theorem q1102 : Cond.constantLong RX12 83 (97) ∈ lw_g := in_g (List.mem_of_getElem? (i := 1102) (by decide +kernel)) (by decide +kernel)
theorem q1103 : Cond.constantLong RX12 85 (122) ∈ lw_g := in_g (List.mem_of_getElem? (i := 1103) (by decide +kernel)) (by decide +kernel)
theorem q1168 : Cond.constantLong RX12 194 (8) ∈ lw_g := in_g (List.mem_of_getElem? (i := 1168) (by decide +kernel)) (by decide +kernel)
theorem q1208 : Cond.constant RX12 252 (-1000000001) ∈ lw_g := in_g (List.mem_of_getElem? (i := 1208) (by decide +kernel)) (by decide +kernel)
theorem q1252 : Cond.constantLong RX12 265 (4) ∈ lw_g := in_g (List.mem_of_getElem? (i := 1252) (by decide +kernel)) (by decide +kernel)
theorem q1253 : Cond.constantLong RX12 267 (14) ∈ lw_g := in_g (List.mem_of_getElem? (i := 1253) (by decide +kernel)) (by decide +kernel)
theorem q1334 : Cond.constantLong RX12 272 (-1000000001) ∈ lw_g := in_g (List.mem_of_getElem? (i := 1334) (by decide +kernel)) (by decide +kernel)
theorem q1347 : Cond.constantLong RX12 277 (7) ∈ lw_g := in_g (List.mem_of_getElem? (i := 1347) (by decide +kernel)) (by decide +kernel)
theorem q1356 : Cond.constantLong RX12 279 (3) ∈ lw_g := in_g (List.mem_of_getElem? (i := 1356) (by decide +kernel)) (by decide +kernel)
theorem q1373 : Cond.constantLong RX12 287 (9) ∈ lw_g := in_g (List.mem_of_getElem? (i := 1373) (by decide +kernel)) (by decide +kernel)
theorem q1386 : Cond.constant RX12 289 (-1000000003) ∈ lw_g := in_g (List.mem_of_getElem? (i := 1386) (by decide +kernel)) (by decide +kernel)
theorem q1448 : Cond.constantLong RX12 299 (1103515245) ∈ lw_g := in_g (List.mem_of_getElem? (i := 1448) (by decide +kernel)) (by decide +kernel)
theorem q1449 : Cond.constantLong RX12 301 (12345) ∈ lw_g := in_g (List.mem_of_getElem? (i := 1449) (by decide +kernel)) (by decide +kernel)
theorem q1450 : Cond.constantLong RX12 303 (2147483648) ∈ lw_g := in_g (List.mem_of_getElem? (i := 1450) (by decide +kernel)) (by decide +kernel)
theorem q1451 : Cond.constant RX12 305 (65536) ∈ lw_g := in_g (List.mem_of_getElem? (i := 1451) (by decide +kernel)) (by decide +kernel)
theorem q1439 : Cond.constantLong RX12 309 (6) ∈ lw_g := in_g (List.mem_of_getElem? (i := 1439) (by decide +kernel)) (by decide +kernel)
theorem q1456 : Cond.constantLong RX12 314 (16) ∈ lw_g := in_g (List.mem_of_getElem? (i := 1456) (by decide +kernel)) (by decide +kernel)
theorem q537 : Cond.constant RJ6 265 (1431655765) ∈ lw_g := in_g (List.mem_of_getElem? (i := 537) (by decide +kernel)) (by decide +kernel)
theorem q538 : Cond.constant RJ6 266 (858993459) ∈ lw_g := in_g (List.mem_of_getElem? (i := 538) (by decide +kernel)) (by decide +kernel)
theorem q539 : Cond.constant RJ6 267 (252645135) ∈ lw_g := in_g (List.mem_of_getElem? (i := 539) (by decide +kernel)) (by decide +kernel)
end SV
theorem q106 : Cond.methodLink RX11 1 Lib.objectInit ∈ lw_g := in_g (List.mem_of_getElem? (i := 106) (by decide +kernel)) (by decide +kernel)
theorem q108 : Cond.code Lib.objectInit ⟨#[0xb1]⟩ 1 none ∈ lw_g := in_g (List.mem_of_getElem? (i := 108) (by decide +kernel)) (by decide +kernel)
theorem q107 : Cond.instanceMethod Lib.objectInit ∈ lw_g := in_g (List.mem_of_getElem? (i := 107) (by decide +kernel)) (by decide +kernel)
theorem q113 : Cond.code yX8_init cX8_init 1 none ∈ lw_g := in_g (List.mem_of_getElem? (i := 113) (by decide +kernel)) (by decide +kernel)
theorem gw11_9 : GoodIn lw_g (Cond.code yX8_init cX8_init 1 none :: lw_g) := gC q113
theorem gn11_9 : (RX11, 9, yX8_init, "OneStrokes") ∈ nestW := by decide +kernel
theorem q112 : Cond.instanceMethod yX8_init ∈ lw_g := in_g (List.mem_of_getElem? (i := 112) (by decide +kernel)) (by decide +kernel)
theorem q128 : Cond.code yX9_init cX9_init 1 none ∈ lw_g := in_g (List.mem_of_getElem? (i := 128) (by decide +kernel)) (by decide +kernel)
theorem gw11_18 : GoodIn lw_g (Cond.code yX9_init cX9_init 1 none :: lw_g) := gC q128
theorem gn11_18 : (RX11, 18, yX9_init, "OneStrokes") ∈ nestW := by decide +kernel
theorem q127 : Cond.instanceMethod yX9_init ∈ lw_g := in_g (List.mem_of_getElem? (i := 127) (by decide +kernel)) (by decide +kernel)
theorem q145 : Cond.code yX0_init cX0_init 1 none ∈ lw_g := in_g (List.mem_of_getElem? (i := 145) (by decide +kernel)) (by decide +kernel)
theorem gw11_25 : GoodIn lw_g (Cond.code yX0_init cX0_init 1 none :: lw_g) := gC q145
theorem gn11_25 : (RX11, 25, yX0_init, "OneStrokes") ∈ nestW := by decide +kernel
theorem q144 : Cond.instanceMethod yX0_init ∈ lw_g := in_g (List.mem_of_getElem? (i := 144) (by decide +kernel)) (by decide +kernel)
theorem q161 : Cond.code yX5_init cX5_init 1 none ∈ lw_g := in_g (List.mem_of_getElem? (i := 161) (by decide +kernel)) (by decide +kernel)
theorem gw11_32 : GoodIn lw_g (Cond.code yX5_init cX5_init 1 none :: lw_g) := gC q161
theorem gn11_32 : (RX11, 32, yX5_init, "OneStrokes") ∈ nestW := by decide +kernel
theorem q160 : Cond.instanceMethod yX5_init ∈ lw_g := in_g (List.mem_of_getElem? (i := 160) (by decide +kernel)) (by decide +kernel)
theorem q180 : Cond.code yX6_init cX6_init 1 none ∈ lw_g := in_g (List.mem_of_getElem? (i := 180) (by decide +kernel)) (by decide +kernel)
theorem gw11_39 : GoodIn lw_g (Cond.code yX6_init cX6_init 1 none :: lw_g) := gC q180
theorem gn11_39 : (RX11, 39, yX6_init, "OneStrokes") ∈ nestW := by decide +kernel
theorem q179 : Cond.instanceMethod yX6_init ∈ lw_g := in_g (List.mem_of_getElem? (i := 179) (by decide +kernel)) (by decide +kernel)
theorem q198 : Cond.code yX2_init cX2_init 1 none ∈ lw_g := in_g (List.mem_of_getElem? (i := 198) (by decide +kernel)) (by decide +kernel)
theorem gw11_46 : GoodIn lw_g (Cond.code yX2_init cX2_init 1 none :: lw_g) := gC q198
theorem gn11_46 : (RX11, 46, yX2_init, "OneStrokes") ∈ nestW := by decide +kernel
theorem q197 : Cond.instanceMethod yX2_init ∈ lw_g := in_g (List.mem_of_getElem? (i := 197) (by decide +kernel)) (by decide +kernel)
theorem q208 : Cond.code yX1_init cX1_init 1 none ∈ lw_g := in_g (List.mem_of_getElem? (i := 208) (by decide +kernel)) (by decide +kernel)
theorem gw11_53 : GoodIn lw_g (Cond.code yX1_init cX1_init 1 none :: lw_g) := gC q208
theorem gn11_53 : (RX11, 53, yX1_init, "OneStrokes") ∈ nestW := by decide +kernel
theorem q207 : Cond.instanceMethod yX1_init ∈ lw_g := in_g (List.mem_of_getElem? (i := 207) (by decide +kernel)) (by decide +kernel)
theorem q221 : Cond.code yX4_init cX4_init 1 none ∈ lw_g := in_g (List.mem_of_getElem? (i := 221) (by decide +kernel)) (by decide +kernel)
theorem gw11_60 : GoodIn lw_g (Cond.code yX4_init cX4_init 1 none :: lw_g) := gC q221
theorem gn11_60 : (RX11, 60, yX4_init, "OneStrokes") ∈ nestW := by decide +kernel
theorem q220 : Cond.instanceMethod yX4_init ∈ lw_g := in_g (List.mem_of_getElem? (i := 220) (by decide +kernel)) (by decide +kernel)
theorem q263 : Cond.methodLink RX11 66 yX9_put ∈ lw_g := in_g (List.mem_of_getElem? (i := 263) (by decide +kernel)) (by decide +kernel)
theorem q265 : Cond.selects RX9 yX9_put yX9_put ∈ lw_g := in_g (List.mem_of_getElem? (i := 265) (by decide +kernel)) (by decide +kernel)
theorem q264 : Cond.instanceMethod yX9_put ∈ lw_g := in_g (List.mem_of_getElem? (i := 264) (by decide +kernel)) (by decide +kernel)
theorem q266 : Cond.code yX9_put cX9_put 2 (some .boolean) ∈ lw_g := in_g (List.mem_of_getElem? (i := 266) (by decide +kernel)) (by decide +kernel)
theorem gw11_66 : GoodIn lw_g (wsV RX11 66 RX9 yX9_put (Cond.code yX9_put cX9_put 2 (some .boolean) :: lw_g)) := gV q263 q264 q265 q88 q266
theorem q267 : Cond.methodLink RX11 70 yX9_length ∈ lw_g := in_g (List.mem_of_getElem? (i := 267) (by decide +kernel)) (by decide +kernel)
theorem q269 : Cond.selects RX9 yX9_length yX9_length ∈ lw_g := in_g (List.mem_of_getElem? (i := 269) (by decide +kernel)) (by decide +kernel)
theorem q268 : Cond.instanceMethod yX9_length ∈ lw_g := in_g (List.mem_of_getElem? (i := 268) (by decide +kernel)) (by decide +kernel)
theorem q270 : Cond.code yX9_length cX9_length 1 (some .int) ∈ lw_g := in_g (List.mem_of_getElem? (i := 270) (by decide +kernel)) (by decide +kernel)
theorem gw11_70 : GoodIn lw_g (wsV RX11 70 RX9 yX9_length (Cond.code yX9_length cX9_length 1 (some .int) :: lw_g)) := gV q267 q268 q269 q88 q270
theorem q276 : Cond.methodLink RX11 75 yX8_isFull ∈ lw_g := in_g (List.mem_of_getElem? (i := 276) (by decide +kernel)) (by decide +kernel)
theorem q278 : Cond.selects RX8 yX8_isFull yX8_isFull ∈ lw_g := in_g (List.mem_of_getElem? (i := 278) (by decide +kernel)) (by decide +kernel)
theorem q277 : Cond.instanceMethod yX8_isFull ∈ lw_g := in_g (List.mem_of_getElem? (i := 277) (by decide +kernel)) (by decide +kernel)
theorem q279 : Cond.code yX8_isFull cX8_isFull 1 (some .boolean) ∈ lw_g := in_g (List.mem_of_getElem? (i := 279) (by decide +kernel)) (by decide +kernel)
theorem gw11_75 : GoodIn lw_g (wsV RX11 75 RX8 yX8_isFull (Cond.code yX8_isFull cX8_isFull 1 (some .boolean) :: lw_g)) := gV q276 q277 q278 q87 q279
theorem q280 : Cond.methodLink RX11 79 yX9_judge ∈ lw_g := in_g (List.mem_of_getElem? (i := 280) (by decide +kernel)) (by decide +kernel)
theorem q282 : Cond.selects RX9 yX9_judge yX9_judge ∈ lw_g := in_g (List.mem_of_getElem? (i := 282) (by decide +kernel)) (by decide +kernel)
theorem q281 : Cond.instanceMethod yX9_judge ∈ lw_g := in_g (List.mem_of_getElem? (i := 281) (by decide +kernel)) (by decide +kernel)
theorem q283 : Cond.code yX9_judge cX9_judge 5 (some .int) ∈ lw_g := in_g (List.mem_of_getElem? (i := 283) (by decide +kernel)) (by decide +kernel)
theorem gw11_79 : GoodIn lw_g (wsV RX11 79 RX9 yX9_judge (Cond.code yX9_judge cX9_judge 5 (some .int) :: lw_g)) := gV q280 q281 q282 q88 q283
theorem q291 : Cond.methodLink RX11 82 yX9_copyTo ∈ lw_g := in_g (List.mem_of_getElem? (i := 291) (by decide +kernel)) (by decide +kernel)
theorem q293 : Cond.selects RX9 yX9_copyTo yX9_copyTo ∈ lw_g := in_g (List.mem_of_getElem? (i := 293) (by decide +kernel)) (by decide +kernel)
theorem q292 : Cond.instanceMethod yX9_copyTo ∈ lw_g := in_g (List.mem_of_getElem? (i := 292) (by decide +kernel)) (by decide +kernel)
theorem q294 : Cond.code yX9_copyTo cX9_copyTo 3 none ∈ lw_g := in_g (List.mem_of_getElem? (i := 294) (by decide +kernel)) (by decide +kernel)
theorem gw11_82 : GoodIn lw_g (wsV RX11 82 RX9 yX9_copyTo (Cond.code yX9_copyTo cX9_copyTo 3 none :: lw_g)) := gV q291 q292 q293 q88 q294
theorem q303 : Cond.methodLink RX11 86 yX9_clear ∈ lw_g := in_g (List.mem_of_getElem? (i := 303) (by decide +kernel)) (by decide +kernel)
theorem q305 : Cond.selects RX9 yX9_clear yX9_clear ∈ lw_g := in_g (List.mem_of_getElem? (i := 305) (by decide +kernel)) (by decide +kernel)
theorem q304 : Cond.instanceMethod yX9_clear ∈ lw_g := in_g (List.mem_of_getElem? (i := 304) (by decide +kernel)) (by decide +kernel)
theorem q306 : Cond.code yX9_clear cX9_clear 1 none ∈ lw_g := in_g (List.mem_of_getElem? (i := 306) (by decide +kernel)) (by decide +kernel)
theorem gw11_86 : GoodIn lw_g (wsV RX11 86 RX9 yX9_clear (Cond.code yX9_clear cX9_clear 1 none :: lw_g)) := gV q303 q304 q305 q88 q306
theorem q307 : Cond.methodLink RX11 89 yX11_comesAsWord ∈ lw_g := in_g (List.mem_of_getElem? (i := 307) (by decide +kernel)) (by decide +kernel)
theorem q1 : Cond.selects RX11 yX11_comesAsWord yX11_comesAsWord ∈ lw_g := in_g (List.mem_of_getElem? (i := 1) (by decide +kernel)) (by decide +kernel)
theorem q309 : Cond.instanceMethod yX11_comesAsWord ∈ lw_g := in_g (List.mem_of_getElem? (i := 309) (by decide +kernel)) (by decide +kernel)
theorem q310 : Cond.code yX11_comesAsWord cX11_comesAsWord 1 (some .int) ∈ lw_g := in_g (List.mem_of_getElem? (i := 310) (by decide +kernel)) (by decide +kernel)
theorem gw11_89 : GoodIn lw_g (wsV RX11 89 RX11 yX11_comesAsWord (Cond.code yX11_comesAsWord cX11_comesAsWord 1 (some .int) :: lw_g)) := gV q307 q309 q1 q86 q310
theorem q418 : Cond.methodLink RX11 92 yX9_faultPlace ∈ lw_g := in_g (List.mem_of_getElem? (i := 418) (by decide +kernel)) (by decide +kernel)
theorem q420 : Cond.selects RX9 yX9_faultPlace yX9_faultPlace ∈ lw_g := in_g (List.mem_of_getElem? (i := 420) (by decide +kernel)) (by decide +kernel)
theorem q419 : Cond.instanceMethod yX9_faultPlace ∈ lw_g := in_g (List.mem_of_getElem? (i := 419) (by decide +kernel)) (by decide +kernel)
theorem q421 : Cond.code yX9_faultPlace cX9_faultPlace 1 (some .int) ∈ lw_g := in_g (List.mem_of_getElem? (i := 421) (by decide +kernel)) (by decide +kernel)
theorem gw11_92 : GoodIn lw_g (wsV RX11 92 RX9 yX9_faultPlace (Cond.code yX9_faultPlace cX9_faultPlace 1 (some .int) :: lw_g)) := gV q418 q419 q420 q88 q421
theorem q413 : Cond.methodLink RX11 95 yX8_count ∈ lw_g := in_g (List.mem_of_getElem? (i := 413) (by decide +kernel)) (by decide +kernel)
theorem q322 : Cond.selects RX8 yX8_count yX8_count ∈ lw_g := in_g (List.mem_of_getElem? (i := 322) (by decide +kernel)) (by decide +kernel)
theorem q321 : Cond.instanceMethod yX8_count ∈ lw_g := in_g (List.mem_of_getElem? (i := 321) (by decide +kernel)) (by decide +kernel)
theorem q323 : Cond.code yX8_count cX8_count 1 (some .int) ∈ lw_g := in_g (List.mem_of_getElem? (i := 323) (by decide +kernel)) (by decide +kernel)
theorem gw11_95 : GoodIn lw_g (wsV RX11 95 RX8 yX8_count (Cond.code yX8_count cX8_count 1 (some .int) :: lw_g)) := gV q413 q321 q322 q87 q323
theorem q426 : Cond.methodLink RX11 98 yX8_unlike ∈ lw_g := in_g (List.mem_of_getElem? (i := 426) (by decide +kernel)) (by decide +kernel)
theorem q428 : Cond.selects RX8 yX8_unlike yX8_unlike ∈ lw_g := in_g (List.mem_of_getElem? (i := 428) (by decide +kernel)) (by decide +kernel)
theorem q427 : Cond.instanceMethod yX8_unlike ∈ lw_g := in_g (List.mem_of_getElem? (i := 427) (by decide +kernel)) (by decide +kernel)
theorem q429 : Cond.code yX8_unlike cX8_unlike 3 (some .int) ∈ lw_g := in_g (List.mem_of_getElem? (i := 429) (by decide +kernel)) (by decide +kernel)
theorem gw11_98 : GoodIn lw_g (wsV RX11 98 RX8 yX8_unlike (Cond.code yX8_unlike cX8_unlike 3 (some .int) :: lw_g)) := gV q426 q427 q428 q87 q429
theorem q462 : Cond.methodLink RX11 101 yX0_count ∈ lw_g := in_g (List.mem_of_getElem? (i := 462) (by decide +kernel)) (by decide +kernel)
theorem q464 : Cond.selects RX0 yX0_count yX0_count ∈ lw_g := in_g (List.mem_of_getElem? (i := 464) (by decide +kernel)) (by decide +kernel)
theorem q463 : Cond.instanceMethod yX0_count ∈ lw_g := in_g (List.mem_of_getElem? (i := 463) (by decide +kernel)) (by decide +kernel)
theorem q465 : Cond.code yX0_count cX0_count 1 (some .int) ∈ lw_g := in_g (List.mem_of_getElem? (i := 465) (by decide +kernel)) (by decide +kernel)
theorem gw11_101 : GoodIn lw_g (wsV RX11 101 RX0 yX0_count (Cond.code yX0_count cX0_count 1 (some .int) :: lw_g)) := gV q462 q463 q464 q89 q465
theorem q466 : Cond.methodLink RX11 102 yX0_firstWrong ∈ lw_g := in_g (List.mem_of_getElem? (i := 466) (by decide +kernel)) (by decide +kernel)
theorem q468 : Cond.selects RX0 yX0_firstWrong yX0_firstWrong ∈ lw_g := in_g (List.mem_of_getElem? (i := 468) (by decide +kernel)) (by decide +kernel)
theorem q467 : Cond.instanceMethod yX0_firstWrong ∈ lw_g := in_g (List.mem_of_getElem? (i := 467) (by decide +kernel)) (by decide +kernel)
theorem q469 : Cond.code yX0_firstWrong cX0_firstWrong 5 (some .int) ∈ lw_g := in_g (List.mem_of_getElem? (i := 469) (by decide +kernel)) (by decide +kernel)
theorem gw11_102 : GoodIn lw_g (wsV RX11 102 RX0 yX0_firstWrong (Cond.code yX0_firstWrong cX0_firstWrong 5 (some .int) :: lw_g)) := gV q466 q467 q468 q89 q469
theorem q503 : Cond.methodLink RX11 106 yX5_count ∈ lw_g := in_g (List.mem_of_getElem? (i := 503) (by decide +kernel)) (by decide +kernel)
theorem q505 : Cond.selects RX5 yX5_count yX5_count ∈ lw_g := in_g (List.mem_of_getElem? (i := 505) (by decide +kernel)) (by decide +kernel)
theorem q504 : Cond.instanceMethod yX5_count ∈ lw_g := in_g (List.mem_of_getElem? (i := 504) (by decide +kernel)) (by decide +kernel)
theorem q506 : Cond.code yX5_count cX5_count 1 (some .int) ∈ lw_g := in_g (List.mem_of_getElem? (i := 506) (by decide +kernel)) (by decide +kernel)
theorem gw11_106 : GoodIn lw_g (wsV RX11 106 RX5 yX5_count (Cond.code yX5_count cX5_count 1 (some .int) :: lw_g)) := gV q503 q504 q505 q90 q506
theorem q507 : Cond.methodLink RX11 107 yX2_current ∈ lw_g := in_g (List.mem_of_getElem? (i := 507) (by decide +kernel)) (by decide +kernel)
theorem q509 : Cond.selects RX2 yX2_current yX2_current ∈ lw_g := in_g (List.mem_of_getElem? (i := 509) (by decide +kernel)) (by decide +kernel)
theorem q508 : Cond.instanceMethod yX2_current ∈ lw_g := in_g (List.mem_of_getElem? (i := 508) (by decide +kernel)) (by decide +kernel)
theorem q510 : Cond.code yX2_current cX2_current 1 (some .int) ∈ lw_g := in_g (List.mem_of_getElem? (i := 510) (by decide +kernel)) (by decide +kernel)
theorem gw11_107 : GoodIn lw_g (wsV RX11 107 RX2 yX2_current (Cond.code yX2_current cX2_current 1 (some .int) :: lw_g)) := gV q507 q508 q509 q92 q510
theorem q515 : Cond.methodLink RX11 110 yX8_get ∈ lw_g := in_g (List.mem_of_getElem? (i := 515) (by decide +kernel)) (by decide +kernel)
theorem q326 : Cond.selects RX8 yX8_get yX8_get ∈ lw_g := in_g (List.mem_of_getElem? (i := 326) (by decide +kernel)) (by decide +kernel)
theorem q325 : Cond.instanceMethod yX8_get ∈ lw_g := in_g (List.mem_of_getElem? (i := 325) (by decide +kernel)) (by decide +kernel)
theorem q327 : Cond.code yX8_get cX8_get 2 (some (.object "OneStrokes$Word")) ∈ lw_g := in_g (List.mem_of_getElem? (i := 327) (by decide +kernel)) (by decide +kernel)
theorem gw11_110 : GoodIn lw_g (wsV RX11 110 RX8 yX8_get (Cond.code yX8_get cX8_get 2 (some (.object "OneStrokes$Word")) :: lw_g)) := gV q515 q325 q326 q87 q327
theorem q517 : Cond.methodLink RX11 115 yX10_row ∈ lw_g := in_g (List.mem_of_getElem? (i := 517) (by decide +kernel)) (by decide +kernel)
theorem q436 : Cond.selects RX10 yX10_row yX10_row ∈ lw_g := in_g (List.mem_of_getElem? (i := 436) (by decide +kernel)) (by decide +kernel)
theorem q435 : Cond.instanceMethod yX10_row ∈ lw_g := in_g (List.mem_of_getElem? (i := 435) (by decide +kernel)) (by decide +kernel)
theorem q437 : Cond.code yX10_row cX10_row 1 (some (.object "OneStrokes$Row")) ∈ lw_g := in_g (List.mem_of_getElem? (i := 437) (by decide +kernel)) (by decide +kernel)
theorem gw11_115 : GoodIn lw_g (wsV RX11 115 RX10 yX10_row (Cond.code yX10_row cX10_row 1 (some (.object "OneStrokes$Row")) :: lw_g)) := gV q517 q435 q436 q97 q437
theorem q518 : Cond.methodLink RX11 121 yX7_letterCount ∈ lw_g := in_g (List.mem_of_getElem? (i := 518) (by decide +kernel)) (by decide +kernel)
theorem q520 : Cond.selects RX7 yX7_letterCount yX7_letterCount ∈ lw_g := in_g (List.mem_of_getElem? (i := 520) (by decide +kernel)) (by decide +kernel)
theorem q519 : Cond.instanceMethod yX7_letterCount ∈ lw_g := in_g (List.mem_of_getElem? (i := 519) (by decide +kernel)) (by decide +kernel)
theorem q521 : Cond.code yX7_letterCount cX7_letterCount 1 (some .int) ∈ lw_g := in_g (List.mem_of_getElem? (i := 521) (by decide +kernel)) (by decide +kernel)
theorem gw11_121 : GoodIn lw_g (wsV RX11 121 RX7 yX7_letterCount (Cond.code yX7_letterCount cX7_letterCount 1 (some .int) :: lw_g)) := gV q518 q519 q520 q98 q521
theorem q522 : Cond.methodLink RX11 126 yX7_parts ∈ lw_g := in_g (List.mem_of_getElem? (i := 522) (by decide +kernel)) (by decide +kernel)
theorem q524 : Cond.selects RX7 yX7_parts yX7_parts ∈ lw_g := in_g (List.mem_of_getElem? (i := 524) (by decide +kernel)) (by decide +kernel)
theorem q523 : Cond.instanceMethod yX7_parts ∈ lw_g := in_g (List.mem_of_getElem? (i := 523) (by decide +kernel)) (by decide +kernel)
theorem q525 : Cond.code yX7_parts cX7_parts 4 (some .int) ∈ lw_g := in_g (List.mem_of_getElem? (i := 525) (by decide +kernel)) (by decide +kernel)
theorem gw11_126 : GoodIn lw_g (wsV RX11 126 RX7 yX7_parts (Cond.code yX7_parts cX7_parts 4 (some .int) :: lw_g)) := gV q522 q523 q524 q98 q525
theorem q526 : Cond.methodLink RX11 130 yX7_brokenLaw ∈ lw_g := in_g (List.mem_of_getElem? (i := 526) (by decide +kernel)) (by decide +kernel)
theorem q528 : Cond.selects RX7 yX7_brokenLaw yX7_brokenLaw ∈ lw_g := in_g (List.mem_of_getElem? (i := 528) (by decide +kernel)) (by decide +kernel)
theorem q527 : Cond.instanceMethod yX7_brokenLaw ∈ lw_g := in_g (List.mem_of_getElem? (i := 527) (by decide +kernel)) (by decide +kernel)
theorem q529 : Cond.code yX7_brokenLaw cX7_brokenLaw 2 (some .int) ∈ lw_g := in_g (List.mem_of_getElem? (i := 529) (by decide +kernel)) (by decide +kernel)
theorem gw11_130 : GoodIn lw_g (wsV RX11 130 RX7 yX7_brokenLaw (Cond.code yX7_brokenLaw cX7_brokenLaw 2 (some .int) :: lw_g)) := gV q526 q527 q528 q98 q529
theorem q564 : Cond.methodLink RX11 133 yX10_signSet ∈ lw_g := in_g (List.mem_of_getElem? (i := 564) (by decide +kernel)) (by decide +kernel)
theorem q566 : Cond.selects RX10 yX10_signSet yX10_signSet ∈ lw_g := in_g (List.mem_of_getElem? (i := 566) (by decide +kernel)) (by decide +kernel)
theorem q565 : Cond.instanceMethod yX10_signSet ∈ lw_g := in_g (List.mem_of_getElem? (i := 565) (by decide +kernel)) (by decide +kernel)
theorem q567 : Cond.code yX10_signSet cX10_signSet 1 (some .int) ∈ lw_g := in_g (List.mem_of_getElem? (i := 567) (by decide +kernel)) (by decide +kernel)
theorem gw11_133 : GoodIn lw_g (wsV RX11 133 RX10 yX10_signSet (Cond.code yX10_signSet cX10_signSet 1 (some .int) :: lw_g)) := gV q564 q565 q566 q97 q567
theorem q568 : Cond.methodLink RX11 136 yX10_faces ∈ lw_g := in_g (List.mem_of_getElem? (i := 568) (by decide +kernel)) (by decide +kernel)
theorem q570 : Cond.selects RX10 yX10_faces yX10_faces ∈ lw_g := in_g (List.mem_of_getElem? (i := 570) (by decide +kernel)) (by decide +kernel)
theorem q569 : Cond.instanceMethod yX10_faces ∈ lw_g := in_g (List.mem_of_getElem? (i := 569) (by decide +kernel)) (by decide +kernel)
theorem q571 : Cond.code yX10_faces cX10_faces 2 (some (.object "OneStrokes$Faces")) ∈ lw_g := in_g (List.mem_of_getElem? (i := 571) (by decide +kernel)) (by decide +kernel)
theorem gw11_136 : GoodIn lw_g (wsV RX11 136 RX10 yX10_faces (Cond.code yX10_faces cX10_faces 2 (some (.object "OneStrokes$Faces")) :: lw_g)) := gV q568 q569 q570 q97 q571
theorem q665 : Cond.methodLink RX11 140 yX3_count ∈ lw_g := in_g (List.mem_of_getElem? (i := 665) (by decide +kernel)) (by decide +kernel)
theorem q667 : Cond.selects RX3 yX3_count yX3_count ∈ lw_g := in_g (List.mem_of_getElem? (i := 667) (by decide +kernel)) (by decide +kernel)
theorem q666 : Cond.instanceMethod yX3_count ∈ lw_g := in_g (List.mem_of_getElem? (i := 666) (by decide +kernel)) (by decide +kernel)
theorem q668 : Cond.code yX3_count cX3_count 1 (some .int) ∈ lw_g := in_g (List.mem_of_getElem? (i := 668) (by decide +kernel)) (by decide +kernel)
theorem gw11_140 : GoodIn lw_g (wsV RX11 140 RX3 yX3_count (Cond.code yX3_count cX3_count 1 (some .int) :: lw_g)) := gV q665 q666 q667 q100 q668
theorem q669 : Cond.methodLink RX11 143 yX3_handles ∈ lw_g := in_g (List.mem_of_getElem? (i := 669) (by decide +kernel)) (by decide +kernel)
theorem q671 : Cond.selects RX3 yX3_handles yX3_handles ∈ lw_g := in_g (List.mem_of_getElem? (i := 671) (by decide +kernel)) (by decide +kernel)
theorem q670 : Cond.instanceMethod yX3_handles ∈ lw_g := in_g (List.mem_of_getElem? (i := 670) (by decide +kernel)) (by decide +kernel)
theorem q672 : Cond.code yX3_handles cX3_handles 1 (some .int) ∈ lw_g := in_g (List.mem_of_getElem? (i := 672) (by decide +kernel)) (by decide +kernel)
theorem gw11_143 : GoodIn lw_g (wsV RX11 143 RX3 yX3_handles (Cond.code yX3_handles cX3_handles 1 (some .int) :: lw_g)) := gV q669 q670 q671 q100 q672
theorem q673 : Cond.methodLink RX11 146 yX7_drawnSigns ∈ lw_g := in_g (List.mem_of_getElem? (i := 673) (by decide +kernel)) (by decide +kernel)
theorem q675 : Cond.selects RX7 yX7_drawnSigns yX7_drawnSigns ∈ lw_g := in_g (List.mem_of_getElem? (i := 675) (by decide +kernel)) (by decide +kernel)
theorem q674 : Cond.instanceMethod yX7_drawnSigns ∈ lw_g := in_g (List.mem_of_getElem? (i := 674) (by decide +kernel)) (by decide +kernel)
theorem q676 : Cond.code yX7_drawnSigns cX7_drawnSigns 2 (some .int) ∈ lw_g := in_g (List.mem_of_getElem? (i := 676) (by decide +kernel)) (by decide +kernel)
theorem gw11_146 : GoodIn lw_g (wsV RX11 146 RX7 yX7_drawnSigns (Cond.code yX7_drawnSigns cX7_drawnSigns 2 (some .int) :: lw_g)) := gV q673 q674 q675 q98 q676
theorem q682 : Cond.methodLink RX11 149 yX7_drawings ∈ lw_g := in_g (List.mem_of_getElem? (i := 682) (by decide +kernel)) (by decide +kernel)
theorem q684 : Cond.selects RX7 yX7_drawings yX7_drawings ∈ lw_g := in_g (List.mem_of_getElem? (i := 684) (by decide +kernel)) (by decide +kernel)
theorem q683 : Cond.instanceMethod yX7_drawings ∈ lw_g := in_g (List.mem_of_getElem? (i := 683) (by decide +kernel)) (by decide +kernel)
theorem q685 : Cond.code yX7_drawings cX7_drawings 2 (some .int) ∈ lw_g := in_g (List.mem_of_getElem? (i := 685) (by decide +kernel)) (by decide +kernel)
theorem gw11_149 : GoodIn lw_g (wsV RX11 149 RX7 yX7_drawings (Cond.code yX7_drawings cX7_drawings 2 (some .int) :: lw_g)) := gV q682 q683 q684 q98 q685
theorem q686 : Cond.methodLink RX11 152 yX7_ringsOf ∈ lw_g := in_g (List.mem_of_getElem? (i := 686) (by decide +kernel)) (by decide +kernel)
theorem q478 : Cond.selects RX7 yX7_ringsOf yX7_ringsOf ∈ lw_g := in_g (List.mem_of_getElem? (i := 478) (by decide +kernel)) (by decide +kernel)
theorem q477 : Cond.instanceMethod yX7_ringsOf ∈ lw_g := in_g (List.mem_of_getElem? (i := 477) (by decide +kernel)) (by decide +kernel)
theorem q479 : Cond.code yX7_ringsOf cX7_ringsOf 9 (some .int) ∈ lw_g := in_g (List.mem_of_getElem? (i := 479) (by decide +kernel)) (by decide +kernel)
theorem gw11_152 : GoodIn lw_g (wsV RX11 152 RX7 yX7_ringsOf (Cond.code yX7_ringsOf cX7_ringsOf 9 (some .int) :: lw_g)) := gV q686 q477 q478 q98 q479
theorem q687 : Cond.methodLink RX11 156 yX3_trees ∈ lw_g := in_g (List.mem_of_getElem? (i := 687) (by decide +kernel)) (by decide +kernel)
theorem q689 : Cond.selects RX3 yX3_trees yX3_trees ∈ lw_g := in_g (List.mem_of_getElem? (i := 689) (by decide +kernel)) (by decide +kernel)
theorem q688 : Cond.instanceMethod yX3_trees ∈ lw_g := in_g (List.mem_of_getElem? (i := 688) (by decide +kernel)) (by decide +kernel)
theorem q690 : Cond.code yX3_trees cX3_trees 6 (some .int) ∈ lw_g := in_g (List.mem_of_getElem? (i := 690) (by decide +kernel)) (by decide +kernel)
theorem gw11_156 : GoodIn lw_g (wsV RX11 156 RX3 yX3_trees (Cond.code yX3_trees cX3_trees 6 (some .int) :: lw_g)) := gV q687 q688 q689 q100 q690
theorem q709 : Cond.methodLink RX11 160 yX7_kin ∈ lw_g := in_g (List.mem_of_getElem? (i := 709) (by decide +kernel)) (by decide +kernel)
theorem q711 : Cond.selects RX7 yX7_kin yX7_kin ∈ lw_g := in_g (List.mem_of_getElem? (i := 711) (by decide +kernel)) (by decide +kernel)
theorem q710 : Cond.instanceMethod yX7_kin ∈ lw_g := in_g (List.mem_of_getElem? (i := 710) (by decide +kernel)) (by decide +kernel)
theorem q712 : Cond.code yX7_kin cX7_kin 1 (some .int) ∈ lw_g := in_g (List.mem_of_getElem? (i := 712) (by decide +kernel)) (by decide +kernel)
theorem gw11_160 : GoodIn lw_g (wsV RX11 160 RX7 yX7_kin (Cond.code yX7_kin cX7_kin 1 (some .int) :: lw_g)) := gV q709 q710 q711 q98 q712
theorem q713 : Cond.methodLink RX11 163 yX7_loops ∈ lw_g := in_g (List.mem_of_getElem? (i := 713) (by decide +kernel)) (by decide +kernel)
theorem q715 : Cond.selects RX7 yX7_loops yX7_loops ∈ lw_g := in_g (List.mem_of_getElem? (i := 715) (by decide +kernel)) (by decide +kernel)
theorem q714 : Cond.instanceMethod yX7_loops ∈ lw_g := in_g (List.mem_of_getElem? (i := 714) (by decide +kernel)) (by decide +kernel)
theorem q716 : Cond.code yX7_loops cX7_loops 3 (some .int) ∈ lw_g := in_g (List.mem_of_getElem? (i := 716) (by decide +kernel)) (by decide +kernel)
theorem gw11_163 : GoodIn lw_g (wsV RX11 163 RX7 yX7_loops (Cond.code yX7_loops cX7_loops 3 (some .int) :: lw_g)) := gV q713 q714 q715 q98 q716
theorem q729 : Cond.methodLink RX11 166 yX3_countOfSize ∈ lw_g := in_g (List.mem_of_getElem? (i := 729) (by decide +kernel)) (by decide +kernel)
theorem q731 : Cond.selects RX3 yX3_countOfSize yX3_countOfSize ∈ lw_g := in_g (List.mem_of_getElem? (i := 731) (by decide +kernel)) (by decide +kernel)
theorem q730 : Cond.instanceMethod yX3_countOfSize ∈ lw_g := in_g (List.mem_of_getElem? (i := 730) (by decide +kernel)) (by decide +kernel)
theorem q732 : Cond.code yX3_countOfSize cX3_countOfSize 4 (some .int) ∈ lw_g := in_g (List.mem_of_getElem? (i := 732) (by decide +kernel)) (by decide +kernel)
theorem gw11_166 : GoodIn lw_g (wsV RX11 166 RX3 yX3_countOfSize (Cond.code yX3_countOfSize cX3_countOfSize 4 (some .int) :: lw_g)) := gV q729 q730 q731 q100 q732
theorem q738 : Cond.methodLink RX11 172 yX7_leastCode ∈ lw_g := in_g (List.mem_of_getElem? (i := 738) (by decide +kernel)) (by decide +kernel)
theorem q740 : Cond.selects RX7 yX7_leastCode yX7_leastCode ∈ lw_g := in_g (List.mem_of_getElem? (i := 740) (by decide +kernel)) (by decide +kernel)
theorem q739 : Cond.instanceMethod yX7_leastCode ∈ lw_g := in_g (List.mem_of_getElem? (i := 739) (by decide +kernel)) (by decide +kernel)
theorem q741 : Cond.code yX7_leastCode cX7_leastCode 1 (some .long) ∈ lw_g := in_g (List.mem_of_getElem? (i := 741) (by decide +kernel)) (by decide +kernel)
theorem gw11_172 : GoodIn lw_g (wsV RX11 172 RX7 yX7_leastCode (Cond.code yX7_leastCode cX7_leastCode 1 (some .long) :: lw_g)) := gV q738 q739 q740 q98 q741
theorem q746 : Cond.methodLink RX11 176 yX7_letterOn ∈ lw_g := in_g (List.mem_of_getElem? (i := 746) (by decide +kernel)) (by decide +kernel)
theorem q601 : Cond.selects RX7 yX7_letterOn yX7_letterOn ∈ lw_g := in_g (List.mem_of_getElem? (i := 601) (by decide +kernel)) (by decide +kernel)
theorem q600 : Cond.instanceMethod yX7_letterOn ∈ lw_g := in_g (List.mem_of_getElem? (i := 600) (by decide +kernel)) (by decide +kernel)
theorem q602 : Cond.code yX7_letterOn cX7_letterOn 2 (some .int) ∈ lw_g := in_g (List.mem_of_getElem? (i := 602) (by decide +kernel)) (by decide +kernel)
theorem gw11_176 : GoodIn lw_g (wsV RX11 176 RX7 yX7_letterOn (Cond.code yX7_letterOn cX7_letterOn 2 (some .int) :: lw_g)) := gV q746 q600 q601 q98 q602
theorem q751 : Cond.methodLink RX11 179 yX7_hasLetter ∈ lw_g := in_g (List.mem_of_getElem? (i := 751) (by decide +kernel)) (by decide +kernel)
theorem q557 : Cond.selects RX7 yX7_hasLetter yX7_hasLetter ∈ lw_g := in_g (List.mem_of_getElem? (i := 557) (by decide +kernel)) (by decide +kernel)
theorem q556 : Cond.instanceMethod yX7_hasLetter ∈ lw_g := in_g (List.mem_of_getElem? (i := 556) (by decide +kernel)) (by decide +kernel)
theorem q558 : Cond.code yX7_hasLetter cX7_hasLetter 2 (some .boolean) ∈ lw_g := in_g (List.mem_of_getElem? (i := 558) (by decide +kernel)) (by decide +kernel)
theorem gw11_179 : GoodIn lw_g (wsV RX11 179 RX7 yX7_hasLetter (Cond.code yX7_hasLetter cX7_hasLetter 2 (some .boolean) :: lw_g)) := gV q751 q556 q557 q98 q558
theorem q752 : Cond.methodLink RX11 182 yX7_placeOf ∈ lw_g := in_g (List.mem_of_getElem? (i := 752) (by decide +kernel)) (by decide +kernel)
theorem q723 : Cond.selects RX7 yX7_placeOf yX7_placeOf ∈ lw_g := in_g (List.mem_of_getElem? (i := 723) (by decide +kernel)) (by decide +kernel)
theorem q722 : Cond.instanceMethod yX7_placeOf ∈ lw_g := in_g (List.mem_of_getElem? (i := 722) (by decide +kernel)) (by decide +kernel)
theorem q724 : Cond.code yX7_placeOf cX7_placeOf 3 (some .int) ∈ lw_g := in_g (List.mem_of_getElem? (i := 724) (by decide +kernel)) (by decide +kernel)
theorem gw11_182 : GoodIn lw_g (wsV RX11 182 RX7 yX7_placeOf (Cond.code yX7_placeOf cX7_placeOf 3 (some .int) :: lw_g)) := gV q752 q722 q723 q98 q724
theorem q753 : Cond.methodLink RX11 186 yX7_betweenSet ∈ lw_g := in_g (List.mem_of_getElem? (i := 753) (by decide +kernel)) (by decide +kernel)
theorem q553 : Cond.selects RX7 yX7_betweenSet yX7_betweenSet ∈ lw_g := in_g (List.mem_of_getElem? (i := 553) (by decide +kernel)) (by decide +kernel)
theorem q552 : Cond.instanceMethod yX7_betweenSet ∈ lw_g := in_g (List.mem_of_getElem? (i := 552) (by decide +kernel)) (by decide +kernel)
theorem q554 : Cond.code yX7_betweenSet cX7_betweenSet 2 (some .int) ∈ lw_g := in_g (List.mem_of_getElem? (i := 554) (by decide +kernel)) (by decide +kernel)
theorem gw11_186 : GoodIn lw_g (wsV RX11 186 RX7 yX7_betweenSet (Cond.code yX7_betweenSet cX7_betweenSet 2 (some .int) :: lw_g)) := gV q753 q552 q553 q98 q554
theorem q754 : Cond.methodLink RX11 189 yX3_faceOf ∈ lw_g := in_g (List.mem_of_getElem? (i := 754) (by decide +kernel)) (by decide +kernel)
theorem q625 : Cond.selects RX3 yX3_faceOf yX3_faceOf ∈ lw_g := in_g (List.mem_of_getElem? (i := 625) (by decide +kernel)) (by decide +kernel)
theorem q624 : Cond.instanceMethod yX3_faceOf ∈ lw_g := in_g (List.mem_of_getElem? (i := 624) (by decide +kernel)) (by decide +kernel)
theorem q626 : Cond.code yX3_faceOf cX3_faceOf 4 (some .int) ∈ lw_g := in_g (List.mem_of_getElem? (i := 626) (by decide +kernel)) (by decide +kernel)
theorem gw11_189 : GoodIn lw_g (wsV RX11 189 RX3 yX3_faceOf (Cond.code yX3_faceOf cX3_faceOf 4 (some .int) :: lw_g)) := gV q754 q624 q625 q100 q626
theorem q755 : Cond.methodLink RX11 192 yX3_isPlane ∈ lw_g := in_g (List.mem_of_getElem? (i := 755) (by decide +kernel)) (by decide +kernel)
theorem q757 : Cond.selects RX3 yX3_isPlane yX3_isPlane ∈ lw_g := in_g (List.mem_of_getElem? (i := 757) (by decide +kernel)) (by decide +kernel)
theorem q756 : Cond.instanceMethod yX3_isPlane ∈ lw_g := in_g (List.mem_of_getElem? (i := 756) (by decide +kernel)) (by decide +kernel)
theorem q758 : Cond.code yX3_isPlane cX3_isPlane 1 (some .boolean) ∈ lw_g := in_g (List.mem_of_getElem? (i := 758) (by decide +kernel)) (by decide +kernel)
theorem gw11_192 : GoodIn lw_g (wsV RX11 192 RX3 yX3_isPlane (Cond.code yX3_isPlane cX3_isPlane 1 (some .boolean) :: lw_g)) := gV q755 q756 q757 q100 q758
theorem q759 : Cond.methodLink RX11 195 yX3_middle ∈ lw_g := in_g (List.mem_of_getElem? (i := 759) (by decide +kernel)) (by decide +kernel)
theorem q761 : Cond.selects RX3 yX3_middle yX3_middle ∈ lw_g := in_g (List.mem_of_getElem? (i := 761) (by decide +kernel)) (by decide +kernel)
theorem q760 : Cond.instanceMethod yX3_middle ∈ lw_g := in_g (List.mem_of_getElem? (i := 760) (by decide +kernel)) (by decide +kernel)
theorem q762 : Cond.code yX3_middle cX3_middle 4 (some .int) ∈ lw_g := in_g (List.mem_of_getElem? (i := 762) (by decide +kernel)) (by decide +kernel)
theorem gw11_195 : GoodIn lw_g (wsV RX11 195 RX3 yX3_middle (Cond.code yX3_middle cX3_middle 4 (some .int) :: lw_g)) := gV q759 q760 q761 q100 q762
theorem q767 : Cond.methodLink RX11 198 yX3_hasFace ∈ lw_g := in_g (List.mem_of_getElem? (i := 767) (by decide +kernel)) (by decide +kernel)
theorem q633 : Cond.selects RX3 yX3_hasFace yX3_hasFace ∈ lw_g := in_g (List.mem_of_getElem? (i := 633) (by decide +kernel)) (by decide +kernel)
theorem q632 : Cond.instanceMethod yX3_hasFace ∈ lw_g := in_g (List.mem_of_getElem? (i := 632) (by decide +kernel)) (by decide +kernel)
theorem q634 : Cond.code yX3_hasFace cX3_hasFace 2 (some .boolean) ∈ lw_g := in_g (List.mem_of_getElem? (i := 634) (by decide +kernel)) (by decide +kernel)
theorem gw11_198 : GoodIn lw_g (wsV RX11 198 RX3 yX3_hasFace (Cond.code yX3_hasFace cX3_hasFace 2 (some .boolean) :: lw_g)) := gV q767 q632 q633 q100 q634
theorem q768 : Cond.methodLink RX11 201 yX3_sizeOf ∈ lw_g := in_g (List.mem_of_getElem? (i := 768) (by decide +kernel)) (by decide +kernel)
theorem q770 : Cond.selects RX3 yX3_sizeOf yX3_sizeOf ∈ lw_g := in_g (List.mem_of_getElem? (i := 770) (by decide +kernel)) (by decide +kernel)
theorem q769 : Cond.instanceMethod yX3_sizeOf ∈ lw_g := in_g (List.mem_of_getElem? (i := 769) (by decide +kernel)) (by decide +kernel)
theorem q771 : Cond.code yX3_sizeOf cX3_sizeOf 2 (some .int) ∈ lw_g := in_g (List.mem_of_getElem? (i := 771) (by decide +kernel)) (by decide +kernel)
theorem gw11_201 : GoodIn lw_g (wsV RX11 201 RX3 yX3_sizeOf (Cond.code yX3_sizeOf cX3_sizeOf 2 (some .int) :: lw_g)) := gV q768 q769 q770 q100 q771
theorem q772 : Cond.methodLink RX11 204 yX3_isDark ∈ lw_g := in_g (List.mem_of_getElem? (i := 772) (by decide +kernel)) (by decide +kernel)
theorem q697 : Cond.selects RX3 yX3_isDark yX3_isDark ∈ lw_g := in_g (List.mem_of_getElem? (i := 697) (by decide +kernel)) (by decide +kernel)
theorem q696 : Cond.instanceMethod yX3_isDark ∈ lw_g := in_g (List.mem_of_getElem? (i := 696) (by decide +kernel)) (by decide +kernel)
theorem q698 : Cond.code yX3_isDark cX3_isDark 2 (some .boolean) ∈ lw_g := in_g (List.mem_of_getElem? (i := 698) (by decide +kernel)) (by decide +kernel)
theorem gw11_204 : GoodIn lw_g (wsV RX11 204 RX3 yX3_isDark (Cond.code yX3_isDark cX3_isDark 2 (some .boolean) :: lw_g)) := gV q772 q696 q697 q100 q698
theorem q773 : Cond.methodLink RX11 207 yX3_indexOf ∈ lw_g := in_g (List.mem_of_getElem? (i := 773) (by decide +kernel)) (by decide +kernel)
theorem q701 : Cond.selects RX3 yX3_indexOf yX3_indexOf ∈ lw_g := in_g (List.mem_of_getElem? (i := 701) (by decide +kernel)) (by decide +kernel)
theorem q700 : Cond.instanceMethod yX3_indexOf ∈ lw_g := in_g (List.mem_of_getElem? (i := 700) (by decide +kernel)) (by decide +kernel)
theorem q702 : Cond.code yX3_indexOf cX3_indexOf 2 (some .int) ∈ lw_g := in_g (List.mem_of_getElem? (i := 702) (by decide +kernel)) (by decide +kernel)
theorem gw11_207 : GoodIn lw_g (wsV RX11 207 RX3 yX3_indexOf (Cond.code yX3_indexOf cX3_indexOf 2 (some .int) :: lw_g)) := gV q773 q700 q701 q100 q702
theorem q774 : Cond.methodLink RX11 210 yX3_turnsAround ∈ lw_g := in_g (List.mem_of_getElem? (i := 774) (by decide +kernel)) (by decide +kernel)
theorem q776 : Cond.selects RX3 yX3_turnsAround yX3_turnsAround ∈ lw_g := in_g (List.mem_of_getElem? (i := 776) (by decide +kernel)) (by decide +kernel)
theorem q775 : Cond.instanceMethod yX3_turnsAround ∈ lw_g := in_g (List.mem_of_getElem? (i := 775) (by decide +kernel)) (by decide +kernel)
theorem q777 : Cond.code yX3_turnsAround cX3_turnsAround 4 (some .int) ∈ lw_g := in_g (List.mem_of_getElem? (i := 777) (by decide +kernel)) (by decide +kernel)
theorem gw11_210 : GoodIn lw_g (wsV RX11 210 RX3 yX3_turnsAround (Cond.code yX3_turnsAround cX3_turnsAround 4 (some .int) :: lw_g)) := gV q774 q775 q776 q100 q777
theorem q783 : Cond.methodLink RX11 213 yX7_hasLetters ∈ lw_g := in_g (List.mem_of_getElem? (i := 783) (by decide +kernel)) (by decide +kernel)
theorem q785 : Cond.selects RX7 yX7_hasLetters yX7_hasLetters ∈ lw_g := in_g (List.mem_of_getElem? (i := 785) (by decide +kernel)) (by decide +kernel)
theorem q784 : Cond.instanceMethod yX7_hasLetters ∈ lw_g := in_g (List.mem_of_getElem? (i := 784) (by decide +kernel)) (by decide +kernel)
theorem q786 : Cond.code yX7_hasLetters cX7_hasLetters 2 (some .boolean) ∈ lw_g := in_g (List.mem_of_getElem? (i := 786) (by decide +kernel)) (by decide +kernel)
theorem gw11_213 : GoodIn lw_g (wsV RX11 213 RX7 yX7_hasLetters (Cond.code yX7_hasLetters cX7_hasLetters 2 (some .boolean) :: lw_g)) := gV q783 q784 q785 q98 q786
theorem q791 : Cond.methodLink RX11 216 yX7_setsWithRings ∈ lw_g := in_g (List.mem_of_getElem? (i := 791) (by decide +kernel)) (by decide +kernel)
theorem q474 : Cond.selects RX7 yX7_setsWithRings yX7_setsWithRings ∈ lw_g := in_g (List.mem_of_getElem? (i := 474) (by decide +kernel)) (by decide +kernel)
theorem q473 : Cond.instanceMethod yX7_setsWithRings ∈ lw_g := in_g (List.mem_of_getElem? (i := 473) (by decide +kernel)) (by decide +kernel)
theorem q475 : Cond.code yX7_setsWithRings cX7_setsWithRings 5 (some .int) ∈ lw_g := in_g (List.mem_of_getElem? (i := 475) (by decide +kernel)) (by decide +kernel)
theorem gw11_216 : GoodIn lw_g (wsV RX11 216 RX7 yX7_setsWithRings (Cond.code yX7_setsWithRings cX7_setsWithRings 5 (some .int) :: lw_g)) := gV q791 q473 q474 q98 q475
theorem q796 : Cond.methodLink RX11 219 yX7_isLike ∈ lw_g := in_g (List.mem_of_getElem? (i := 796) (by decide +kernel)) (by decide +kernel)
theorem q440 : Cond.selects RX7 yX7_isLike yX7_isLike ∈ lw_g := in_g (List.mem_of_getElem? (i := 440) (by decide +kernel)) (by decide +kernel)
theorem q439 : Cond.instanceMethod yX7_isLike ∈ lw_g := in_g (List.mem_of_getElem? (i := 439) (by decide +kernel)) (by decide +kernel)
theorem q441 : Cond.code yX7_isLike cX7_isLike 2 (some .boolean) ∈ lw_g := in_g (List.mem_of_getElem? (i := 441) (by decide +kernel)) (by decide +kernel)
theorem gw11_219 : GoodIn lw_g (wsV RX11 219 RX7 yX7_isLike (Cond.code yX7_isLike cX7_isLike 2 (some .boolean) :: lw_g)) := gV q796 q439 q440 q98 q441
theorem q394 : Cond.methodLink RX11 223 yX10_init ∈ lw_g := in_g (List.mem_of_getElem? (i := 394) (by decide +kernel)) (by decide +kernel)
theorem q395 : Cond.instanceMethod yX10_init ∈ lw_g := in_g (List.mem_of_getElem? (i := 395) (by decide +kernel)) (by decide +kernel)
theorem q396 : Cond.code yX10_init cX10_init 3 none ∈ lw_g := in_g (List.mem_of_getElem? (i := 396) (by decide +kernel)) (by decide +kernel)
theorem gw11_223 : GoodIn lw_g (Cond.code yX10_init cX10_init 3 none :: lw_g) := gC q396
theorem q801 : Cond.methodLink RX11 226 yX11_becomes ∈ lw_g := in_g (List.mem_of_getElem? (i := 801) (by decide +kernel)) (by decide +kernel)
theorem q18 : Cond.selects RX11 yX11_becomes yX11_becomes ∈ lw_g := in_g (List.mem_of_getElem? (i := 18) (by decide +kernel)) (by decide +kernel)
theorem q803 : Cond.instanceMethod yX11_becomes ∈ lw_g := in_g (List.mem_of_getElem? (i := 803) (by decide +kernel)) (by decide +kernel)
theorem q804 : Cond.code yX11_becomes cX11_becomes 3 none ∈ lw_g := in_g (List.mem_of_getElem? (i := 804) (by decide +kernel)) (by decide +kernel)
theorem gw11_226 : GoodIn lw_g (wsV RX11 226 RX11 yX11_becomes (Cond.code yX11_becomes cX11_becomes 3 none :: lw_g)) := gV q801 q803 q18 q86 q804
theorem q818 : Cond.methodLink RX11 231 yX7_hasPlace ∈ lw_g := in_g (List.mem_of_getElem? (i := 818) (by decide +kernel)) (by decide +kernel)
theorem q597 : Cond.selects RX7 yX7_hasPlace yX7_hasPlace ∈ lw_g := in_g (List.mem_of_getElem? (i := 597) (by decide +kernel)) (by decide +kernel)
theorem q596 : Cond.instanceMethod yX7_hasPlace ∈ lw_g := in_g (List.mem_of_getElem? (i := 596) (by decide +kernel)) (by decide +kernel)
theorem q598 : Cond.code yX7_hasPlace cX7_hasPlace 2 (some .boolean) ∈ lw_g := in_g (List.mem_of_getElem? (i := 598) (by decide +kernel)) (by decide +kernel)
theorem gw11_231 : GoodIn lw_g (wsV RX11 231 RX7 yX7_hasPlace (Cond.code yX7_hasPlace cX7_hasPlace 2 (some .boolean) :: lw_g)) := gV q818 q596 q597 q98 q598
theorem q819 : Cond.methodLink RX11 234 yX1_writeTurned ∈ lw_g := in_g (List.mem_of_getElem? (i := 819) (by decide +kernel)) (by decide +kernel)
theorem q821 : Cond.selects RX1 yX1_writeTurned yX1_writeTurned ∈ lw_g := in_g (List.mem_of_getElem? (i := 821) (by decide +kernel)) (by decide +kernel)
theorem q820 : Cond.instanceMethod yX1_writeTurned ∈ lw_g := in_g (List.mem_of_getElem? (i := 820) (by decide +kernel)) (by decide +kernel)
theorem q822 : Cond.code yX1_writeTurned cX1_writeTurned 6 none ∈ lw_g := in_g (List.mem_of_getElem? (i := 822) (by decide +kernel)) (by decide +kernel)
theorem gw11_234 : GoodIn lw_g (wsV RX11 234 RX1 yX1_writeTurned (Cond.code yX1_writeTurned cX1_writeTurned 6 none :: lw_g)) := gV q819 q820 q821 q93 q822
theorem q829 : Cond.methodLink RX11 238 yX11_becomesDraft ∈ lw_g := in_g (List.mem_of_getElem? (i := 829) (by decide +kernel)) (by decide +kernel)
theorem q19 : Cond.selects RX11 yX11_becomesDraft yX11_becomesDraft ∈ lw_g := in_g (List.mem_of_getElem? (i := 19) (by decide +kernel)) (by decide +kernel)
theorem q831 : Cond.instanceMethod yX11_becomesDraft ∈ lw_g := in_g (List.mem_of_getElem? (i := 831) (by decide +kernel)) (by decide +kernel)
theorem q832 : Cond.code yX11_becomesDraft cX11_becomesDraft 3 (some (.object "OneStrokes$Row")) ∈ lw_g := in_g (List.mem_of_getElem? (i := 832) (by decide +kernel)) (by decide +kernel)
theorem gw11_238 : GoodIn lw_g (wsV RX11 238 RX11 yX11_becomesDraft (Cond.code yX11_becomesDraft cX11_becomesDraft 3 (some (.object "OneStrokes$Row")) :: lw_g)) := gV q829 q831 q19 q86 q832
theorem q837 : Cond.methodLink RX11 242 yX7_hasStep ∈ lw_g := in_g (List.mem_of_getElem? (i := 837) (by decide +kernel)) (by decide +kernel)
theorem q839 : Cond.selects RX7 yX7_hasStep yX7_hasStep ∈ lw_g := in_g (List.mem_of_getElem? (i := 839) (by decide +kernel)) (by decide +kernel)
theorem q838 : Cond.instanceMethod yX7_hasStep ∈ lw_g := in_g (List.mem_of_getElem? (i := 838) (by decide +kernel)) (by decide +kernel)
theorem q840 : Cond.code yX7_hasStep cX7_hasStep 2 (some .boolean) ∈ lw_g := in_g (List.mem_of_getElem? (i := 840) (by decide +kernel)) (by decide +kernel)
theorem gw11_242 : GoodIn lw_g (wsV RX11 242 RX7 yX7_hasStep (Cond.code yX7_hasStep cX7_hasStep 2 (some .boolean) :: lw_g)) := gV q837 q838 q839 q98 q840
theorem q842 : Cond.methodLink RX11 245 yX1_writeWithLoop ∈ lw_g := in_g (List.mem_of_getElem? (i := 842) (by decide +kernel)) (by decide +kernel)
theorem q844 : Cond.selects RX1 yX1_writeWithLoop yX1_writeWithLoop ∈ lw_g := in_g (List.mem_of_getElem? (i := 844) (by decide +kernel)) (by decide +kernel)
theorem q843 : Cond.instanceMethod yX1_writeWithLoop ∈ lw_g := in_g (List.mem_of_getElem? (i := 843) (by decide +kernel)) (by decide +kernel)
theorem q845 : Cond.code yX1_writeWithLoop cX1_writeWithLoop 5 none ∈ lw_g := in_g (List.mem_of_getElem? (i := 845) (by decide +kernel)) (by decide +kernel)
theorem gw11_245 : GoodIn lw_g (wsV RX11 245 RX1 yX1_writeWithLoop (Cond.code yX1_writeWithLoop cX1_writeWithLoop 5 none :: lw_g)) := gV q842 q843 q844 q93 q845
theorem q855 : Cond.methodLink RX11 248 yX7_isLoop ∈ lw_g := in_g (List.mem_of_getElem? (i := 855) (by decide +kernel)) (by decide +kernel)
theorem q719 : Cond.selects RX7 yX7_isLoop yX7_isLoop ∈ lw_g := in_g (List.mem_of_getElem? (i := 719) (by decide +kernel)) (by decide +kernel)
theorem q718 : Cond.instanceMethod yX7_isLoop ∈ lw_g := in_g (List.mem_of_getElem? (i := 718) (by decide +kernel)) (by decide +kernel)
theorem q720 : Cond.code yX7_isLoop cX7_isLoop 2 (some .boolean) ∈ lw_g := in_g (List.mem_of_getElem? (i := 720) (by decide +kernel)) (by decide +kernel)
theorem gw11_248 : GoodIn lw_g (wsV RX11 248 RX7 yX7_isLoop (Cond.code yX7_isLoop cX7_isLoop 2 (some .boolean) :: lw_g)) := gV q855 q718 q719 q98 q720
theorem q856 : Cond.methodLink RX11 251 yX1_writeWithout ∈ lw_g := in_g (List.mem_of_getElem? (i := 856) (by decide +kernel)) (by decide +kernel)
theorem q858 : Cond.selects RX1 yX1_writeWithout yX1_writeWithout ∈ lw_g := in_g (List.mem_of_getElem? (i := 858) (by decide +kernel)) (by decide +kernel)
theorem q857 : Cond.instanceMethod yX1_writeWithout ∈ lw_g := in_g (List.mem_of_getElem? (i := 857) (by decide +kernel)) (by decide +kernel)
theorem q859 : Cond.code yX1_writeWithout cX1_writeWithout 4 none ∈ lw_g := in_g (List.mem_of_getElem? (i := 859) (by decide +kernel)) (by decide +kernel)
theorem gw11_251 : GoodIn lw_g (wsV RX11 251 RX1 yX1_writeWithout (Cond.code yX1_writeWithout cX1_writeWithout 4 none :: lw_g)) := gV q856 q857 q858 q93 q859
theorem q865 : Cond.methodLink RX11 254 yX1_writeWithPoke ∈ lw_g := in_g (List.mem_of_getElem? (i := 865) (by decide +kernel)) (by decide +kernel)
theorem q867 : Cond.selects RX1 yX1_writeWithPoke yX1_writeWithPoke ∈ lw_g := in_g (List.mem_of_getElem? (i := 867) (by decide +kernel)) (by decide +kernel)
theorem q866 : Cond.instanceMethod yX1_writeWithPoke ∈ lw_g := in_g (List.mem_of_getElem? (i := 866) (by decide +kernel)) (by decide +kernel)
theorem q868 : Cond.code yX1_writeWithPoke cX1_writeWithPoke 8 none ∈ lw_g := in_g (List.mem_of_getElem? (i := 868) (by decide +kernel)) (by decide +kernel)
theorem gw11_254 : GoodIn lw_g (wsV RX11 254 RX1 yX1_writeWithPoke (Cond.code yX1_writeWithPoke cX1_writeWithPoke 8 none :: lw_g)) := gV q865 q866 q867 q93 q868
theorem q873 : Cond.methodLink RX11 258 yX7_isPoke ∈ lw_g := in_g (List.mem_of_getElem? (i := 873) (by decide +kernel)) (by decide +kernel)
theorem q875 : Cond.selects RX7 yX7_isPoke yX7_isPoke ∈ lw_g := in_g (List.mem_of_getElem? (i := 875) (by decide +kernel)) (by decide +kernel)
theorem q874 : Cond.instanceMethod yX7_isPoke ∈ lw_g := in_g (List.mem_of_getElem? (i := 874) (by decide +kernel)) (by decide +kernel)
theorem q876 : Cond.code yX7_isPoke cX7_isPoke 4 (some .boolean) ∈ lw_g := in_g (List.mem_of_getElem? (i := 876) (by decide +kernel)) (by decide +kernel)
theorem gw11_258 : GoodIn lw_g (wsV RX11 258 RX7 yX7_isPoke (Cond.code yX7_isPoke cX7_isPoke 4 (some .boolean) :: lw_g)) := gV q873 q874 q875 q98 q876
theorem q881 : Cond.methodLink RX11 262 yX7_hasThree ∈ lw_g := in_g (List.mem_of_getElem? (i := 881) (by decide +kernel)) (by decide +kernel)
theorem q883 : Cond.selects RX7 yX7_hasThree yX7_hasThree ∈ lw_g := in_g (List.mem_of_getElem? (i := 883) (by decide +kernel)) (by decide +kernel)
theorem q882 : Cond.instanceMethod yX7_hasThree ∈ lw_g := in_g (List.mem_of_getElem? (i := 882) (by decide +kernel)) (by decide +kernel)
theorem q884 : Cond.code yX7_hasThree cX7_hasThree 4 (some .boolean) ∈ lw_g := in_g (List.mem_of_getElem? (i := 884) (by decide +kernel)) (by decide +kernel)
theorem gw11_262 : GoodIn lw_g (wsV RX11 262 RX7 yX7_hasThree (Cond.code yX7_hasThree cX7_hasThree 4 (some .boolean) :: lw_g)) := gV q881 q882 q883 q98 q884
theorem q885 : Cond.methodLink RX11 266 yX7_slideChoice ∈ lw_g := in_g (List.mem_of_getElem? (i := 885) (by decide +kernel)) (by decide +kernel)
theorem q887 : Cond.selects RX7 yX7_slideChoice yX7_slideChoice ∈ lw_g := in_g (List.mem_of_getElem? (i := 887) (by decide +kernel)) (by decide +kernel)
theorem q886 : Cond.instanceMethod yX7_slideChoice ∈ lw_g := in_g (List.mem_of_getElem? (i := 886) (by decide +kernel)) (by decide +kernel)
theorem q888 : Cond.code yX7_slideChoice cX7_slideChoice 8 (some .int) ∈ lw_g := in_g (List.mem_of_getElem? (i := 888) (by decide +kernel)) (by decide +kernel)
theorem gw11_266 : GoodIn lw_g (wsV RX11 266 RX7 yX7_slideChoice (Cond.code yX7_slideChoice cX7_slideChoice 8 (some .int) :: lw_g)) := gV q885 q886 q887 q98 q888
theorem q889 : Cond.methodLink RX11 270 yX1_writeSlid ∈ lw_g := in_g (List.mem_of_getElem? (i := 889) (by decide +kernel)) (by decide +kernel)
theorem q891 : Cond.selects RX1 yX1_writeSlid yX1_writeSlid ∈ lw_g := in_g (List.mem_of_getElem? (i := 891) (by decide +kernel)) (by decide +kernel)
theorem q890 : Cond.instanceMethod yX1_writeSlid ∈ lw_g := in_g (List.mem_of_getElem? (i := 890) (by decide +kernel)) (by decide +kernel)
theorem q892 : Cond.code yX1_writeSlid cX1_writeSlid 9 none ∈ lw_g := in_g (List.mem_of_getElem? (i := 892) (by decide +kernel)) (by decide +kernel)
theorem gw11_270 : GoodIn lw_g (wsV RX11 270 RX1 yX1_writeSlid (Cond.code yX1_writeSlid cX1_writeSlid 9 none :: lw_g)) := gV q889 q890 q891 q93 q892
theorem q906 : Cond.methodLink RX11 274 yX1_writeSmoothed ∈ lw_g := in_g (List.mem_of_getElem? (i := 906) (by decide +kernel)) (by decide +kernel)
theorem q908 : Cond.selects RX1 yX1_writeSmoothed yX1_writeSmoothed ∈ lw_g := in_g (List.mem_of_getElem? (i := 908) (by decide +kernel)) (by decide +kernel)
theorem q907 : Cond.instanceMethod yX1_writeSmoothed ∈ lw_g := in_g (List.mem_of_getElem? (i := 907) (by decide +kernel)) (by decide +kernel)
theorem q909 : Cond.code yX1_writeSmoothed cX1_writeSmoothed 6 none ∈ lw_g := in_g (List.mem_of_getElem? (i := 909) (by decide +kernel)) (by decide +kernel)
theorem gw11_274 : GoodIn lw_g (wsV RX11 274 RX1 yX1_writeSmoothed (Cond.code yX1_writeSmoothed cX1_writeSmoothed 6 none :: lw_g)) := gV q906 q907 q908 q93 q909
theorem q914 : Cond.methodLink RX11 277 yX1_writeSum ∈ lw_g := in_g (List.mem_of_getElem? (i := 914) (by decide +kernel)) (by decide +kernel)
theorem q916 : Cond.selects RX1 yX1_writeSum yX1_writeSum ∈ lw_g := in_g (List.mem_of_getElem? (i := 916) (by decide +kernel)) (by decide +kernel)
theorem q915 : Cond.instanceMethod yX1_writeSum ∈ lw_g := in_g (List.mem_of_getElem? (i := 915) (by decide +kernel)) (by decide +kernel)
theorem q917 : Cond.code yX1_writeSum cX1_writeSum 4 none ∈ lw_g := in_g (List.mem_of_getElem? (i := 917) (by decide +kernel)) (by decide +kernel)
theorem gw11_277 : GoodIn lw_g (wsV RX11 277 RX1 yX1_writeSum (Cond.code yX1_writeSum cX1_writeSum 4 none :: lw_g)) := gV q914 q915 q916 q93 q917
theorem q311 : Cond.methodLink RX11 281 yX5_remember ∈ lw_g := in_g (List.mem_of_getElem? (i := 311) (by decide +kernel)) (by decide +kernel)
theorem q313 : Cond.selects RX5 yX5_remember yX5_remember ∈ lw_g := in_g (List.mem_of_getElem? (i := 313) (by decide +kernel)) (by decide +kernel)
theorem q312 : Cond.instanceMethod yX5_remember ∈ lw_g := in_g (List.mem_of_getElem? (i := 312) (by decide +kernel)) (by decide +kernel)
theorem q314 : Cond.code yX5_remember cX5_remember 2 none ∈ lw_g := in_g (List.mem_of_getElem? (i := 314) (by decide +kernel)) (by decide +kernel)
theorem gw11_281 : GoodIn lw_g (wsV RX11 281 RX5 yX5_remember (Cond.code yX5_remember cX5_remember 2 none :: lw_g)) := gV q311 q312 q313 q90 q314
theorem q922 : Cond.methodLink RX11 285 yX8_remove ∈ lw_g := in_g (List.mem_of_getElem? (i := 922) (by decide +kernel)) (by decide +kernel)
theorem q924 : Cond.selects RX8 yX8_remove yX8_remove ∈ lw_g := in_g (List.mem_of_getElem? (i := 924) (by decide +kernel)) (by decide +kernel)
theorem q923 : Cond.instanceMethod yX8_remove ∈ lw_g := in_g (List.mem_of_getElem? (i := 923) (by decide +kernel)) (by decide +kernel)
theorem q925 : Cond.code yX8_remove cX8_remove 3 none ∈ lw_g := in_g (List.mem_of_getElem? (i := 925) (by decide +kernel)) (by decide +kernel)
theorem gw11_285 : GoodIn lw_g (wsV RX11 285 RX8 yX8_remove (Cond.code yX8_remove cX8_remove 3 none :: lw_g)) := gV q922 q923 q924 q87 q925
theorem q930 : Cond.methodLink RX11 289 yX2_writeRow ∈ lw_g := in_g (List.mem_of_getElem? (i := 930) (by decide +kernel)) (by decide +kernel)
theorem q932 : Cond.selects RX2 yX2_writeRow yX2_writeRow ∈ lw_g := in_g (List.mem_of_getElem? (i := 932) (by decide +kernel)) (by decide +kernel)
theorem q931 : Cond.instanceMethod yX2_writeRow ∈ lw_g := in_g (List.mem_of_getElem? (i := 931) (by decide +kernel)) (by decide +kernel)
theorem q933 : Cond.code yX2_writeRow cX2_writeRow 4 none ∈ lw_g := in_g (List.mem_of_getElem? (i := 933) (by decide +kernel)) (by decide +kernel)
theorem gw11_289 : GoodIn lw_g (wsV RX11 289 RX2 yX2_writeRow (Cond.code yX2_writeRow cX2_writeRow 4 none :: lw_g)) := gV q930 q931 q932 q92 q933
theorem q956 : Cond.methodLink RX11 292 yX5_restore ∈ lw_g := in_g (List.mem_of_getElem? (i := 956) (by decide +kernel)) (by decide +kernel)
theorem q958 : Cond.selects RX5 yX5_restore yX5_restore ∈ lw_g := in_g (List.mem_of_getElem? (i := 958) (by decide +kernel)) (by decide +kernel)
theorem q957 : Cond.instanceMethod yX5_restore ∈ lw_g := in_g (List.mem_of_getElem? (i := 957) (by decide +kernel)) (by decide +kernel)
theorem q959 : Cond.code yX5_restore cX5_restore 4 (some .boolean) ∈ lw_g := in_g (List.mem_of_getElem? (i := 959) (by decide +kernel)) (by decide +kernel)
theorem gw11_292 : GoodIn lw_g (wsV RX11 292 RX5 yX5_restore (Cond.code yX5_restore cX5_restore 4 (some .boolean) :: lw_g)) := gV q956 q957 q958 q90 q959
theorem q967 : Cond.methodLink RX11 296 yX0_put ∈ lw_g := in_g (List.mem_of_getElem? (i := 967) (by decide +kernel)) (by decide +kernel)
theorem q969 : Cond.selects RX0 yX0_put yX0_put ∈ lw_g := in_g (List.mem_of_getElem? (i := 969) (by decide +kernel)) (by decide +kernel)
theorem q968 : Cond.instanceMethod yX0_put ∈ lw_g := in_g (List.mem_of_getElem? (i := 968) (by decide +kernel)) (by decide +kernel)
theorem q970 : Cond.code yX0_put cX0_put 3 (some .boolean) ∈ lw_g := in_g (List.mem_of_getElem? (i := 970) (by decide +kernel)) (by decide +kernel)
theorem gw11_296 : GoodIn lw_g (wsV RX11 296 RX0 yX0_put (Cond.code yX0_put cX0_put 3 (some .boolean) :: lw_g)) := gV q967 q968 q969 q89 q970
theorem q975 : Cond.methodLink RX11 298 yX0_clear ∈ lw_g := in_g (List.mem_of_getElem? (i := 975) (by decide +kernel)) (by decide +kernel)
theorem q977 : Cond.selects RX0 yX0_clear yX0_clear ∈ lw_g := in_g (List.mem_of_getElem? (i := 977) (by decide +kernel)) (by decide +kernel)
theorem q976 : Cond.instanceMethod yX0_clear ∈ lw_g := in_g (List.mem_of_getElem? (i := 976) (by decide +kernel)) (by decide +kernel)
theorem q978 : Cond.code yX0_clear cX0_clear 2 (some .int) ∈ lw_g := in_g (List.mem_of_getElem? (i := 978) (by decide +kernel)) (by decide +kernel)
theorem gw11_298 : GoodIn lw_g (wsV RX11 298 RX0 yX0_clear (Cond.code yX0_clear cX0_clear 2 (some .int) :: lw_g)) := gV q975 q976 q977 q89 q978
theorem q983 : Cond.methodLink RX11 300 yX2_restart ∈ lw_g := in_g (List.mem_of_getElem? (i := 983) (by decide +kernel)) (by decide +kernel)
theorem q985 : Cond.selects RX2 yX2_restart yX2_restart ∈ lw_g := in_g (List.mem_of_getElem? (i := 985) (by decide +kernel)) (by decide +kernel)
theorem q984 : Cond.instanceMethod yX2_restart ∈ lw_g := in_g (List.mem_of_getElem? (i := 984) (by decide +kernel)) (by decide +kernel)
theorem q986 : Cond.code yX2_restart cX2_restart 2 none ∈ lw_g := in_g (List.mem_of_getElem? (i := 986) (by decide +kernel)) (by decide +kernel)
theorem gw11_300 : GoodIn lw_g (wsV RX11 300 RX2 yX2_restart (Cond.code yX2_restart cX2_restart 2 none :: lw_g)) := gV q983 q984 q985 q92 q986
theorem q991 : Cond.methodLink RX11 303 yX6_store ∈ lw_g := in_g (List.mem_of_getElem? (i := 991) (by decide +kernel)) (by decide +kernel)
theorem q993 : Cond.selects RX6 yX6_store yX6_store ∈ lw_g := in_g (List.mem_of_getElem? (i := 993) (by decide +kernel)) (by decide +kernel)
theorem q992 : Cond.instanceMethod yX6_store ∈ lw_g := in_g (List.mem_of_getElem? (i := 992) (by decide +kernel)) (by decide +kernel)
theorem q994 : Cond.code yX6_store cX6_store 3 none ∈ lw_g := in_g (List.mem_of_getElem? (i := 994) (by decide +kernel)) (by decide +kernel)
theorem gw11_303 : GoodIn lw_g (wsV RX11 303 RX6 yX6_store (Cond.code yX6_store cX6_store 3 none :: lw_g)) := gV q991 q992 q993 q91 q994
theorem q996 : Cond.methodLink RX11 307 yX5_clear ∈ lw_g := in_g (List.mem_of_getElem? (i := 996) (by decide +kernel)) (by decide +kernel)
theorem q998 : Cond.selects RX5 yX5_clear yX5_clear ∈ lw_g := in_g (List.mem_of_getElem? (i := 998) (by decide +kernel)) (by decide +kernel)
theorem q997 : Cond.instanceMethod yX5_clear ∈ lw_g := in_g (List.mem_of_getElem? (i := 997) (by decide +kernel)) (by decide +kernel)
theorem q999 : Cond.code yX5_clear cX5_clear 1 none ∈ lw_g := in_g (List.mem_of_getElem? (i := 999) (by decide +kernel)) (by decide +kernel)
theorem gw11_307 : GoodIn lw_g (wsV RX11 307 RX5 yX5_clear (Cond.code yX5_clear cX5_clear 1 none :: lw_g)) := gV q996 q997 q998 q90 q999
theorem q1004 : Cond.methodLink RX11 308 yX6_isKept ∈ lw_g := in_g (List.mem_of_getElem? (i := 1004) (by decide +kernel)) (by decide +kernel)
theorem q1006 : Cond.selects RX6 yX6_isKept yX6_isKept ∈ lw_g := in_g (List.mem_of_getElem? (i := 1006) (by decide +kernel)) (by decide +kernel)
theorem q1005 : Cond.instanceMethod yX6_isKept ∈ lw_g := in_g (List.mem_of_getElem? (i := 1005) (by decide +kernel)) (by decide +kernel)
theorem q1007 : Cond.code yX6_isKept cX6_isKept 1 (some .boolean) ∈ lw_g := in_g (List.mem_of_getElem? (i := 1007) (by decide +kernel)) (by decide +kernel)
theorem gw11_308 : GoodIn lw_g (wsV RX11 308 RX6 yX6_isKept (Cond.code yX6_isKept cX6_isKept 1 (some .boolean) :: lw_g)) := gV q1004 q1005 q1006 q91 q1007
theorem q1008 : Cond.methodLink RX11 311 yX6_shelf ∈ lw_g := in_g (List.mem_of_getElem? (i := 1008) (by decide +kernel)) (by decide +kernel)
theorem q1010 : Cond.selects RX6 yX6_shelf yX6_shelf ∈ lw_g := in_g (List.mem_of_getElem? (i := 1010) (by decide +kernel)) (by decide +kernel)
theorem q1009 : Cond.instanceMethod yX6_shelf ∈ lw_g := in_g (List.mem_of_getElem? (i := 1009) (by decide +kernel)) (by decide +kernel)
theorem q1011 : Cond.code yX6_shelf cX6_shelf 1 (some (.object "OneStrokes$Shelf")) ∈ lw_g := in_g (List.mem_of_getElem? (i := 1011) (by decide +kernel)) (by decide +kernel)
theorem gw11_311 : GoodIn lw_g (wsV RX11 311 RX6 yX6_shelf (Cond.code yX6_shelf cX6_shelf 1 (some (.object "OneStrokes$Shelf")) :: lw_g)) := gV q1008 q1009 q1010 q91 q1011
theorem q1012 : Cond.methodLink RX11 314 yX8_copyFrom ∈ lw_g := in_g (List.mem_of_getElem? (i := 1012) (by decide +kernel)) (by decide +kernel)
theorem q318 : Cond.selects RX8 yX8_copyFrom yX8_copyFrom ∈ lw_g := in_g (List.mem_of_getElem? (i := 318) (by decide +kernel)) (by decide +kernel)
theorem q317 : Cond.instanceMethod yX8_copyFrom ∈ lw_g := in_g (List.mem_of_getElem? (i := 317) (by decide +kernel)) (by decide +kernel)
theorem q319 : Cond.code yX8_copyFrom cX8_copyFrom 3 none ∈ lw_g := in_g (List.mem_of_getElem? (i := 319) (by decide +kernel)) (by decide +kernel)
theorem gw11_314 : GoodIn lw_g (wsV RX11 314 RX8 yX8_copyFrom (Cond.code yX8_copyFrom cX8_copyFrom 3 none :: lw_g)) := gV q1012 q317 q318 q87 q319
theorem q1013 : Cond.methodLink RX11 317 yX6_seedThen ∈ lw_g := in_g (List.mem_of_getElem? (i := 1013) (by decide +kernel)) (by decide +kernel)
theorem q1015 : Cond.selects RX6 yX6_seedThen yX6_seedThen ∈ lw_g := in_g (List.mem_of_getElem? (i := 1015) (by decide +kernel)) (by decide +kernel)
theorem q1014 : Cond.instanceMethod yX6_seedThen ∈ lw_g := in_g (List.mem_of_getElem? (i := 1014) (by decide +kernel)) (by decide +kernel)
theorem q1016 : Cond.code yX6_seedThen cX6_seedThen 1 (some .int) ∈ lw_g := in_g (List.mem_of_getElem? (i := 1016) (by decide +kernel)) (by decide +kernel)
theorem gw11_317 : GoodIn lw_g (wsV RX11 317 RX6 yX6_seedThen (Cond.code yX6_seedThen cX6_seedThen 1 (some .int) :: lw_g)) := gV q1013 q1014 q1015 q91 q1016
theorem q335 : Cond.methodLink RX11 320 yX7_init ∈ lw_g := in_g (List.mem_of_getElem? (i := 335) (by decide +kernel)) (by decide +kernel)
theorem q336 : Cond.instanceMethod yX7_init ∈ lw_g := in_g (List.mem_of_getElem? (i := 336) (by decide +kernel)) (by decide +kernel)
theorem q337 : Cond.code yX7_init cX7_init 5 none ∈ lw_g := in_g (List.mem_of_getElem? (i := 337) (by decide +kernel)) (by decide +kernel)
theorem gw11_320 : GoodIn lw_g (Cond.code yX7_init cX7_init 5 none :: lw_g) := gC q337
theorem q408 : Cond.methodLink RX11 322 yX8_add ∈ lw_g := in_g (List.mem_of_getElem? (i := 408) (by decide +kernel)) (by decide +kernel)
theorem q410 : Cond.selects RX8 yX8_add yX8_add ∈ lw_g := in_g (List.mem_of_getElem? (i := 410) (by decide +kernel)) (by decide +kernel)
theorem q409 : Cond.instanceMethod yX8_add ∈ lw_g := in_g (List.mem_of_getElem? (i := 409) (by decide +kernel)) (by decide +kernel)
theorem q411 : Cond.code yX8_add cX8_add 2 none ∈ lw_g := in_g (List.mem_of_getElem? (i := 411) (by decide +kernel)) (by decide +kernel)
theorem gw11_322 : GoodIn lw_g (wsV RX11 322 RX8 yX8_add (Cond.code yX8_add cX8_add 2 none :: lw_g)) := gV q408 q409 q410 q87 q411
theorem q805 : Cond.methodLink RX11 326 yX8_replace ∈ lw_g := in_g (List.mem_of_getElem? (i := 805) (by decide +kernel)) (by decide +kernel)
theorem q807 : Cond.selects RX8 yX8_replace yX8_replace ∈ lw_g := in_g (List.mem_of_getElem? (i := 807) (by decide +kernel)) (by decide +kernel)
theorem q806 : Cond.instanceMethod yX8_replace ∈ lw_g := in_g (List.mem_of_getElem? (i := 806) (by decide +kernel)) (by decide +kernel)
theorem q808 : Cond.code yX8_replace cX8_replace 3 none ∈ lw_g := in_g (List.mem_of_getElem? (i := 808) (by decide +kernel)) (by decide +kernel)
theorem gw11_326 : GoodIn lw_g (wsV RX11 326 RX8 yX8_replace (Cond.code yX8_replace cX8_replace 3 none :: lw_g)) := gV q805 q806 q807 q87 q808
theorem q146 : Cond.methodLink RX0 3 Lib.objectInit ∈ lw_g := in_g (List.mem_of_getElem? (i := 146) (by decide +kernel)) (by decide +kernel)
theorem q470 : Cond.methodLink RX0 22 yX8_get ∈ lw_g := in_g (List.mem_of_getElem? (i := 470) (by decide +kernel)) (by decide +kernel)
theorem gw0_22 : GoodIn lw_g (wsV RX0 22 RX8 yX8_get (Cond.code yX8_get cX8_get 2 (some (.object "OneStrokes$Word")) :: lw_g)) := gV q470 q325 q326 q87 q327
theorem q471 : Cond.methodLink RX0 28 yX10_row ∈ lw_g := in_g (List.mem_of_getElem? (i := 471) (by decide +kernel)) (by decide +kernel)
theorem gw0_28 : GoodIn lw_g (wsV RX0 28 RX10 yX10_row (Cond.code yX10_row cX10_row 1 (some (.object "OneStrokes$Row")) :: lw_g)) := gV q471 q435 q436 q97 q437
theorem q472 : Cond.methodLink RX0 34 yX7_setsWithRings ∈ lw_g := in_g (List.mem_of_getElem? (i := 472) (by decide +kernel)) (by decide +kernel)
theorem gw0_34 : GoodIn lw_g (wsV RX0 34 RX7 yX7_setsWithRings (Cond.code yX7_setsWithRings cX7_setsWithRings 5 (some .int) :: lw_g)) := gV q472 q473 q474 q98 q475
theorem q209 : Cond.methodLink RX1 3 Lib.objectInit ∈ lw_g := in_g (List.mem_of_getElem? (i := 209) (by decide +kernel)) (by decide +kernel)
theorem q946 : Cond.methodLink RX1 19 yJ9_min_7cf53 ∈ lw_g := in_g (List.mem_of_getElem? (i := 946) (by decide +kernel)) (by decide +kernel)
theorem q96 : Cond.initialized RJ9 ∈ lw_g := in_g (List.mem_of_getElem? (i := 96) (by decide +kernel)) (by decide +kernel)
theorem q329 : Cond.static yJ9_min_7cf53 ∈ lw_g := in_g (List.mem_of_getElem? (i := 329) (by decide +kernel)) (by decide +kernel)
theorem q330 : Cond.code yJ9_min_7cf53 cJ9_min_7cf53 2 (some .int) ∈ lw_g := in_g (List.mem_of_getElem? (i := 330) (by decide +kernel)) (by decide +kernel)
theorem gw1_19 : GoodIn lw_g (va_wsS RX1 19 yJ9_min_7cf53 (Cond.code yJ9_min_7cf53 cJ9_min_7cf53 2 (some .int) :: lw_g)) := gS q946 q329 q96 q330
theorem q947 : Cond.methodLink RX1 25 yJ9_max_7cf53 ∈ lw_g := in_g (List.mem_of_getElem? (i := 947) (by decide +kernel)) (by decide +kernel)
theorem q486 : Cond.static yJ9_max_7cf53 ∈ lw_g := in_g (List.mem_of_getElem? (i := 486) (by decide +kernel)) (by decide +kernel)
theorem q487 : Cond.code yJ9_max_7cf53 cJ9_max_7cf53 2 (some .int) ∈ lw_g := in_g (List.mem_of_getElem? (i := 487) (by decide +kernel)) (by decide +kernel)
theorem gw1_25 : GoodIn lw_g (va_wsS RX1 25 yJ9_max_7cf53 (Cond.code yJ9_max_7cf53 cJ9_max_7cf53 2 (some .int) :: lw_g)) := gS q947 q486 q96 q487
theorem q823 : Cond.methodLink RX1 28 yX1_clear ∈ lw_g := in_g (List.mem_of_getElem? (i := 823) (by decide +kernel)) (by decide +kernel)
theorem q297 : Cond.selects RX1 yX1_clear yX1_clear ∈ lw_g := in_g (List.mem_of_getElem? (i := 297) (by decide +kernel)) (by decide +kernel)
theorem q296 : Cond.instanceMethod yX1_clear ∈ lw_g := in_g (List.mem_of_getElem? (i := 296) (by decide +kernel)) (by decide +kernel)
theorem q298 : Cond.code yX1_clear cX1_clear 1 none ∈ lw_g := in_g (List.mem_of_getElem? (i := 298) (by decide +kernel)) (by decide +kernel)
theorem gw1_28 : GoodIn lw_g (wsV RX1 28 RX1 yX1_clear (Cond.code yX1_clear cX1_clear 1 none :: lw_g)) := gV q823 q296 q297 q93 q298
theorem q824 : Cond.methodLink RX1 31 yX7_placeCount ∈ lw_g := in_g (List.mem_of_getElem? (i := 824) (by decide +kernel)) (by decide +kernel)
theorem q585 : Cond.selects RX7 yX7_placeCount yX7_placeCount ∈ lw_g := in_g (List.mem_of_getElem? (i := 585) (by decide +kernel)) (by decide +kernel)
theorem q584 : Cond.instanceMethod yX7_placeCount ∈ lw_g := in_g (List.mem_of_getElem? (i := 584) (by decide +kernel)) (by decide +kernel)
theorem q586 : Cond.code yX7_placeCount cX7_placeCount 1 (some .int) ∈ lw_g := in_g (List.mem_of_getElem? (i := 586) (by decide +kernel)) (by decide +kernel)
theorem gw1_31 : GoodIn lw_g (wsV RX1 31 RX7 yX7_placeCount (Cond.code yX7_placeCount cX7_placeCount 1 (some .int) :: lw_g)) := gV q824 q584 q585 q98 q586
theorem q825 : Cond.methodLink RX1 37 yX7_letterOn ∈ lw_g := in_g (List.mem_of_getElem? (i := 825) (by decide +kernel)) (by decide +kernel)
theorem gw1_37 : GoodIn lw_g (wsV RX1 37 RX7 yX7_letterOn (Cond.code yX7_letterOn cX7_letterOn 2 (some .int) :: lw_g)) := gV q825 q600 q601 q98 q602
theorem q826 : Cond.methodLink RX1 41 yX1_put ∈ lw_g := in_g (List.mem_of_getElem? (i := 826) (by decide +kernel)) (by decide +kernel)
theorem q301 : Cond.selects RX1 yX1_put yX1_put ∈ lw_g := in_g (List.mem_of_getElem? (i := 301) (by decide +kernel)) (by decide +kernel)
theorem q300 : Cond.instanceMethod yX1_put ∈ lw_g := in_g (List.mem_of_getElem? (i := 300) (by decide +kernel)) (by decide +kernel)
theorem q302 : Cond.code yX1_put cX1_put 2 none ∈ lw_g := in_g (List.mem_of_getElem? (i := 302) (by decide +kernel)) (by decide +kernel)
theorem gw1_41 : GoodIn lw_g (wsV RX1 41 RX1 yX1_put (Cond.code yX1_put cX1_put 2 none :: lw_g)) := gV q826 q300 q301 q93 q302
theorem q827 : Cond.methodLink RX1 45 yX7_placeAhead ∈ lw_g := in_g (List.mem_of_getElem? (i := 827) (by decide +kernel)) (by decide +kernel)
theorem q453 : Cond.selects RX7 yX7_placeAhead yX7_placeAhead ∈ lw_g := in_g (List.mem_of_getElem? (i := 453) (by decide +kernel)) (by decide +kernel)
theorem q452 : Cond.instanceMethod yX7_placeAhead ∈ lw_g := in_g (List.mem_of_getElem? (i := 452) (by decide +kernel)) (by decide +kernel)
theorem q454 : Cond.code yX7_placeAhead cX7_placeAhead 2 (some .int) ∈ lw_g := in_g (List.mem_of_getElem? (i := 454) (by decide +kernel)) (by decide +kernel)
theorem gw1_45 : GoodIn lw_g (wsV RX1 45 RX7 yX7_placeAhead (Cond.code yX7_placeAhead cX7_placeAhead 2 (some .int) :: lw_g)) := gV q827 q452 q453 q98 q454
theorem q828 : Cond.methodLink RX1 48 yX7_placeBehind ∈ lw_g := in_g (List.mem_of_getElem? (i := 828) (by decide +kernel)) (by decide +kernel)
theorem q457 : Cond.selects RX7 yX7_placeBehind yX7_placeBehind ∈ lw_g := in_g (List.mem_of_getElem? (i := 457) (by decide +kernel)) (by decide +kernel)
theorem q456 : Cond.instanceMethod yX7_placeBehind ∈ lw_g := in_g (List.mem_of_getElem? (i := 456) (by decide +kernel)) (by decide +kernel)
theorem q458 : Cond.code yX7_placeBehind cX7_placeBehind 2 (some .int) ∈ lw_g := in_g (List.mem_of_getElem? (i := 458) (by decide +kernel)) (by decide +kernel)
theorem gw1_48 : GoodIn lw_g (wsV RX1 48 RX7 yX7_placeBehind (Cond.code yX7_placeBehind cX7_placeBehind 2 (some .int) :: lw_g)) := gV q828 q456 q457 q98 q458
theorem q846 : Cond.methodLink RX1 51 yX7_letterCount ∈ lw_g := in_g (List.mem_of_getElem? (i := 846) (by decide +kernel)) (by decide +kernel)
theorem gw1_51 : GoodIn lw_g (wsV RX1 51 RX7 yX7_letterCount (Cond.code yX7_letterCount cX7_letterCount 1 (some .int) :: lw_g)) := gV q846 q519 q520 q98 q521
theorem q847 : Cond.methodLink RX1 54 yX1_putTwo ∈ lw_g := in_g (List.mem_of_getElem? (i := 847) (by decide +kernel)) (by decide +kernel)
theorem q20 : Cond.selects RX1 yX1_putTwo yX1_putTwo ∈ lw_g := in_g (List.mem_of_getElem? (i := 20) (by decide +kernel)) (by decide +kernel)
theorem q849 : Cond.instanceMethod yX1_putTwo ∈ lw_g := in_g (List.mem_of_getElem? (i := 849) (by decide +kernel)) (by decide +kernel)
theorem q850 : Cond.code yX1_putTwo cX1_putTwo 3 none ∈ lw_g := in_g (List.mem_of_getElem? (i := 850) (by decide +kernel)) (by decide +kernel)
theorem gw1_54 : GoodIn lw_g (wsV RX1 54 RX1 yX1_putTwo (Cond.code yX1_putTwo cX1_putTwo 3 none :: lw_g)) := gV q847 q849 q20 q93 q850
theorem q490 : Cond.code yX11_isIn cX11_isIn 2 (some .boolean) ∈ lw_g := in_g (List.mem_of_getElem? (i := 490) (by decide +kernel)) (by decide +kernel)
theorem gw1_58 : GoodIn lw_g (Cond.code yX11_isIn cX11_isIn 2 (some .boolean) :: lw_g) := gC q490
theorem gn1_58 : (RX1, 58, yX11_isIn, "OneStrokes") ∈ nestW := by decide +kernel
theorem q489 : Cond.static yX11_isIn ∈ lw_g := in_g (List.mem_of_getElem? (i := 489) (by decide +kernel)) (by decide +kernel)
theorem q893 : Cond.methodLink RX1 62 yX1_putPlaces ∈ lw_g := in_g (List.mem_of_getElem? (i := 893) (by decide +kernel)) (by decide +kernel)
theorem q21 : Cond.selects RX1 yX1_putPlaces yX1_putPlaces ∈ lw_g := in_g (List.mem_of_getElem? (i := 21) (by decide +kernel)) (by decide +kernel)
theorem q895 : Cond.instanceMethod yX1_putPlaces ∈ lw_g := in_g (List.mem_of_getElem? (i := 895) (by decide +kernel)) (by decide +kernel)
theorem q896 : Cond.code yX1_putPlaces cX1_putPlaces 5 none ∈ lw_g := in_g (List.mem_of_getElem? (i := 896) (by decide +kernel)) (by decide +kernel)
theorem gw1_62 : GoodIn lw_g (wsV RX1 62 RX1 yX1_putPlaces (Cond.code yX1_putPlaces cX1_putPlaces 5 none :: lw_g)) := gV q893 q895 q21 q93 q896
theorem q897 : Cond.methodLink RX1 66 yX7_placeOf ∈ lw_g := in_g (List.mem_of_getElem? (i := 897) (by decide +kernel)) (by decide +kernel)
theorem gw1_66 : GoodIn lw_g (wsV RX1 66 RX7 yX7_placeOf (Cond.code yX7_placeOf cX7_placeOf 3 (some .int) :: lw_g)) := gV q897 q722 q723 q98 q724
theorem q898 : Cond.methodLink RX1 69 yX1_swap ∈ lw_g := in_g (List.mem_of_getElem? (i := 898) (by decide +kernel)) (by decide +kernel)
theorem q22 : Cond.selects RX1 yX1_swap yX1_swap ∈ lw_g := in_g (List.mem_of_getElem? (i := 22) (by decide +kernel)) (by decide +kernel)
theorem q900 : Cond.instanceMethod yX1_swap ∈ lw_g := in_g (List.mem_of_getElem? (i := 900) (by decide +kernel)) (by decide +kernel)
theorem q901 : Cond.code yX1_swap cX1_swap 4 none ∈ lw_g := in_g (List.mem_of_getElem? (i := 901) (by decide +kernel)) (by decide +kernel)
theorem gw1_69 : GoodIn lw_g (wsV RX1 69 RX1 yX1_swap (Cond.code yX1_swap cX1_swap 4 none :: lw_g)) := gV q898 q900 q22 q93 q901
theorem q199 : Cond.methodLink RX2 1 Lib.objectInit ∈ lw_g := in_g (List.mem_of_getElem? (i := 199) (by decide +kernel)) (by decide +kernel)
theorem q934 : Cond.methodLink RX2 20 yX2_below ∈ lw_g := in_g (List.mem_of_getElem? (i := 934) (by decide +kernel)) (by decide +kernel)
theorem q23 : Cond.selects RX2 yX2_below yX2_below ∈ lw_g := in_g (List.mem_of_getElem? (i := 23) (by decide +kernel)) (by decide +kernel)
theorem q936 : Cond.instanceMethod yX2_below ∈ lw_g := in_g (List.mem_of_getElem? (i := 936) (by decide +kernel)) (by decide +kernel)
theorem q937 : Cond.code yX2_below cX2_below 2 (some .int) ∈ lw_g := in_g (List.mem_of_getElem? (i := 937) (by decide +kernel)) (by decide +kernel)
theorem gw2_20 : GoodIn lw_g (wsV RX2 20 RX2 yX2_below (Cond.code yX2_below cX2_below 2 (some .int) :: lw_g)) := gV q934 q936 q23 q92 q937
theorem q942 : Cond.methodLink RX2 24 yX1_makeEmptyPlaces ∈ lw_g := in_g (List.mem_of_getElem? (i := 942) (by decide +kernel)) (by decide +kernel)
theorem q944 : Cond.selects RX1 yX1_makeEmptyPlaces yX1_makeEmptyPlaces ∈ lw_g := in_g (List.mem_of_getElem? (i := 944) (by decide +kernel)) (by decide +kernel)
theorem q943 : Cond.instanceMethod yX1_makeEmptyPlaces ∈ lw_g := in_g (List.mem_of_getElem? (i := 943) (by decide +kernel)) (by decide +kernel)
theorem q945 : Cond.code yX1_makeEmptyPlaces cX1_makeEmptyPlaces 3 none ∈ lw_g := in_g (List.mem_of_getElem? (i := 945) (by decide +kernel)) (by decide +kernel)
theorem gw2_24 : GoodIn lw_g (wsV RX2 24 RX1 yX1_makeEmptyPlaces (Cond.code yX1_makeEmptyPlaces cX1_makeEmptyPlaces 3 none :: lw_g)) := gV q942 q943 q944 q93 q945
theorem q948 : Cond.methodLink RX2 30 yX1_putInEmpty ∈ lw_g := in_g (List.mem_of_getElem? (i := 948) (by decide +kernel)) (by decide +kernel)
theorem q950 : Cond.selects RX1 yX1_putInEmpty yX1_putInEmpty ∈ lw_g := in_g (List.mem_of_getElem? (i := 950) (by decide +kernel)) (by decide +kernel)
theorem q949 : Cond.instanceMethod yX1_putInEmpty ∈ lw_g := in_g (List.mem_of_getElem? (i := 949) (by decide +kernel)) (by decide +kernel)
theorem q951 : Cond.code yX1_putInEmpty cX1_putInEmpty 5 none ∈ lw_g := in_g (List.mem_of_getElem? (i := 951) (by decide +kernel)) (by decide +kernel)
theorem gw2_30 : GoodIn lw_g (wsV RX2 30 RX1 yX1_putInEmpty (Cond.code yX1_putInEmpty cX1_putInEmpty 5 none :: lw_g)) := gV q948 q949 q950 q93 q951
theorem q577 : Cond.methodLink RX3 3 Lib.objectInit ∈ lw_g := in_g (List.mem_of_getElem? (i := 577) (by decide +kernel)) (by decide +kernel)
theorem q578 : Cond.methodLink RX3 15 yX3_countIn ∈ lw_g := in_g (List.mem_of_getElem? (i := 578) (by decide +kernel)) (by decide +kernel)
theorem q579 : Cond.static yX3_countIn ∈ lw_g := in_g (List.mem_of_getElem? (i := 579) (by decide +kernel)) (by decide +kernel)
theorem q580 : Cond.code yX3_countIn cX3_countIn 7 (some .int) ∈ lw_g := in_g (List.mem_of_getElem? (i := 580) (by decide +kernel)) (by decide +kernel)
theorem gw3_15 : GoodIn lw_g (va_wsS RX3 15 yX3_countIn (Cond.code yX3_countIn cX3_countIn 7 (some .int) :: lw_g)) := gS q578 q579 q100 q580
theorem q581 : Cond.methodLink RX3 23 yX7_letterCount ∈ lw_g := in_g (List.mem_of_getElem? (i := 581) (by decide +kernel)) (by decide +kernel)
theorem gw3_23 : GoodIn lw_g (wsV RX3 23 RX7 yX7_letterCount (Cond.code yX7_letterCount cX7_letterCount 1 (some .int) :: lw_g)) := gV q581 q519 q520 q98 q521
theorem q609 : Cond.methodLink RX3 36 yX7_stepCount ∈ lw_g := in_g (List.mem_of_getElem? (i := 609) (by decide +kernel)) (by decide +kernel)
theorem q611 : Cond.selects RX7 yX7_stepCount yX7_stepCount ∈ lw_g := in_g (List.mem_of_getElem? (i := 611) (by decide +kernel)) (by decide +kernel)
theorem q610 : Cond.instanceMethod yX7_stepCount ∈ lw_g := in_g (List.mem_of_getElem? (i := 610) (by decide +kernel)) (by decide +kernel)
theorem q612 : Cond.code yX7_stepCount cX7_stepCount 1 (some .int) ∈ lw_g := in_g (List.mem_of_getElem? (i := 612) (by decide +kernel)) (by decide +kernel)
theorem gw3_36 : GoodIn lw_g (wsV RX3 36 RX7 yX7_stepCount (Cond.code yX7_stepCount cX7_stepCount 1 (some .int) :: lw_g)) := gV q609 q610 q611 q98 q612
theorem q614 : Cond.methodLink RX3 52 yX3_numberCorners ∈ lw_g := in_g (List.mem_of_getElem? (i := 614) (by decide +kernel)) (by decide +kernel)
theorem q10 : Cond.selects RX3 yX3_numberCorners yX3_numberCorners ∈ lw_g := in_g (List.mem_of_getElem? (i := 10) (by decide +kernel)) (by decide +kernel)
theorem q616 : Cond.instanceMethod yX3_numberCorners ∈ lw_g := in_g (List.mem_of_getElem? (i := 616) (by decide +kernel)) (by decide +kernel)
theorem q617 : Cond.code yX3_numberCorners cX3_numberCorners 5 none ∈ lw_g := in_g (List.mem_of_getElem? (i := 617) (by decide +kernel)) (by decide +kernel)
theorem gw3_52 : GoodIn lw_g (wsV RX3 52 RX3 yX3_numberCorners (Cond.code yX3_numberCorners cX3_numberCorners 5 none :: lw_g)) := gV q614 q616 q10 q100 q617
theorem q619 : Cond.methodLink RX3 56 yX3_findSidesOfSteps ∈ lw_g := in_g (List.mem_of_getElem? (i := 619) (by decide +kernel)) (by decide +kernel)
theorem q11 : Cond.selects RX3 yX3_findSidesOfSteps yX3_findSidesOfSteps ∈ lw_g := in_g (List.mem_of_getElem? (i := 11) (by decide +kernel)) (by decide +kernel)
theorem q621 : Cond.instanceMethod yX3_findSidesOfSteps ∈ lw_g := in_g (List.mem_of_getElem? (i := 621) (by decide +kernel)) (by decide +kernel)
theorem q622 : Cond.code yX3_findSidesOfSteps cX3_findSidesOfSteps 4 none ∈ lw_g := in_g (List.mem_of_getElem? (i := 622) (by decide +kernel)) (by decide +kernel)
theorem gw3_56 : GoodIn lw_g (wsV RX3 56 RX3 yX3_findSidesOfSteps (Cond.code yX3_findSidesOfSteps cX3_findSidesOfSteps 4 none :: lw_g)) := gV q619 q621 q11 q100 q622
theorem q627 : Cond.methodLink RX3 60 yX3_findIndexes ∈ lw_g := in_g (List.mem_of_getElem? (i := 627) (by decide +kernel)) (by decide +kernel)
theorem q12 : Cond.selects RX3 yX3_findIndexes yX3_findIndexes ∈ lw_g := in_g (List.mem_of_getElem? (i := 12) (by decide +kernel)) (by decide +kernel)
theorem q629 : Cond.instanceMethod yX3_findIndexes ∈ lw_g := in_g (List.mem_of_getElem? (i := 629) (by decide +kernel)) (by decide +kernel)
theorem q630 : Cond.code yX3_findIndexes cX3_findIndexes 4 none ∈ lw_g := in_g (List.mem_of_getElem? (i := 630) (by decide +kernel)) (by decide +kernel)
theorem gw3_60 : GoodIn lw_g (wsV RX3 60 RX3 yX3_findIndexes (Cond.code yX3_findIndexes cX3_findIndexes 4 none :: lw_g)) := gV q627 q629 q12 q100 q630
theorem q582 : Cond.methodLink RX3 63 yX4_scatter ∈ lw_g := in_g (List.mem_of_getElem? (i := 582) (by decide +kernel)) (by decide +kernel)
theorem q482 : Cond.selects RX4 yX4_scatter yX4_scatter ∈ lw_g := in_g (List.mem_of_getElem? (i := 482) (by decide +kernel)) (by decide +kernel)
theorem q481 : Cond.instanceMethod yX4_scatter ∈ lw_g := in_g (List.mem_of_getElem? (i := 481) (by decide +kernel)) (by decide +kernel)
theorem q483 : Cond.code yX4_scatter cX4_scatter 3 none ∈ lw_g := in_g (List.mem_of_getElem? (i := 483) (by decide +kernel)) (by decide +kernel)
theorem gw3_63 : GoodIn lw_g (wsV RX3 63 RX4 yX4_scatter (Cond.code yX4_scatter cX4_scatter 3 none :: lw_g)) := gV q582 q481 q482 q94 q483
theorem q583 : Cond.methodLink RX3 68 yX7_placeCount ∈ lw_g := in_g (List.mem_of_getElem? (i := 583) (by decide +kernel)) (by decide +kernel)
theorem gw3_68 : GoodIn lw_g (wsV RX3 68 RX7 yX7_placeCount (Cond.code yX7_placeCount cX7_placeCount 1 (some .int) :: lw_g)) := gV q583 q584 q585 q98 q586
theorem q587 : Cond.methodLink RX3 71 yX7_placeBehind ∈ lw_g := in_g (List.mem_of_getElem? (i := 587) (by decide +kernel)) (by decide +kernel)
theorem gw3_71 : GoodIn lw_g (wsV RX3 71 RX7 yX7_placeBehind (Cond.code yX7_placeBehind cX7_placeBehind 2 (some .int) :: lw_g)) := gV q587 q456 q457 q98 q458
theorem q588 : Cond.methodLink RX3 75 yX3_endLeaving ∈ lw_g := in_g (List.mem_of_getElem? (i := 588) (by decide +kernel)) (by decide +kernel)
theorem q589 : Cond.static yX3_endLeaving ∈ lw_g := in_g (List.mem_of_getElem? (i := 589) (by decide +kernel)) (by decide +kernel)
theorem q590 : Cond.code yX3_endLeaving cX3_endLeaving 3 (some .int) ∈ lw_g := in_g (List.mem_of_getElem? (i := 590) (by decide +kernel)) (by decide +kernel)
theorem gw3_75 : GoodIn lw_g (va_wsS RX3 75 yX3_endLeaving (Cond.code yX3_endLeaving cX3_endLeaving 3 (some .int) :: lw_g)) := gS q588 q589 q100 q590
theorem q599 : Cond.methodLink RX3 79 yX7_letterOn ∈ lw_g := in_g (List.mem_of_getElem? (i := 599) (by decide +kernel)) (by decide +kernel)
theorem gw3_79 : GoodIn lw_g (wsV RX3 79 RX7 yX7_letterOn (Cond.code yX7_letterOn cX7_letterOn 2 (some .int) :: lw_g)) := gV q599 q600 q601 q98 q602
theorem q604 : Cond.methodLink RX3 82 yX3_corner ∈ lw_g := in_g (List.mem_of_getElem? (i := 604) (by decide +kernel)) (by decide +kernel)
theorem q605 : Cond.static yX3_corner ∈ lw_g := in_g (List.mem_of_getElem? (i := 605) (by decide +kernel)) (by decide +kernel)
theorem q606 : Cond.code yX3_corner cX3_corner 2 (some .int) ∈ lw_g := in_g (List.mem_of_getElem? (i := 606) (by decide +kernel)) (by decide +kernel)
theorem gw3_82 : GoodIn lw_g (va_wsS RX3 82 yX3_corner (Cond.code yX3_corner cX3_corner 2 (some .int) :: lw_g)) := gS q604 q605 q100 q606
theorem q607 : Cond.methodLink RX3 86 yX4_join ∈ lw_g := in_g (List.mem_of_getElem? (i := 607) (by decide +kernel)) (by decide +kernel)
theorem q493 : Cond.selects RX4 yX4_join yX4_join ∈ lw_g := in_g (List.mem_of_getElem? (i := 493) (by decide +kernel)) (by decide +kernel)
theorem q492 : Cond.instanceMethod yX4_join ∈ lw_g := in_g (List.mem_of_getElem? (i := 492) (by decide +kernel)) (by decide +kernel)
theorem q494 : Cond.code yX4_join cX4_join 5 none ∈ lw_g := in_g (List.mem_of_getElem? (i := 494) (by decide +kernel)) (by decide +kernel)
theorem gw3_86 : GoodIn lw_g (wsV RX3 86 RX4 yX4_join (Cond.code yX4_join cX4_join 5 none :: lw_g)) := gV q607 q492 q493 q94 q494
theorem q608 : Cond.methodLink RX3 90 yX4_count ∈ lw_g := in_g (List.mem_of_getElem? (i := 608) (by decide +kernel)) (by decide +kernel)
theorem q501 : Cond.selects RX4 yX4_count yX4_count ∈ lw_g := in_g (List.mem_of_getElem? (i := 501) (by decide +kernel)) (by decide +kernel)
theorem q500 : Cond.instanceMethod yX4_count ∈ lw_g := in_g (List.mem_of_getElem? (i := 500) (by decide +kernel)) (by decide +kernel)
theorem q502 : Cond.code yX4_count cX4_count 1 (some .int) ∈ lw_g := in_g (List.mem_of_getElem? (i := 502) (by decide +kernel)) (by decide +kernel)
theorem gw3_90 : GoodIn lw_g (wsV RX3 90 RX4 yX4_count (Cond.code yX4_count cX4_count 1 (some .int) :: lw_g)) := gV q608 q500 q501 q94 q502
theorem q591 : Cond.methodLink RX3 92 yX7_isFirstOfLetter ∈ lw_g := in_g (List.mem_of_getElem? (i := 591) (by decide +kernel)) (by decide +kernel)
theorem q593 : Cond.selects RX7 yX7_isFirstOfLetter yX7_isFirstOfLetter ∈ lw_g := in_g (List.mem_of_getElem? (i := 593) (by decide +kernel)) (by decide +kernel)
theorem q592 : Cond.instanceMethod yX7_isFirstOfLetter ∈ lw_g := in_g (List.mem_of_getElem? (i := 592) (by decide +kernel)) (by decide +kernel)
theorem q594 : Cond.code yX7_isFirstOfLetter cX7_isFirstOfLetter 2 (some .boolean) ∈ lw_g := in_g (List.mem_of_getElem? (i := 594) (by decide +kernel)) (by decide +kernel)
theorem gw3_92 : GoodIn lw_g (wsV RX3 92 RX7 yX7_isFirstOfLetter (Cond.code yX7_isFirstOfLetter cX7_isFirstOfLetter 2 (some .boolean) :: lw_g)) := gV q591 q592 q593 q98 q594
theorem gw3_96 : GoodIn lw_g (Cond.code yX11_isIn cX11_isIn 2 (some .boolean) :: lw_g) := gC q490
theorem gn3_96 : (RX3, 96, yX11_isIn, "OneStrokes") ∈ nestW := by decide +kernel
theorem q618 : Cond.methodLink RX3 100 yX4_leastWith ∈ lw_g := in_g (List.mem_of_getElem? (i := 618) (by decide +kernel)) (by decide +kernel)
theorem q497 : Cond.selects RX4 yX4_leastWith yX4_leastWith ∈ lw_g := in_g (List.mem_of_getElem? (i := 497) (by decide +kernel)) (by decide +kernel)
theorem q496 : Cond.instanceMethod yX4_leastWith ∈ lw_g := in_g (List.mem_of_getElem? (i := 496) (by decide +kernel)) (by decide +kernel)
theorem q498 : Cond.code yX4_leastWith cX4_leastWith 4 (some .int) ∈ lw_g := in_g (List.mem_of_getElem? (i := 498) (by decide +kernel)) (by decide +kernel)
theorem gw3_100 : GoodIn lw_g (wsV RX3 100 RX4 yX4_leastWith (Cond.code yX4_leastWith cX4_leastWith 4 (some .int) :: lw_g)) := gV q618 q496 q497 q94 q498
theorem q623 : Cond.methodLink RX3 103 yX3_faceOf ∈ lw_g := in_g (List.mem_of_getElem? (i := 623) (by decide +kernel)) (by decide +kernel)
theorem gw3_103 : GoodIn lw_g (wsV RX3 103 RX3 yX3_faceOf (Cond.code yX3_faceOf cX3_faceOf 4 (some .int) :: lw_g)) := gV q623 q624 q625 q100 q626
theorem q631 : Cond.methodLink RX3 106 yX3_hasFace ∈ lw_g := in_g (List.mem_of_getElem? (i := 631) (by decide +kernel)) (by decide +kernel)
theorem gw3_106 : GoodIn lw_g (wsV RX3 106 RX3 yX3_hasFace (Cond.code yX3_hasFace cX3_hasFace 2 (some .boolean) :: lw_g)) := gV q631 q632 q633 q100 q634
theorem q635 : Cond.methodLink RX3 109 yX3_findIndexAcross ∈ lw_g := in_g (List.mem_of_getElem? (i := 635) (by decide +kernel)) (by decide +kernel)
theorem q13 : Cond.selects RX3 yX3_findIndexAcross yX3_findIndexAcross ∈ lw_g := in_g (List.mem_of_getElem? (i := 13) (by decide +kernel)) (by decide +kernel)
theorem q637 : Cond.instanceMethod yX3_findIndexAcross ∈ lw_g := in_g (List.mem_of_getElem? (i := 637) (by decide +kernel)) (by decide +kernel)
theorem q638 : Cond.code yX3_findIndexAcross cX3_findIndexAcross 4 none ∈ lw_g := in_g (List.mem_of_getElem? (i := 638) (by decide +kernel)) (by decide +kernel)
theorem gw3_109 : GoodIn lw_g (wsV RX3 109 RX3 yX3_findIndexAcross (Cond.code yX3_findIndexAcross cX3_findIndexAcross 4 none :: lw_g)) := gV q635 q637 q13 q100 q638
theorem q699 : Cond.methodLink RX3 113 yX3_indexOf ∈ lw_g := in_g (List.mem_of_getElem? (i := 699) (by decide +kernel)) (by decide +kernel)
theorem gw3_113 : GoodIn lw_g (wsV RX3 113 RX3 yX3_indexOf (Cond.code yX3_indexOf cX3_indexOf 2 (some .int) :: lw_g)) := gV q699 q700 q701 q100 q702
theorem q542 : Cond.code yX11_isEven cX11_isEven 1 (some .boolean) ∈ lw_g := in_g (List.mem_of_getElem? (i := 542) (by decide +kernel)) (by decide +kernel)
theorem gw3_116 : GoodIn lw_g (Cond.code yX11_isEven cX11_isEven 1 (some .boolean) :: lw_g) := gC q542
theorem gn3_116 : (RX3, 116, yX11_isEven, "OneStrokes") ∈ nestW := by decide +kernel
theorem q541 : Cond.static yX11_isEven ∈ lw_g := in_g (List.mem_of_getElem? (i := 541) (by decide +kernel)) (by decide +kernel)
theorem q778 : Cond.methodLink RX3 119 yX3_middle ∈ lw_g := in_g (List.mem_of_getElem? (i := 778) (by decide +kernel)) (by decide +kernel)
theorem gw3_119 : GoodIn lw_g (wsV RX3 119 RX3 yX3_middle (Cond.code yX3_middle cX3_middle 4 (some .int) :: lw_g)) := gV q778 q760 q761 q100 q762
theorem q691 : Cond.methodLink RX3 122 yX3_countOfKind ∈ lw_g := in_g (List.mem_of_getElem? (i := 691) (by decide +kernel)) (by decide +kernel)
theorem q15 : Cond.selects RX3 yX3_countOfKind yX3_countOfKind ∈ lw_g := in_g (List.mem_of_getElem? (i := 15) (by decide +kernel)) (by decide +kernel)
theorem q693 : Cond.instanceMethod yX3_countOfKind ∈ lw_g := in_g (List.mem_of_getElem? (i := 693) (by decide +kernel)) (by decide +kernel)
theorem q694 : Cond.code yX3_countOfKind cX3_countOfKind 4 (some .int) ∈ lw_g := in_g (List.mem_of_getElem? (i := 694) (by decide +kernel)) (by decide +kernel)
theorem gw3_122 : GoodIn lw_g (wsV RX3 122 RX3 yX3_countOfKind (Cond.code yX3_countOfKind cX3_countOfKind 4 (some .int) :: lw_g)) := gV q691 q693 q15 q100 q694
theorem q704 : Cond.methodLink RX3 126 yJ6_bitCount_0f7a4 ∈ lw_g := in_g (List.mem_of_getElem? (i := 704) (by decide +kernel)) (by decide +kernel)
theorem q99 : Cond.initialized RJ6 ∈ lw_g := in_g (List.mem_of_getElem? (i := 99) (by decide +kernel)) (by decide +kernel)
theorem q535 : Cond.static yJ6_bitCount_0f7a4 ∈ lw_g := in_g (List.mem_of_getElem? (i := 535) (by decide +kernel)) (by decide +kernel)
theorem q536 : Cond.code yJ6_bitCount_0f7a4 cJ6_bitCount_0f7a4 1 (some .int) ∈ lw_g := in_g (List.mem_of_getElem? (i := 536) (by decide +kernel)) (by decide +kernel)
theorem gw3_126 : GoodIn lw_g (va_wsS RX3 126 yJ6_bitCount_0f7a4 (Cond.code yJ6_bitCount_0f7a4 cJ6_bitCount_0f7a4 1 (some .int) :: lw_g)) := gS q704 q535 q99 q536
theorem q705 : Cond.methodLink RX3 131 yX3_heapsJoinedBy ∈ lw_g := in_g (List.mem_of_getElem? (i := 705) (by decide +kernel)) (by decide +kernel)
theorem q16 : Cond.selects RX3 yX3_heapsJoinedBy yX3_heapsJoinedBy ∈ lw_g := in_g (List.mem_of_getElem? (i := 16) (by decide +kernel)) (by decide +kernel)
theorem q707 : Cond.instanceMethod yX3_heapsJoinedBy ∈ lw_g := in_g (List.mem_of_getElem? (i := 707) (by decide +kernel)) (by decide +kernel)
theorem q708 : Cond.code yX3_heapsJoinedBy cX3_heapsJoinedBy 6 (some .int) ∈ lw_g := in_g (List.mem_of_getElem? (i := 708) (by decide +kernel)) (by decide +kernel)
theorem gw3_131 : GoodIn lw_g (wsV RX3 131 RX3 yX3_heapsJoinedBy (Cond.code yX3_heapsJoinedBy cX3_heapsJoinedBy 6 (some .int) :: lw_g)) := gV q705 q707 q16 q100 q708
theorem q695 : Cond.methodLink RX3 135 yX3_isDark ∈ lw_g := in_g (List.mem_of_getElem? (i := 695) (by decide +kernel)) (by decide +kernel)
theorem gw3_135 : GoodIn lw_g (wsV RX3 135 RX3 yX3_isDark (Cond.code yX3_isDark cX3_isDark 2 (some .boolean) :: lw_g)) := gV q695 q696 q697 q100 q698
theorem q222 : Cond.methodLink RX4 3 Lib.objectInit ∈ lw_g := in_g (List.mem_of_getElem? (i := 222) (by decide +kernel)) (by decide +kernel)
theorem q484 : Cond.methodLink RX4 22 yJ9_min_7cf53 ∈ lw_g := in_g (List.mem_of_getElem? (i := 484) (by decide +kernel)) (by decide +kernel)
theorem gw4_22 : GoodIn lw_g (va_wsS RX4 22 yJ9_min_7cf53 (Cond.code yJ9_min_7cf53 cJ9_min_7cf53 2 (some .int) :: lw_g)) := gS q484 q329 q96 q330
theorem q485 : Cond.methodLink RX4 28 yJ9_max_7cf53 ∈ lw_g := in_g (List.mem_of_getElem? (i := 485) (by decide +kernel)) (by decide +kernel)
theorem gw4_28 : GoodIn lw_g (va_wsS RX4 28 yJ9_max_7cf53 (Cond.code yJ9_max_7cf53 cJ9_max_7cf53 2 (some .int) :: lw_g)) := gS q485 q486 q96 q487
theorem q495 : Cond.methodLink RX4 31 yX4_leastWith ∈ lw_g := in_g (List.mem_of_getElem? (i := 495) (by decide +kernel)) (by decide +kernel)
theorem gw4_31 : GoodIn lw_g (wsV RX4 31 RX4 yX4_leastWith (Cond.code yX4_leastWith cX4_leastWith 4 (some .int) :: lw_g)) := gV q495 q496 q497 q94 q498
theorem q162 : Cond.methodLink RX5 3 Lib.objectInit ∈ lw_g := in_g (List.mem_of_getElem? (i := 162) (by decide +kernel)) (by decide +kernel)
theorem gw5_24 : GoodIn lw_g (Cond.code yX8_init cX8_init 1 none :: lw_g) := gC q113
theorem gn5_24 : (RX5, 24, yX8_init, "OneStrokes") ∈ nestW := by decide +kernel
theorem q316 : Cond.methodLink RX5 25 yX8_copyFrom ∈ lw_g := in_g (List.mem_of_getElem? (i := 316) (by decide +kernel)) (by decide +kernel)
theorem gw5_25 : GoodIn lw_g (wsV RX5 25 RX8 yX8_copyFrom (Cond.code yX8_copyFrom cX8_copyFrom 3 none :: lw_g)) := gV q316 q317 q318 q87 q319
theorem q328 : Cond.methodLink RX5 29 yJ9_min_7cf53 ∈ lw_g := in_g (List.mem_of_getElem? (i := 328) (by decide +kernel)) (by decide +kernel)
theorem gw5_29 : GoodIn lw_g (va_wsS RX5 29 yJ9_min_7cf53 (Cond.code yJ9_min_7cf53 cJ9_min_7cf53 2 (some .int) :: lw_g)) := gS q328 q329 q96 q330
theorem q960 : Cond.methodLink RX5 35 yJ9_floorMod_7cf53 ∈ lw_g := in_g (List.mem_of_getElem? (i := 960) (by decide +kernel)) (by decide +kernel)
theorem q961 : Cond.static yJ9_floorMod_7cf53 ∈ lw_g := in_g (List.mem_of_getElem? (i := 961) (by decide +kernel)) (by decide +kernel)
theorem q962 : Cond.code yJ9_floorMod_7cf53 cJ9_floorMod_7cf53 3 (some .int) ∈ lw_g := in_g (List.mem_of_getElem? (i := 962) (by decide +kernel)) (by decide +kernel)
theorem gw5_35 : GoodIn lw_g (va_wsS RX5 35 yJ9_floorMod_7cf53 (Cond.code yJ9_floorMod_7cf53 cJ9_floorMod_7cf53 3 (some .int) :: lw_g)) := gS q960 q961 q96 q962
theorem q181 : Cond.methodLink RX6 1 Lib.objectInit ∈ lw_g := in_g (List.mem_of_getElem? (i := 181) (by decide +kernel)) (by decide +kernel)
theorem gw6_9 : GoodIn lw_g (Cond.code yX8_init cX8_init 1 none :: lw_g) := gC q113
theorem gn6_9 : (RX6, 9, yX8_init, "OneStrokes") ∈ nestW := by decide +kernel
theorem q995 : Cond.methodLink RX6 24 yX8_copyFrom ∈ lw_g := in_g (List.mem_of_getElem? (i := 995) (by decide +kernel)) (by decide +kernel)
theorem gw6_24 : GoodIn lw_g (wsV RX6 24 RX8 yX8_copyFrom (Cond.code yX8_copyFrom cX8_copyFrom 3 none :: lw_g)) := gV q995 q317 q318 q87 q319
theorem q338 : Cond.methodLink RX7 3 Lib.objectInit ∈ lw_g := in_g (List.mem_of_getElem? (i := 338) (by decide +kernel)) (by decide +kernel)
theorem q339 : Cond.methodLink RX7 39 yX1_length ∈ lw_g := in_g (List.mem_of_getElem? (i := 339) (by decide +kernel)) (by decide +kernel)
theorem q341 : Cond.selects RX1 yX1_length yX1_length ∈ lw_g := in_g (List.mem_of_getElem? (i := 341) (by decide +kernel)) (by decide +kernel)
theorem q340 : Cond.instanceMethod yX1_length ∈ lw_g := in_g (List.mem_of_getElem? (i := 340) (by decide +kernel)) (by decide +kernel)
theorem q342 : Cond.code yX1_length cX1_length 1 (some .int) ∈ lw_g := in_g (List.mem_of_getElem? (i := 342) (by decide +kernel)) (by decide +kernel)
theorem gw7_39 : GoodIn lw_g (wsV RX7 39 RX1 yX1_length (Cond.code yX1_length cX1_length 1 (some .int) :: lw_g)) := gV q339 q340 q341 q93 q342
theorem q343 : Cond.methodLink RX7 63 yX1_earlierTwin ∈ lw_g := in_g (List.mem_of_getElem? (i := 343) (by decide +kernel)) (by decide +kernel)
theorem q345 : Cond.selects RX1 yX1_earlierTwin yX1_earlierTwin ∈ lw_g := in_g (List.mem_of_getElem? (i := 345) (by decide +kernel)) (by decide +kernel)
theorem q344 : Cond.instanceMethod yX1_earlierTwin ∈ lw_g := in_g (List.mem_of_getElem? (i := 344) (by decide +kernel)) (by decide +kernel)
theorem q346 : Cond.code yX1_earlierTwin cX1_earlierTwin 3 (some .int) ∈ lw_g := in_g (List.mem_of_getElem? (i := 346) (by decide +kernel)) (by decide +kernel)
theorem gw7_63 : GoodIn lw_g (wsV RX7 63 RX1 yX1_earlierTwin (Cond.code yX1_earlierTwin cX1_earlierTwin 3 (some .int) :: lw_g)) := gV q343 q344 q345 q93 q346
theorem q347 : Cond.methodLink RX7 67 yX7_standsOnceBetween ∈ lw_g := in_g (List.mem_of_getElem? (i := 347) (by decide +kernel)) (by decide +kernel)
theorem q2 : Cond.selects RX7 yX7_standsOnceBetween yX7_standsOnceBetween ∈ lw_g := in_g (List.mem_of_getElem? (i := 2) (by decide +kernel)) (by decide +kernel)
theorem q349 : Cond.instanceMethod yX7_standsOnceBetween ∈ lw_g := in_g (List.mem_of_getElem? (i := 349) (by decide +kernel)) (by decide +kernel)
theorem q350 : Cond.code yX7_standsOnceBetween cX7_standsOnceBetween 5 (some .boolean) ∈ lw_g := in_g (List.mem_of_getElem? (i := 350) (by decide +kernel)) (by decide +kernel)
theorem gw7_67 : GoodIn lw_g (wsV RX7 67 RX7 yX7_standsOnceBetween (Cond.code yX7_standsOnceBetween cX7_standsOnceBetween 5 (some .boolean) :: lw_g)) := gV q347 q349 q2 q98 q350
theorem q555 : Cond.methodLink RX7 71 yX7_hasLetter ∈ lw_g := in_g (List.mem_of_getElem? (i := 555) (by decide +kernel)) (by decide +kernel)
theorem gw7_71 : GoodIn lw_g (wsV RX7 71 RX7 yX7_hasLetter (Cond.code yX7_hasLetter cX7_hasLetter 2 (some .boolean) :: lw_g)) := gV q555 q556 q557 q98 q558
theorem q613 : Cond.methodLink RX7 75 yJ9_max_7cf53 ∈ lw_g := in_g (List.mem_of_getElem? (i := 613) (by decide +kernel)) (by decide +kernel)
theorem gw7_75 : GoodIn lw_g (va_wsS RX7 75 yJ9_max_7cf53 (Cond.code yJ9_max_7cf53 cJ9_max_7cf53 2 (some .int) :: lw_g)) := gS q613 q486 q96 q487
theorem q841 : Cond.methodLink RX7 81 yX7_stepCount ∈ lw_g := in_g (List.mem_of_getElem? (i := 841) (by decide +kernel)) (by decide +kernel)
theorem gw7_81 : GoodIn lw_g (wsV RX7 81 RX7 yX7_stepCount (Cond.code yX7_stepCount cX7_stepCount 1 (some .int) :: lw_g)) := gV q841 q610 q611 q98 q612
theorem q595 : Cond.methodLink RX7 84 yX7_hasPlace ∈ lw_g := in_g (List.mem_of_getElem? (i := 595) (by decide +kernel)) (by decide +kernel)
theorem gw7_84 : GoodIn lw_g (wsV RX7 84 RX7 yX7_hasPlace (Cond.code yX7_hasPlace cX7_hasPlace 2 (some .boolean) :: lw_g)) := gV q595 q596 q597 q98 q598
theorem q455 : Cond.methodLink RX7 87 yX7_placeBehind ∈ lw_g := in_g (List.mem_of_getElem? (i := 455) (by decide +kernel)) (by decide +kernel)
theorem gw7_87 : GoodIn lw_g (wsV RX7 87 RX7 yX7_placeBehind (Cond.code yX7_placeBehind cX7_placeBehind 2 (some .int) :: lw_g)) := gV q455 q456 q457 q98 q458
theorem q551 : Cond.methodLink RX7 90 yX7_betweenSet ∈ lw_g := in_g (List.mem_of_getElem? (i := 551) (by decide +kernel)) (by decide +kernel)
theorem gw7_90 : GoodIn lw_g (wsV RX7 90 RX7 yX7_betweenSet (Cond.code yX7_betweenSet cX7_betweenSet 2 (some .int) :: lw_g)) := gV q551 q552 q553 q98 q554
theorem q534 : Cond.methodLink RX7 93 yJ6_bitCount_0f7a4 ∈ lw_g := in_g (List.mem_of_getElem? (i := 534) (by decide +kernel)) (by decide +kernel)
theorem gw7_93 : GoodIn lw_g (va_wsS RX7 93 yJ6_bitCount_0f7a4 (Cond.code yJ6_bitCount_0f7a4 cJ6_bitCount_0f7a4 1 (some .int) :: lw_g)) := gS q534 q535 q99 q536
theorem q480 : Cond.methodLink RX7 98 yX4_scatter ∈ lw_g := in_g (List.mem_of_getElem? (i := 480) (by decide +kernel)) (by decide +kernel)
theorem gw7_98 : GoodIn lw_g (wsV RX7 98 RX4 yX4_scatter (Cond.code yX4_scatter cX4_scatter 3 none :: lw_g)) := gV q480 q481 q482 q94 q483
theorem gw7_104 : GoodIn lw_g (Cond.code yX11_isIn cX11_isIn 2 (some .boolean) :: lw_g) := gC q490
theorem gn7_104 : (RX7, 104, yX11_isIn, "OneStrokes") ∈ nestW := by decide +kernel
theorem q491 : Cond.methodLink RX7 107 yX4_join ∈ lw_g := in_g (List.mem_of_getElem? (i := 491) (by decide +kernel)) (by decide +kernel)
theorem gw7_107 : GoodIn lw_g (wsV RX7 107 RX4 yX4_join (Cond.code yX4_join cX4_join 5 none :: lw_g)) := gV q491 q492 q493 q94 q494
theorem q499 : Cond.methodLink RX7 111 yX4_count ∈ lw_g := in_g (List.mem_of_getElem? (i := 499) (by decide +kernel)) (by decide +kernel)
theorem gw7_111 : GoodIn lw_g (wsV RX7 111 RX4 yX4_count (Cond.code yX4_count cX4_count 1 (some .int) :: lw_g)) := gV q499 q500 q501 q94 q502
theorem q530 : Cond.methodLink RX7 114 yX7_eachIsBetweenEvenly ∈ lw_g := in_g (List.mem_of_getElem? (i := 530) (by decide +kernel)) (by decide +kernel)
theorem q6 : Cond.selects RX7 yX7_eachIsBetweenEvenly yX7_eachIsBetweenEvenly ∈ lw_g := in_g (List.mem_of_getElem? (i := 6) (by decide +kernel)) (by decide +kernel)
theorem q532 : Cond.instanceMethod yX7_eachIsBetweenEvenly ∈ lw_g := in_g (List.mem_of_getElem? (i := 532) (by decide +kernel)) (by decide +kernel)
theorem q533 : Cond.code yX7_eachIsBetweenEvenly cX7_eachIsBetweenEvenly 2 (some .boolean) ∈ lw_g := in_g (List.mem_of_getElem? (i := 533) (by decide +kernel)) (by decide +kernel)
theorem gw7_114 : GoodIn lw_g (wsV RX7 114 RX7 yX7_eachIsBetweenEvenly (Cond.code yX7_eachIsBetweenEvenly cX7_eachIsBetweenEvenly 2 (some .boolean) :: lw_g)) := gV q530 q532 q6 q98 q533
theorem q543 : Cond.methodLink RX7 118 yX7_eachTwoApartShareEvenly ∈ lw_g := in_g (List.mem_of_getElem? (i := 543) (by decide +kernel)) (by decide +kernel)
theorem q7 : Cond.selects RX7 yX7_eachTwoApartShareEvenly yX7_eachTwoApartShareEvenly ∈ lw_g := in_g (List.mem_of_getElem? (i := 7) (by decide +kernel)) (by decide +kernel)
theorem q545 : Cond.instanceMethod yX7_eachTwoApartShareEvenly ∈ lw_g := in_g (List.mem_of_getElem? (i := 545) (by decide +kernel)) (by decide +kernel)
theorem q546 : Cond.code yX7_eachTwoApartShareEvenly cX7_eachTwoApartShareEvenly 3 (some .boolean) ∈ lw_g := in_g (List.mem_of_getElem? (i := 546) (by decide +kernel)) (by decide +kernel)
theorem gw7_118 : GoodIn lw_g (wsV RX7 118 RX7 yX7_eachTwoApartShareEvenly (Cond.code yX7_eachTwoApartShareEvenly cX7_eachTwoApartShareEvenly 3 (some .boolean) :: lw_g)) := gV q543 q545 q7 q98 q546
theorem q559 : Cond.methodLink RX7 121 yX7_sidesCanBeChosen ∈ lw_g := in_g (List.mem_of_getElem? (i := 559) (by decide +kernel)) (by decide +kernel)
theorem q9 : Cond.selects RX7 yX7_sidesCanBeChosen yX7_sidesCanBeChosen ∈ lw_g := in_g (List.mem_of_getElem? (i := 9) (by decide +kernel)) (by decide +kernel)
theorem q561 : Cond.instanceMethod yX7_sidesCanBeChosen ∈ lw_g := in_g (List.mem_of_getElem? (i := 561) (by decide +kernel)) (by decide +kernel)
theorem q562 : Cond.code yX7_sidesCanBeChosen cX7_sidesCanBeChosen 5 (some .boolean) ∈ lw_g := in_g (List.mem_of_getElem? (i := 562) (by decide +kernel)) (by decide +kernel)
theorem gw7_121 : GoodIn lw_g (wsV RX7 121 RX7 yX7_sidesCanBeChosen (Cond.code yX7_sidesCanBeChosen cX7_sidesCanBeChosen 5 (some .boolean) :: lw_g)) := gV q559 q561 q9 q98 q562
theorem gw7_125 : GoodIn lw_g (Cond.code yX11_isEven cX11_isEven 1 (some .boolean) :: lw_g) := gC q542
theorem gn7_125 : (RX7, 125, yX11_isEven, "OneStrokes") ∈ nestW := by decide +kernel
theorem q547 : Cond.methodLink RX7 128 yX7_sharedBetween ∈ lw_g := in_g (List.mem_of_getElem? (i := 547) (by decide +kernel)) (by decide +kernel)
theorem q8 : Cond.selects RX7 yX7_sharedBetween yX7_sharedBetween ∈ lw_g := in_g (List.mem_of_getElem? (i := 8) (by decide +kernel)) (by decide +kernel)
theorem q549 : Cond.instanceMethod yX7_sharedBetween ∈ lw_g := in_g (List.mem_of_getElem? (i := 549) (by decide +kernel)) (by decide +kernel)
theorem q550 : Cond.code yX7_sharedBetween cX7_sharedBetween 3 (some .int) ∈ lw_g := in_g (List.mem_of_getElem? (i := 550) (by decide +kernel)) (by decide +kernel)
theorem gw7_128 : GoodIn lw_g (wsV RX7 128 RX7 yX7_sharedBetween (Cond.code yX7_sharedBetween cX7_sharedBetween 3 (some .int) :: lw_g)) := gV q547 q549 q8 q98 q550
theorem q563 : Cond.methodLink RX7 131 yX4_leastWith ∈ lw_g := in_g (List.mem_of_getElem? (i := 563) (by decide +kernel)) (by decide +kernel)
theorem gw7_131 : GoodIn lw_g (wsV RX7 131 RX4 yX4_leastWith (Cond.code yX4_leastWith cX4_leastWith 4 (some .int) :: lw_g)) := gV q563 q496 q497 q94 q498
theorem q442 : Cond.methodLink RX7 134 yX7_tryTurns ∈ lw_g := in_g (List.mem_of_getElem? (i := 442) (by decide +kernel)) (by decide +kernel)
theorem q4 : Cond.selects RX7 yX7_tryTurns yX7_tryTurns ∈ lw_g := in_g (List.mem_of_getElem? (i := 4) (by decide +kernel)) (by decide +kernel)
theorem q444 : Cond.instanceMethod yX7_tryTurns ∈ lw_g := in_g (List.mem_of_getElem? (i := 444) (by decide +kernel)) (by decide +kernel)
theorem q445 : Cond.code yX7_tryTurns cX7_tryTurns 8 none ∈ lw_g := in_g (List.mem_of_getElem? (i := 445) (by decide +kernel)) (by decide +kernel)
theorem gw7_134 : GoodIn lw_g (wsV RX7 134 RX7 yX7_tryTurns (Cond.code yX7_tryTurns cX7_tryTurns 8 none :: lw_g)) := gV q442 q444 q4 q98 q445
theorem q446 : Cond.methodLink RX7 137 yX7_codeFrom ∈ lw_g := in_g (List.mem_of_getElem? (i := 446) (by decide +kernel)) (by decide +kernel)
theorem q5 : Cond.selects RX7 yX7_codeFrom yX7_codeFrom ∈ lw_g := in_g (List.mem_of_getElem? (i := 5) (by decide +kernel)) (by decide +kernel)
theorem q448 : Cond.instanceMethod yX7_codeFrom ∈ lw_g := in_g (List.mem_of_getElem? (i := 448) (by decide +kernel)) (by decide +kernel)
theorem q449 : Cond.code yX7_codeFrom cX7_codeFrom 10 (some .long) ∈ lw_g := in_g (List.mem_of_getElem? (i := 449) (by decide +kernel)) (by decide +kernel)
theorem gw7_137 : GoodIn lw_g (wsV RX7 137 RX7 yX7_codeFrom (Cond.code yX7_codeFrom cX7_codeFrom 10 (some .long) :: lw_g)) := gV q446 q448 q5 q98 q449
theorem q459 : Cond.methodLink RX7 141 yJ9_min_f86c9 ∈ lw_g := in_g (List.mem_of_getElem? (i := 459) (by decide +kernel)) (by decide +kernel)
theorem q460 : Cond.static yJ9_min_f86c9 ∈ lw_g := in_g (List.mem_of_getElem? (i := 460) (by decide +kernel)) (by decide +kernel)
theorem q461 : Cond.code yJ9_min_f86c9 cJ9_min_f86c9 4 (some .long) ∈ lw_g := in_g (List.mem_of_getElem? (i := 461) (by decide +kernel)) (by decide +kernel)
theorem gw7_141 : GoodIn lw_g (va_wsS RX7 141 yJ9_min_f86c9 (Cond.code yJ9_min_f86c9 cJ9_min_f86c9 4 (some .long) :: lw_g)) := gS q459 q460 q96 q461
theorem q451 : Cond.methodLink RX7 147 yX7_placeAhead ∈ lw_g := in_g (List.mem_of_getElem? (i := 451) (by decide +kernel)) (by decide +kernel)
theorem gw7_147 : GoodIn lw_g (wsV RX7 147 RX7 yX7_placeAhead (Cond.code yX7_placeAhead cX7_placeAhead 2 (some .int) :: lw_g)) := gV q451 q452 q453 q98 q454
theorem q677 : Cond.methodLink RX7 150 yX7_trySigns ∈ lw_g := in_g (List.mem_of_getElem? (i := 677) (by decide +kernel)) (by decide +kernel)
theorem q14 : Cond.selects RX7 yX7_trySigns yX7_trySigns ∈ lw_g := in_g (List.mem_of_getElem? (i := 14) (by decide +kernel)) (by decide +kernel)
theorem q679 : Cond.instanceMethod yX7_trySigns ∈ lw_g := in_g (List.mem_of_getElem? (i := 679) (by decide +kernel)) (by decide +kernel)
theorem q680 : Cond.code yX7_trySigns cX7_trySigns 3 none ∈ lw_g := in_g (List.mem_of_getElem? (i := 680) (by decide +kernel)) (by decide +kernel)
theorem gw7_150 : GoodIn lw_g (wsV RX7 150 RX7 yX7_trySigns (Cond.code yX7_trySigns cX7_trySigns 3 none :: lw_g)) := gV q677 q679 q14 q98 q680
theorem q681 : Cond.methodLink RX7 154 yX3_countIn ∈ lw_g := in_g (List.mem_of_getElem? (i := 681) (by decide +kernel)) (by decide +kernel)
theorem gw7_154 : GoodIn lw_g (va_wsS RX7 154 yX3_countIn (Cond.code yX3_countIn cX3_countIn 7 (some .int) :: lw_g)) := gS q681 q579 q100 q580
theorem q476 : Cond.methodLink RX7 160 yX7_ringsOf ∈ lw_g := in_g (List.mem_of_getElem? (i := 476) (by decide +kernel)) (by decide +kernel)
theorem gw7_160 : GoodIn lw_g (wsV RX7 160 RX7 yX7_ringsOf (Cond.code yX7_ringsOf cX7_ringsOf 9 (some .int) :: lw_g)) := gV q476 q477 q478 q98 q479
theorem q721 : Cond.methodLink RX7 164 yX7_placeOf ∈ lw_g := in_g (List.mem_of_getElem? (i := 721) (by decide +kernel)) (by decide +kernel)
theorem gw7_164 : GoodIn lw_g (wsV RX7 164 RX7 yX7_placeOf (Cond.code yX7_placeOf cX7_placeOf 3 (some .int) :: lw_g)) := gV q721 q722 q723 q98 q724
theorem q725 : Cond.methodLink RX7 167 yX7_areBeside ∈ lw_g := in_g (List.mem_of_getElem? (i := 725) (by decide +kernel)) (by decide +kernel)
theorem q17 : Cond.selects RX7 yX7_areBeside yX7_areBeside ∈ lw_g := in_g (List.mem_of_getElem? (i := 17) (by decide +kernel)) (by decide +kernel)
theorem q727 : Cond.instanceMethod yX7_areBeside ∈ lw_g := in_g (List.mem_of_getElem? (i := 727) (by decide +kernel)) (by decide +kernel)
theorem q728 : Cond.code yX7_areBeside cX7_areBeside 3 (some .boolean) ∈ lw_g := in_g (List.mem_of_getElem? (i := 728) (by decide +kernel)) (by decide +kernel)
theorem gw7_167 : GoodIn lw_g (wsV RX7 167 RX7 yX7_areBeside (Cond.code yX7_areBeside cX7_areBeside 3 (some .boolean) :: lw_g)) := gV q725 q727 q17 q98 q728
theorem q717 : Cond.methodLink RX7 170 yX7_isLoop ∈ lw_g := in_g (List.mem_of_getElem? (i := 717) (by decide +kernel)) (by decide +kernel)
theorem gw7_170 : GoodIn lw_g (wsV RX7 170 RX7 yX7_isLoop (Cond.code yX7_isLoop cX7_isLoop 2 (some .boolean) :: lw_g)) := gV q717 q718 q719 q98 q720
theorem q114 : Cond.methodLink RX8 3 Lib.objectInit ∈ lw_g := in_g (List.mem_of_getElem? (i := 114) (by decide +kernel)) (by decide +kernel)
theorem q412 : Cond.methodLink RX8 21 yX8_isFull ∈ lw_g := in_g (List.mem_of_getElem? (i := 412) (by decide +kernel)) (by decide +kernel)
theorem gw8_21 : GoodIn lw_g (wsV RX8 21 RX8 yX8_isFull (Cond.code yX8_isFull cX8_isFull 1 (some .boolean) :: lw_g)) := gV q412 q277 q278 q87 q279
theorem q320 : Cond.methodLink RX8 25 yX8_count ∈ lw_g := in_g (List.mem_of_getElem? (i := 320) (by decide +kernel)) (by decide +kernel)
theorem gw8_25 : GoodIn lw_g (wsV RX8 25 RX8 yX8_count (Cond.code yX8_count cX8_count 1 (some .int) :: lw_g)) := gV q320 q321 q322 q87 q323
theorem q324 : Cond.methodLink RX8 28 yX8_get ∈ lw_g := in_g (List.mem_of_getElem? (i := 324) (by decide +kernel)) (by decide +kernel)
theorem gw8_28 : GoodIn lw_g (wsV RX8 28 RX8 yX8_get (Cond.code yX8_get cX8_get 2 (some (.object "OneStrokes$Word")) :: lw_g)) := gV q324 q325 q326 q87 q327
theorem q430 : Cond.methodLink RX8 32 yX8_hasLikeAhead ∈ lw_g := in_g (List.mem_of_getElem? (i := 430) (by decide +kernel)) (by decide +kernel)
theorem q3 : Cond.selects RX8 yX8_hasLikeAhead yX8_hasLikeAhead ∈ lw_g := in_g (List.mem_of_getElem? (i := 3) (by decide +kernel)) (by decide +kernel)
theorem q432 : Cond.instanceMethod yX8_hasLikeAhead ∈ lw_g := in_g (List.mem_of_getElem? (i := 432) (by decide +kernel)) (by decide +kernel)
theorem q433 : Cond.code yX8_hasLikeAhead cX8_hasLikeAhead 5 (some .boolean) ∈ lw_g := in_g (List.mem_of_getElem? (i := 433) (by decide +kernel)) (by decide +kernel)
theorem gw8_32 : GoodIn lw_g (wsV RX8 32 RX8 yX8_hasLikeAhead (Cond.code yX8_hasLikeAhead cX8_hasLikeAhead 5 (some .boolean) :: lw_g)) := gV q430 q432 q3 q87 q433
theorem q434 : Cond.methodLink RX8 36 yX10_row ∈ lw_g := in_g (List.mem_of_getElem? (i := 434) (by decide +kernel)) (by decide +kernel)
theorem gw8_36 : GoodIn lw_g (wsV RX8 36 RX10 yX10_row (Cond.code yX10_row cX10_row 1 (some (.object "OneStrokes$Row")) :: lw_g)) := gV q434 q435 q436 q97 q437
theorem q438 : Cond.methodLink RX8 40 yX7_isLike ∈ lw_g := in_g (List.mem_of_getElem? (i := 438) (by decide +kernel)) (by decide +kernel)
theorem gw8_40 : GoodIn lw_g (wsV RX8 40 RX7 yX7_isLike (Cond.code yX7_isLike cX7_isLike 2 (some .boolean) :: lw_g)) := gV q438 q439 q440 q98 q441
theorem q129 : Cond.methodLink RX9 3 Lib.objectInit ∈ lw_g := in_g (List.mem_of_getElem? (i := 129) (by decide +kernel)) (by decide +kernel)
theorem q295 : Cond.methodLink RX9 22 yX1_clear ∈ lw_g := in_g (List.mem_of_getElem? (i := 295) (by decide +kernel)) (by decide +kernel)
theorem gw9_22 : GoodIn lw_g (wsV RX9 22 RX1 yX1_clear (Cond.code yX1_clear cX1_clear 1 none :: lw_g)) := gV q295 q296 q297 q93 q298
theorem q299 : Cond.methodLink RX9 27 yX1_put ∈ lw_g := in_g (List.mem_of_getElem? (i := 299) (by decide +kernel)) (by decide +kernel)
theorem gw9_27 : GoodIn lw_g (wsV RX9 27 RX1 yX1_put (Cond.code yX1_put cX1_put 2 none :: lw_g)) := gV q299 q300 q301 q93 q302
theorem q284 : Cond.methodLink RX9 31 yX9_countOf ∈ lw_g := in_g (List.mem_of_getElem? (i := 284) (by decide +kernel)) (by decide +kernel)
theorem q0 : Cond.selects RX9 yX9_countOf yX9_countOf ∈ lw_g := in_g (List.mem_of_getElem? (i := 0) (by decide +kernel)) (by decide +kernel)
theorem q286 : Cond.instanceMethod yX9_countOf ∈ lw_g := in_g (List.mem_of_getElem? (i := 286) (by decide +kernel)) (by decide +kernel)
theorem q287 : Cond.code yX9_countOf cX9_countOf 5 (some .int) ∈ lw_g := in_g (List.mem_of_getElem? (i := 287) (by decide +kernel)) (by decide +kernel)
theorem gw9_31 : GoodIn lw_g (wsV RX9 31 RX9 yX9_countOf (Cond.code yX9_countOf cX9_countOf 5 (some .int) :: lw_g)) := gV q284 q286 q0 q88 q287
theorem q288 : Cond.methodLink RX9 35 yX9_faultOfLetter ∈ lw_g := in_g (List.mem_of_getElem? (i := 288) (by decide +kernel)) (by decide +kernel)
theorem q289 : Cond.static yX9_faultOfLetter ∈ lw_g := in_g (List.mem_of_getElem? (i := 289) (by decide +kernel)) (by decide +kernel)
theorem q290 : Cond.code yX9_faultOfLetter cX9_faultOfLetter 3 (some .int) ∈ lw_g := in_g (List.mem_of_getElem? (i := 290) (by decide +kernel)) (by decide +kernel)
theorem gw9_35 : GoodIn lw_g (va_wsS RX9 35 yX9_faultOfLetter (Cond.code yX9_faultOfLetter cX9_faultOfLetter 3 (some .int) :: lw_g)) := gS q288 q289 q88 q290
theorem q397 : Cond.methodLink RX10 1 Lib.objectInit ∈ lw_g := in_g (List.mem_of_getElem? (i := 397) (by decide +kernel)) (by decide +kernel)
theorem q574 : Cond.methodLink RX10 23 yX3_init ∈ lw_g := in_g (List.mem_of_getElem? (i := 574) (by decide +kernel)) (by decide +kernel)
theorem q575 : Cond.instanceMethod yX3_init ∈ lw_g := in_g (List.mem_of_getElem? (i := 575) (by decide +kernel)) (by decide +kernel)
theorem q576 : Cond.code yX3_init cX3_init 4 none ∈ lw_g := in_g (List.mem_of_getElem? (i := 576) (by decide +kernel)) (by decide +kernel)
theorem gw10_23 : GoodIn lw_g (Cond.code yX3_init cX3_init 4 none :: lw_g) := gC q576
theorem q103 : Cond.methodLink RL 9 yX11_init ∈ lw_g := in_g (List.mem_of_getElem? (i := 103) (by decide +kernel)) (by decide +kernel)
theorem q104 : Cond.instanceMethod yX11_init ∈ lw_g := in_g (List.mem_of_getElem? (i := 104) (by decide +kernel)) (by decide +kernel)
theorem q105 : Cond.code yX11_init cX11_init 1 none ∈ lw_g := in_g (List.mem_of_getElem? (i := 105) (by decide +kernel)) (by decide +kernel)
theorem gwL_9 : GoodIn lw_g (Cond.code yX11_init cX11_init 1 none :: lw_g) := gC q105
theorem q1019 : Cond.methodLink RL 12 yX12_init ∈ lw_g := in_g (List.mem_of_getElem? (i := 1019) (by decide +kernel)) (by decide +kernel)
theorem q1020 : Cond.instanceMethod yX12_init ∈ lw_g := in_g (List.mem_of_getElem? (i := 1020) (by decide +kernel)) (by decide +kernel)
theorem q1021 : Cond.code yX12_init cX12_init 1 none ∈ lw_g := in_g (List.mem_of_getElem? (i := 1021) (by decide +kernel)) (by decide +kernel)
theorem gwL_12 : GoodIn lw_g (Cond.code yX12_init cX12_init 1 none :: lw_g) := gC q1021
theorem q258 : Cond.methodLink RL 13 yX11_feed ∈ lw_g := in_g (List.mem_of_getElem? (i := 258) (by decide +kernel)) (by decide +kernel)
theorem q260 : Cond.selects RX11 yX11_feed yX11_feed ∈ lw_g := in_g (List.mem_of_getElem? (i := 260) (by decide +kernel)) (by decide +kernel)
theorem q259 : Cond.instanceMethod yX11_feed ∈ lw_g := in_g (List.mem_of_getElem? (i := 259) (by decide +kernel)) (by decide +kernel)
theorem q261 : Cond.code yX11_feed cX11_feed 2 (some .int) ∈ lw_g := in_g (List.mem_of_getElem? (i := 261) (by decide +kernel)) (by decide +kernel)
theorem gwL_13 : GoodIn lw_g (wsV RL 13 RX11 yX11_feed (Cond.code yX11_feed cX11_feed 2 (some .int) :: lw_g)) := gV q258 q259 q260 q86 q261
theorem q1084 : Cond.methodLink RL 17 yX12_feed ∈ lw_g := in_g (List.mem_of_getElem? (i := 1084) (by decide +kernel)) (by decide +kernel)
theorem q1086 : Cond.selects RX12 yX12_feed yX12_feed ∈ lw_g := in_g (List.mem_of_getElem? (i := 1086) (by decide +kernel)) (by decide +kernel)
theorem q1085 : Cond.instanceMethod yX12_feed ∈ lw_g := in_g (List.mem_of_getElem? (i := 1085) (by decide +kernel)) (by decide +kernel)
theorem q1087 : Cond.code yX12_feed cX12_feed 2 (some .int) ∈ lw_g := in_g (List.mem_of_getElem? (i := 1087) (by decide +kernel)) (by decide +kernel)
theorem gwL_17 : GoodIn lw_g (wsV RL 17 RX12 yX12_feed (Cond.code yX12_feed cX12_feed 2 (some .int) :: lw_g)) := gV q1084 q1085 q1086 q95 q1087
theorem q272 : Cond.methodLink RL 18 yX11_tell ∈ lw_g := in_g (List.mem_of_getElem? (i := 272) (by decide +kernel)) (by decide +kernel)
theorem q274 : Cond.selects RX11 yX11_tell yX11_tell ∈ lw_g := in_g (List.mem_of_getElem? (i := 274) (by decide +kernel)) (by decide +kernel)
theorem q273 : Cond.instanceMethod yX11_tell ∈ lw_g := in_g (List.mem_of_getElem? (i := 273) (by decide +kernel)) (by decide +kernel)
theorem q275 : Cond.code yX11_tell cX11_tell 2 (some .int) ∈ lw_g := in_g (List.mem_of_getElem? (i := 275) (by decide +kernel)) (by decide +kernel)
theorem gwL_18 : GoodIn lw_g (wsV RL 18 RX11 yX11_tell (Cond.code yX11_tell cX11_tell 2 (some .int) :: lw_g)) := gV q272 q273 q274 q86 q275
theorem q1094 : Cond.methodLink RL 22 yX12_tell ∈ lw_g := in_g (List.mem_of_getElem? (i := 1094) (by decide +kernel)) (by decide +kernel)
theorem q1096 : Cond.selects RX12 yX12_tell yX12_tell ∈ lw_g := in_g (List.mem_of_getElem? (i := 1096) (by decide +kernel)) (by decide +kernel)
theorem q1095 : Cond.instanceMethod yX12_tell ∈ lw_g := in_g (List.mem_of_getElem? (i := 1095) (by decide +kernel)) (by decide +kernel)
theorem q1097 : Cond.code yX12_tell cX12_tell 5 (some .int) ∈ lw_g := in_g (List.mem_of_getElem? (i := 1097) (by decide +kernel)) (by decide +kernel)
theorem gwL_22 : GoodIn lw_g (wsV RL 22 RX12 yX12_tell (Cond.code yX12_tell cX12_tell 5 (some .int) :: lw_g)) := gV q1094 q1095 q1096 q95 q1097
theorem q414 : Cond.methodLink RL 23 yX11_fault ∈ lw_g := in_g (List.mem_of_getElem? (i := 414) (by decide +kernel)) (by decide +kernel)
theorem q416 : Cond.selects RX11 yX11_fault yX11_fault ∈ lw_g := in_g (List.mem_of_getElem? (i := 416) (by decide +kernel)) (by decide +kernel)
theorem q415 : Cond.instanceMethod yX11_fault ∈ lw_g := in_g (List.mem_of_getElem? (i := 415) (by decide +kernel)) (by decide +kernel)
theorem q417 : Cond.code yX11_fault cX11_fault 1 (some .int) ∈ lw_g := in_g (List.mem_of_getElem? (i := 417) (by decide +kernel)) (by decide +kernel)
theorem gwL_23 : GoodIn lw_g (wsV RL 23 RX11 yX11_fault (Cond.code yX11_fault cX11_fault 1 (some .int) :: lw_g)) := gV q414 q415 q416 q86 q417
theorem q1132 : Cond.methodLink RL 26 yX12_fault ∈ lw_g := in_g (List.mem_of_getElem? (i := 1132) (by decide +kernel)) (by decide +kernel)
theorem q1134 : Cond.selects RX12 yX12_fault yX12_fault ∈ lw_g := in_g (List.mem_of_getElem? (i := 1134) (by decide +kernel)) (by decide +kernel)
theorem q1133 : Cond.instanceMethod yX12_fault ∈ lw_g := in_g (List.mem_of_getElem? (i := 1133) (by decide +kernel)) (by decide +kernel)
theorem q1135 : Cond.code yX12_fault cX12_fault 1 (some .int) ∈ lw_g := in_g (List.mem_of_getElem? (i := 1135) (by decide +kernel)) (by decide +kernel)
theorem gwL_26 : GoodIn lw_g (wsV RL 26 RX12 yX12_fault (Cond.code yX12_fault cX12_fault 1 (some .int) :: lw_g)) := gV q1132 q1133 q1134 q95 q1135
theorem q422 : Cond.methodLink RL 27 yX11_told ∈ lw_g := in_g (List.mem_of_getElem? (i := 422) (by decide +kernel)) (by decide +kernel)
theorem q424 : Cond.selects RX11 yX11_told yX11_told ∈ lw_g := in_g (List.mem_of_getElem? (i := 424) (by decide +kernel)) (by decide +kernel)
theorem q423 : Cond.instanceMethod yX11_told ∈ lw_g := in_g (List.mem_of_getElem? (i := 423) (by decide +kernel)) (by decide +kernel)
theorem q425 : Cond.code yX11_told cX11_told 2 (some .int) ∈ lw_g := in_g (List.mem_of_getElem? (i := 425) (by decide +kernel)) (by decide +kernel)
theorem gwL_27 : GoodIn lw_g (wsV RL 27 RX11 yX11_told (Cond.code yX11_told cX11_told 2 (some .int) :: lw_g)) := gV q422 q423 q424 q86 q425
theorem q1136 : Cond.methodLink RL 30 yX12_told ∈ lw_g := in_g (List.mem_of_getElem? (i := 1136) (by decide +kernel)) (by decide +kernel)
theorem q1138 : Cond.selects RX12 yX12_told yX12_told ∈ lw_g := in_g (List.mem_of_getElem? (i := 1138) (by decide +kernel)) (by decide +kernel)
theorem q1137 : Cond.instanceMethod yX12_told ∈ lw_g := in_g (List.mem_of_getElem? (i := 1137) (by decide +kernel)) (by decide +kernel)
theorem q1139 : Cond.code yX12_told cX12_told 2 (some .int) ∈ lw_g := in_g (List.mem_of_getElem? (i := 1139) (by decide +kernel)) (by decide +kernel)
theorem gwL_30 : GoodIn lw_g (wsV RL 30 RX12 yX12_told (Cond.code yX12_told cX12_told 2 (some .int) :: lw_g)) := gV q1136 q1137 q1138 q95 q1139
theorem q511 : Cond.methodLink RL 31 yX11_word ∈ lw_g := in_g (List.mem_of_getElem? (i := 511) (by decide +kernel)) (by decide +kernel)
theorem q513 : Cond.selects RX11 yX11_word yX11_word ∈ lw_g := in_g (List.mem_of_getElem? (i := 513) (by decide +kernel)) (by decide +kernel)
theorem q512 : Cond.instanceMethod yX11_word ∈ lw_g := in_g (List.mem_of_getElem? (i := 512) (by decide +kernel)) (by decide +kernel)
theorem q514 : Cond.code yX11_word cX11_word 5 (some .int) ∈ lw_g := in_g (List.mem_of_getElem? (i := 514) (by decide +kernel)) (by decide +kernel)
theorem gwL_31 : GoodIn lw_g (wsV RL 31 RX11 yX11_word (Cond.code yX11_word cX11_word 5 (some .int) :: lw_g)) := gV q511 q512 q513 q86 q514
theorem q1204 : Cond.methodLink RL 35 yX12_word ∈ lw_g := in_g (List.mem_of_getElem? (i := 1204) (by decide +kernel)) (by decide +kernel)
theorem q1206 : Cond.selects RX12 yX12_word yX12_word ∈ lw_g := in_g (List.mem_of_getElem? (i := 1206) (by decide +kernel)) (by decide +kernel)
theorem q1205 : Cond.instanceMethod yX12_word ∈ lw_g := in_g (List.mem_of_getElem? (i := 1205) (by decide +kernel)) (by decide +kernel)
theorem q1207 : Cond.code yX12_word cX12_word 3 (some .int) ∈ lw_g := in_g (List.mem_of_getElem? (i := 1207) (by decide +kernel)) (by decide +kernel)
theorem gwL_35 : GoodIn lw_g (wsV RL 35 RX12 yX12_word (Cond.code yX12_word cX12_word 3 (some .int) :: lw_g)) := gV q1204 q1205 q1206 q95 q1207
theorem q733 : Cond.methodLink RL 36 yX11_code ∈ lw_g := in_g (List.mem_of_getElem? (i := 733) (by decide +kernel)) (by decide +kernel)
theorem q735 : Cond.selects RX11 yX11_code yX11_code ∈ lw_g := in_g (List.mem_of_getElem? (i := 735) (by decide +kernel)) (by decide +kernel)
theorem q734 : Cond.instanceMethod yX11_code ∈ lw_g := in_g (List.mem_of_getElem? (i := 734) (by decide +kernel)) (by decide +kernel)
theorem q736 : Cond.code yX11_code cX11_code 3 (some .long) ∈ lw_g := in_g (List.mem_of_getElem? (i := 736) (by decide +kernel)) (by decide +kernel)
theorem gwL_36 : GoodIn lw_g (wsV RL 36 RX11 yX11_code (Cond.code yX11_code cX11_code 3 (some .long) :: lw_g)) := gV q733 q734 q735 q86 q736
theorem q1330 : Cond.methodLink RL 40 yX12_code ∈ lw_g := in_g (List.mem_of_getElem? (i := 1330) (by decide +kernel)) (by decide +kernel)
theorem q1332 : Cond.selects RX12 yX12_code yX12_code ∈ lw_g := in_g (List.mem_of_getElem? (i := 1332) (by decide +kernel)) (by decide +kernel)
theorem q1331 : Cond.instanceMethod yX12_code ∈ lw_g := in_g (List.mem_of_getElem? (i := 1331) (by decide +kernel)) (by decide +kernel)
theorem q1333 : Cond.code yX12_code cX12_code 2 (some .long) ∈ lw_g := in_g (List.mem_of_getElem? (i := 1333) (by decide +kernel)) (by decide +kernel)
theorem gwL_40 : GoodIn lw_g (wsV RL 40 RX12 yX12_code (Cond.code yX12_code cX12_code 2 (some .long) :: lw_g)) := gV q1330 q1331 q1332 q95 q1333
theorem q742 : Cond.methodLink RL 41 yX11_at ∈ lw_g := in_g (List.mem_of_getElem? (i := 742) (by decide +kernel)) (by decide +kernel)
theorem q744 : Cond.selects RX11 yX11_at yX11_at ∈ lw_g := in_g (List.mem_of_getElem? (i := 744) (by decide +kernel)) (by decide +kernel)
theorem q743 : Cond.instanceMethod yX11_at ∈ lw_g := in_g (List.mem_of_getElem? (i := 743) (by decide +kernel)) (by decide +kernel)
theorem q745 : Cond.code yX11_at cX11_at 4 (some .int) ∈ lw_g := in_g (List.mem_of_getElem? (i := 745) (by decide +kernel)) (by decide +kernel)
theorem gwL_41 : GoodIn lw_g (wsV RL 41 RX11 yX11_at (Cond.code yX11_at cX11_at 4 (some .int) :: lw_g)) := gV q742 q743 q744 q86 q745
theorem q1335 : Cond.methodLink RL 44 yX12_at ∈ lw_g := in_g (List.mem_of_getElem? (i := 1335) (by decide +kernel)) (by decide +kernel)
theorem q1337 : Cond.selects RX12 yX12_at yX12_at ∈ lw_g := in_g (List.mem_of_getElem? (i := 1337) (by decide +kernel)) (by decide +kernel)
theorem q1336 : Cond.instanceMethod yX12_at ∈ lw_g := in_g (List.mem_of_getElem? (i := 1336) (by decide +kernel)) (by decide +kernel)
theorem q1338 : Cond.code yX12_at cX12_at 3 (some .int) ∈ lw_g := in_g (List.mem_of_getElem? (i := 1338) (by decide +kernel)) (by decide +kernel)
theorem gwL_44 : GoodIn lw_g (wsV RL 44 RX12 yX12_at (Cond.code yX12_at cX12_at 3 (some .int) :: lw_g)) := gV q1335 q1336 q1337 q95 q1338
theorem q747 : Cond.methodLink RL 45 yX11_letter ∈ lw_g := in_g (List.mem_of_getElem? (i := 747) (by decide +kernel)) (by decide +kernel)
theorem q749 : Cond.selects RX11 yX11_letter yX11_letter ∈ lw_g := in_g (List.mem_of_getElem? (i := 749) (by decide +kernel)) (by decide +kernel)
theorem q748 : Cond.instanceMethod yX11_letter ∈ lw_g := in_g (List.mem_of_getElem? (i := 748) (by decide +kernel)) (by decide +kernel)
theorem q750 : Cond.code yX11_letter cX11_letter 5 (some .int) ∈ lw_g := in_g (List.mem_of_getElem? (i := 750) (by decide +kernel)) (by decide +kernel)
theorem gwL_45 : GoodIn lw_g (wsV RL 45 RX11 yX11_letter (Cond.code yX11_letter cX11_letter 5 (some .int) :: lw_g)) := gV q747 q748 q749 q86 q750
theorem q1339 : Cond.methodLink RL 49 yX12_letter ∈ lw_g := in_g (List.mem_of_getElem? (i := 1339) (by decide +kernel)) (by decide +kernel)
theorem q1341 : Cond.selects RX12 yX12_letter yX12_letter ∈ lw_g := in_g (List.mem_of_getElem? (i := 1341) (by decide +kernel)) (by decide +kernel)
theorem q1340 : Cond.instanceMethod yX12_letter ∈ lw_g := in_g (List.mem_of_getElem? (i := 1340) (by decide +kernel)) (by decide +kernel)
theorem q1342 : Cond.code yX12_letter cX12_letter 5 (some .int) ∈ lw_g := in_g (List.mem_of_getElem? (i := 1342) (by decide +kernel)) (by decide +kernel)
theorem gwL_49 : GoodIn lw_g (wsV RL 49 RX12 yX12_letter (Cond.code yX12_letter cX12_letter 5 (some .int) :: lw_g)) := gV q1339 q1340 q1341 q95 q1342
theorem q763 : Cond.methodLink RL 50 yX11_face ∈ lw_g := in_g (List.mem_of_getElem? (i := 763) (by decide +kernel)) (by decide +kernel)
theorem q765 : Cond.selects RX11 yX11_face yX11_face ∈ lw_g := in_g (List.mem_of_getElem? (i := 765) (by decide +kernel)) (by decide +kernel)
theorem q764 : Cond.instanceMethod yX11_face ∈ lw_g := in_g (List.mem_of_getElem? (i := 764) (by decide +kernel)) (by decide +kernel)
theorem q766 : Cond.code yX11_face cX11_face 6 (some .int) ∈ lw_g := in_g (List.mem_of_getElem? (i := 766) (by decide +kernel)) (by decide +kernel)
theorem gwL_50 : GoodIn lw_g (wsV RL 50 RX11 yX11_face (Cond.code yX11_face cX11_face 6 (some .int) :: lw_g)) := gV q763 q764 q765 q86 q766
theorem q1352 : Cond.methodLink RL 53 yX12_face ∈ lw_g := in_g (List.mem_of_getElem? (i := 1352) (by decide +kernel)) (by decide +kernel)
theorem q1354 : Cond.selects RX12 yX12_face yX12_face ∈ lw_g := in_g (List.mem_of_getElem? (i := 1354) (by decide +kernel)) (by decide +kernel)
theorem q1353 : Cond.instanceMethod yX12_face ∈ lw_g := in_g (List.mem_of_getElem? (i := 1353) (by decide +kernel)) (by decide +kernel)
theorem q1355 : Cond.code yX12_face cX12_face 4 (some .int) ∈ lw_g := in_g (List.mem_of_getElem? (i := 1355) (by decide +kernel)) (by decide +kernel)
theorem gwL_53 : GoodIn lw_g (wsV RL 53 RX12 yX12_face (Cond.code yX12_face cX12_face 4 (some .int) :: lw_g)) := gV q1352 q1353 q1354 q95 q1355
theorem q779 : Cond.methodLink RL 54 yX11_rings ∈ lw_g := in_g (List.mem_of_getElem? (i := 779) (by decide +kernel)) (by decide +kernel)
theorem q781 : Cond.selects RX11 yX11_rings yX11_rings ∈ lw_g := in_g (List.mem_of_getElem? (i := 781) (by decide +kernel)) (by decide +kernel)
theorem q780 : Cond.instanceMethod yX11_rings ∈ lw_g := in_g (List.mem_of_getElem? (i := 780) (by decide +kernel)) (by decide +kernel)
theorem q782 : Cond.code yX11_rings cX11_rings 4 (some .int) ∈ lw_g := in_g (List.mem_of_getElem? (i := 782) (by decide +kernel)) (by decide +kernel)
theorem gwL_54 : GoodIn lw_g (wsV RL 54 RX11 yX11_rings (Cond.code yX11_rings cX11_rings 4 (some .int) :: lw_g)) := gV q779 q780 q781 q86 q782
theorem q1361 : Cond.methodLink RL 57 yX12_rings ∈ lw_g := in_g (List.mem_of_getElem? (i := 1361) (by decide +kernel)) (by decide +kernel)
theorem q1363 : Cond.selects RX12 yX12_rings yX12_rings ∈ lw_g := in_g (List.mem_of_getElem? (i := 1363) (by decide +kernel)) (by decide +kernel)
theorem q1362 : Cond.instanceMethod yX12_rings ∈ lw_g := in_g (List.mem_of_getElem? (i := 1362) (by decide +kernel)) (by decide +kernel)
theorem q1364 : Cond.code yX12_rings cX12_rings 3 (some .int) ∈ lw_g := in_g (List.mem_of_getElem? (i := 1364) (by decide +kernel)) (by decide +kernel)
theorem gwL_57 : GoodIn lw_g (wsV RL 57 RX12 yX12_rings (Cond.code yX12_rings cX12_rings 3 (some .int) :: lw_g)) := gV q1361 q1362 q1363 q95 q1364
theorem q787 : Cond.methodLink RL 58 yX11_states ∈ lw_g := in_g (List.mem_of_getElem? (i := 787) (by decide +kernel)) (by decide +kernel)
theorem q789 : Cond.selects RX11 yX11_states yX11_states ∈ lw_g := in_g (List.mem_of_getElem? (i := 789) (by decide +kernel)) (by decide +kernel)
theorem q788 : Cond.instanceMethod yX11_states ∈ lw_g := in_g (List.mem_of_getElem? (i := 788) (by decide +kernel)) (by decide +kernel)
theorem q790 : Cond.code yX11_states cX11_states 4 (some .int) ∈ lw_g := in_g (List.mem_of_getElem? (i := 790) (by decide +kernel)) (by decide +kernel)
theorem gwL_58 : GoodIn lw_g (wsV RL 58 RX11 yX11_states (Cond.code yX11_states cX11_states 4 (some .int) :: lw_g)) := gV q787 q788 q789 q86 q790
theorem q1369 : Cond.methodLink RL 61 yX12_states ∈ lw_g := in_g (List.mem_of_getElem? (i := 1369) (by decide +kernel)) (by decide +kernel)
theorem q1371 : Cond.selects RX12 yX12_states yX12_states ∈ lw_g := in_g (List.mem_of_getElem? (i := 1371) (by decide +kernel)) (by decide +kernel)
theorem q1370 : Cond.instanceMethod yX12_states ∈ lw_g := in_g (List.mem_of_getElem? (i := 1370) (by decide +kernel)) (by decide +kernel)
theorem q1372 : Cond.code yX12_states cX12_states 3 (some .int) ∈ lw_g := in_g (List.mem_of_getElem? (i := 1372) (by decide +kernel)) (by decide +kernel)
theorem gwL_61 : GoodIn lw_g (wsV RL 61 RX12 yX12_states (Cond.code yX12_states cX12_states 3 (some .int) :: lw_g)) := gV q1369 q1370 q1371 q95 q1372
theorem q792 : Cond.methodLink RL 62 yX11_same ∈ lw_g := in_g (List.mem_of_getElem? (i := 792) (by decide +kernel)) (by decide +kernel)
theorem q794 : Cond.selects RX11 yX11_same yX11_same ∈ lw_g := in_g (List.mem_of_getElem? (i := 794) (by decide +kernel)) (by decide +kernel)
theorem q793 : Cond.instanceMethod yX11_same ∈ lw_g := in_g (List.mem_of_getElem? (i := 793) (by decide +kernel)) (by decide +kernel)
theorem q795 : Cond.code yX11_same cX11_same 5 (some .int) ∈ lw_g := in_g (List.mem_of_getElem? (i := 795) (by decide +kernel)) (by decide +kernel)
theorem gwL_62 : GoodIn lw_g (wsV RL 62 RX11 yX11_same (Cond.code yX11_same cX11_same 5 (some .int) :: lw_g)) := gV q792 q793 q794 q86 q795
theorem q1374 : Cond.methodLink RL 65 yX12_same ∈ lw_g := in_g (List.mem_of_getElem? (i := 1374) (by decide +kernel)) (by decide +kernel)
theorem q1376 : Cond.selects RX12 yX12_same yX12_same ∈ lw_g := in_g (List.mem_of_getElem? (i := 1376) (by decide +kernel)) (by decide +kernel)
theorem q1375 : Cond.instanceMethod yX12_same ∈ lw_g := in_g (List.mem_of_getElem? (i := 1375) (by decide +kernel)) (by decide +kernel)
theorem q1377 : Cond.code yX12_same cX12_same 3 (some .int) ∈ lw_g := in_g (List.mem_of_getElem? (i := 1377) (by decide +kernel)) (by decide +kernel)
theorem gwL_65 : GoodIn lw_g (wsV RL 65 RX12 yX12_same (Cond.code yX12_same cX12_same 3 (some .int) :: lw_g)) := gV q1374 q1375 q1376 q95 q1377
theorem q797 : Cond.methodLink RL 66 yX11_signs ∈ lw_g := in_g (List.mem_of_getElem? (i := 797) (by decide +kernel)) (by decide +kernel)
theorem q799 : Cond.selects RX11 yX11_signs yX11_signs ∈ lw_g := in_g (List.mem_of_getElem? (i := 799) (by decide +kernel)) (by decide +kernel)
theorem q798 : Cond.instanceMethod yX11_signs ∈ lw_g := in_g (List.mem_of_getElem? (i := 798) (by decide +kernel)) (by decide +kernel)
theorem q800 : Cond.code yX11_signs cX11_signs 5 (some .int) ∈ lw_g := in_g (List.mem_of_getElem? (i := 800) (by decide +kernel)) (by decide +kernel)
theorem gwL_66 : GoodIn lw_g (wsV RL 66 RX11 yX11_signs (Cond.code yX11_signs cX11_signs 5 (some .int) :: lw_g)) := gV q797 q798 q799 q86 q800
theorem q1378 : Cond.methodLink RL 69 yX12_signs ∈ lw_g := in_g (List.mem_of_getElem? (i := 1378) (by decide +kernel)) (by decide +kernel)
theorem q1380 : Cond.selects RX12 yX12_signs yX12_signs ∈ lw_g := in_g (List.mem_of_getElem? (i := 1380) (by decide +kernel)) (by decide +kernel)
theorem q1379 : Cond.instanceMethod yX12_signs ∈ lw_g := in_g (List.mem_of_getElem? (i := 1379) (by decide +kernel)) (by decide +kernel)
theorem q1381 : Cond.code yX12_signs cX12_signs 3 (some .int) ∈ lw_g := in_g (List.mem_of_getElem? (i := 1381) (by decide +kernel)) (by decide +kernel)
theorem gwL_69 : GoodIn lw_g (wsV RL 69 RX12 yX12_signs (Cond.code yX12_signs cX12_signs 3 (some .int) :: lw_g)) := gV q1378 q1379 q1380 q95 q1381
theorem q809 : Cond.methodLink RL 70 yX11_draw ∈ lw_g := in_g (List.mem_of_getElem? (i := 809) (by decide +kernel)) (by decide +kernel)
theorem q811 : Cond.selects RX11 yX11_draw yX11_draw ∈ lw_g := in_g (List.mem_of_getElem? (i := 811) (by decide +kernel)) (by decide +kernel)
theorem q810 : Cond.instanceMethod yX11_draw ∈ lw_g := in_g (List.mem_of_getElem? (i := 810) (by decide +kernel)) (by decide +kernel)
theorem q812 : Cond.code yX11_draw cX11_draw 4 (some .int) ∈ lw_g := in_g (List.mem_of_getElem? (i := 812) (by decide +kernel)) (by decide +kernel)
theorem gwL_70 : GoodIn lw_g (wsV RL 70 RX11 yX11_draw (Cond.code yX11_draw cX11_draw 4 (some .int) :: lw_g)) := gV q809 q810 q811 q86 q812
theorem q1382 : Cond.methodLink RL 73 yX12_draw ∈ lw_g := in_g (List.mem_of_getElem? (i := 1382) (by decide +kernel)) (by decide +kernel)
theorem q1384 : Cond.selects RX12 yX12_draw yX12_draw ∈ lw_g := in_g (List.mem_of_getElem? (i := 1384) (by decide +kernel)) (by decide +kernel)
theorem q1383 : Cond.instanceMethod yX12_draw ∈ lw_g := in_g (List.mem_of_getElem? (i := 1383) (by decide +kernel)) (by decide +kernel)
theorem q1385 : Cond.code yX12_draw cX12_draw 3 (some .int) ∈ lw_g := in_g (List.mem_of_getElem? (i := 1385) (by decide +kernel)) (by decide +kernel)
theorem gwL_73 : GoodIn lw_g (wsV RL 73 RX12 yX12_draw (Cond.code yX12_draw cX12_draw 3 (some .int) :: lw_g)) := gV q1382 q1383 q1384 q95 q1385
theorem q814 : Cond.methodLink RL 74 yX11_turn ∈ lw_g := in_g (List.mem_of_getElem? (i := 814) (by decide +kernel)) (by decide +kernel)
theorem q816 : Cond.selects RX11 yX11_turn yX11_turn ∈ lw_g := in_g (List.mem_of_getElem? (i := 816) (by decide +kernel)) (by decide +kernel)
theorem q815 : Cond.instanceMethod yX11_turn ∈ lw_g := in_g (List.mem_of_getElem? (i := 815) (by decide +kernel)) (by decide +kernel)
theorem q817 : Cond.code yX11_turn cX11_turn 5 (some .int) ∈ lw_g := in_g (List.mem_of_getElem? (i := 817) (by decide +kernel)) (by decide +kernel)
theorem gwL_74 : GoodIn lw_g (wsV RL 74 RX11 yX11_turn (Cond.code yX11_turn cX11_turn 5 (some .int) :: lw_g)) := gV q814 q815 q816 q86 q817
theorem q1387 : Cond.methodLink RL 78 yX12_turn ∈ lw_g := in_g (List.mem_of_getElem? (i := 1387) (by decide +kernel)) (by decide +kernel)
theorem q1389 : Cond.selects RX12 yX12_turn yX12_turn ∈ lw_g := in_g (List.mem_of_getElem? (i := 1389) (by decide +kernel)) (by decide +kernel)
theorem q1388 : Cond.instanceMethod yX12_turn ∈ lw_g := in_g (List.mem_of_getElem? (i := 1388) (by decide +kernel)) (by decide +kernel)
theorem q1390 : Cond.code yX12_turn cX12_turn 4 (some .int) ∈ lw_g := in_g (List.mem_of_getElem? (i := 1390) (by decide +kernel)) (by decide +kernel)
theorem gwL_78 : GoodIn lw_g (wsV RL 78 RX12 yX12_turn (Cond.code yX12_turn cX12_turn 4 (some .int) :: lw_g)) := gV q1387 q1388 q1389 q95 q1390
theorem q833 : Cond.methodLink RL 79 yX11_twist ∈ lw_g := in_g (List.mem_of_getElem? (i := 833) (by decide +kernel)) (by decide +kernel)
theorem q835 : Cond.selects RX11 yX11_twist yX11_twist ∈ lw_g := in_g (List.mem_of_getElem? (i := 835) (by decide +kernel)) (by decide +kernel)
theorem q834 : Cond.instanceMethod yX11_twist ∈ lw_g := in_g (List.mem_of_getElem? (i := 834) (by decide +kernel)) (by decide +kernel)
theorem q836 : Cond.code yX11_twist cX11_twist 4 (some .int) ∈ lw_g := in_g (List.mem_of_getElem? (i := 836) (by decide +kernel)) (by decide +kernel)
theorem gwL_79 : GoodIn lw_g (wsV RL 79 RX11 yX11_twist (Cond.code yX11_twist cX11_twist 4 (some .int) :: lw_g)) := gV q833 q834 q835 q86 q836
theorem q1391 : Cond.methodLink RL 82 yX12_twist ∈ lw_g := in_g (List.mem_of_getElem? (i := 1391) (by decide +kernel)) (by decide +kernel)
theorem q1393 : Cond.selects RX12 yX12_twist yX12_twist ∈ lw_g := in_g (List.mem_of_getElem? (i := 1393) (by decide +kernel)) (by decide +kernel)
theorem q1392 : Cond.instanceMethod yX12_twist ∈ lw_g := in_g (List.mem_of_getElem? (i := 1392) (by decide +kernel)) (by decide +kernel)
theorem q1394 : Cond.code yX12_twist cX12_twist 5 (some .int) ∈ lw_g := in_g (List.mem_of_getElem? (i := 1394) (by decide +kernel)) (by decide +kernel)
theorem gwL_82 : GoodIn lw_g (wsV RL 82 RX12 yX12_twist (Cond.code yX12_twist cX12_twist 5 (some .int) :: lw_g)) := gV q1391 q1392 q1393 q95 q1394
theorem q851 : Cond.methodLink RL 83 yX11_untwist ∈ lw_g := in_g (List.mem_of_getElem? (i := 851) (by decide +kernel)) (by decide +kernel)
theorem q853 : Cond.selects RX11 yX11_untwist yX11_untwist ∈ lw_g := in_g (List.mem_of_getElem? (i := 853) (by decide +kernel)) (by decide +kernel)
theorem q852 : Cond.instanceMethod yX11_untwist ∈ lw_g := in_g (List.mem_of_getElem? (i := 852) (by decide +kernel)) (by decide +kernel)
theorem q854 : Cond.code yX11_untwist cX11_untwist 4 (some .int) ∈ lw_g := in_g (List.mem_of_getElem? (i := 854) (by decide +kernel)) (by decide +kernel)
theorem gwL_83 : GoodIn lw_g (wsV RL 83 RX11 yX11_untwist (Cond.code yX11_untwist cX11_untwist 4 (some .int) :: lw_g)) := gV q851 q852 q853 q86 q854
theorem q1399 : Cond.methodLink RL 86 yX12_untwist ∈ lw_g := in_g (List.mem_of_getElem? (i := 1399) (by decide +kernel)) (by decide +kernel)
theorem q1401 : Cond.selects RX12 yX12_untwist yX12_untwist ∈ lw_g := in_g (List.mem_of_getElem? (i := 1401) (by decide +kernel)) (by decide +kernel)
theorem q1400 : Cond.instanceMethod yX12_untwist ∈ lw_g := in_g (List.mem_of_getElem? (i := 1400) (by decide +kernel)) (by decide +kernel)
theorem q1402 : Cond.code yX12_untwist cX12_untwist 3 (some .int) ∈ lw_g := in_g (List.mem_of_getElem? (i := 1402) (by decide +kernel)) (by decide +kernel)
theorem gwL_86 : GoodIn lw_g (wsV RL 86 RX12 yX12_untwist (Cond.code yX12_untwist cX12_untwist 3 (some .int) :: lw_g)) := gV q1399 q1400 q1401 q95 q1402
theorem q861 : Cond.methodLink RL 87 yX11_poke ∈ lw_g := in_g (List.mem_of_getElem? (i := 861) (by decide +kernel)) (by decide +kernel)
theorem q863 : Cond.selects RX11 yX11_poke yX11_poke ∈ lw_g := in_g (List.mem_of_getElem? (i := 863) (by decide +kernel)) (by decide +kernel)
theorem q862 : Cond.instanceMethod yX11_poke ∈ lw_g := in_g (List.mem_of_getElem? (i := 862) (by decide +kernel)) (by decide +kernel)
theorem q864 : Cond.code yX11_poke cX11_poke 6 (some .int) ∈ lw_g := in_g (List.mem_of_getElem? (i := 864) (by decide +kernel)) (by decide +kernel)
theorem gwL_87 : GoodIn lw_g (wsV RL 87 RX11 yX11_poke (Cond.code yX11_poke cX11_poke 6 (some .int) :: lw_g)) := gV q861 q862 q863 q86 q864
theorem q1407 : Cond.methodLink RL 91 yX12_poke ∈ lw_g := in_g (List.mem_of_getElem? (i := 1407) (by decide +kernel)) (by decide +kernel)
theorem q1409 : Cond.selects RX12 yX12_poke yX12_poke ∈ lw_g := in_g (List.mem_of_getElem? (i := 1409) (by decide +kernel)) (by decide +kernel)
theorem q1408 : Cond.instanceMethod yX12_poke ∈ lw_g := in_g (List.mem_of_getElem? (i := 1408) (by decide +kernel)) (by decide +kernel)
theorem q1410 : Cond.code yX12_poke cX12_poke 7 (some .int) ∈ lw_g := in_g (List.mem_of_getElem? (i := 1410) (by decide +kernel)) (by decide +kernel)
theorem gwL_91 : GoodIn lw_g (wsV RL 91 RX12 yX12_poke (Cond.code yX12_poke cX12_poke 7 (some .int) :: lw_g)) := gV q1407 q1408 q1409 q95 q1410
theorem q869 : Cond.methodLink RL 92 yX11_unpoke ∈ lw_g := in_g (List.mem_of_getElem? (i := 869) (by decide +kernel)) (by decide +kernel)
theorem q871 : Cond.selects RX11 yX11_unpoke yX11_unpoke ∈ lw_g := in_g (List.mem_of_getElem? (i := 871) (by decide +kernel)) (by decide +kernel)
theorem q870 : Cond.instanceMethod yX11_unpoke ∈ lw_g := in_g (List.mem_of_getElem? (i := 870) (by decide +kernel)) (by decide +kernel)
theorem q872 : Cond.code yX11_unpoke cX11_unpoke 5 (some .int) ∈ lw_g := in_g (List.mem_of_getElem? (i := 872) (by decide +kernel)) (by decide +kernel)
theorem gwL_92 : GoodIn lw_g (wsV RL 92 RX11 yX11_unpoke (Cond.code yX11_unpoke cX11_unpoke 5 (some .int) :: lw_g)) := gV q869 q870 q871 q86 q872
theorem q1411 : Cond.methodLink RL 95 yX12_unpoke ∈ lw_g := in_g (List.mem_of_getElem? (i := 1411) (by decide +kernel)) (by decide +kernel)
theorem q1413 : Cond.selects RX12 yX12_unpoke yX12_unpoke ∈ lw_g := in_g (List.mem_of_getElem? (i := 1413) (by decide +kernel)) (by decide +kernel)
theorem q1412 : Cond.instanceMethod yX12_unpoke ∈ lw_g := in_g (List.mem_of_getElem? (i := 1412) (by decide +kernel)) (by decide +kernel)
theorem q1414 : Cond.code yX12_unpoke cX12_unpoke 9 (some .int) ∈ lw_g := in_g (List.mem_of_getElem? (i := 1414) (by decide +kernel)) (by decide +kernel)
theorem gwL_95 : GoodIn lw_g (wsV RL 95 RX12 yX12_unpoke (Cond.code yX12_unpoke cX12_unpoke 9 (some .int) :: lw_g)) := gV q1411 q1412 q1413 q95 q1414
theorem q877 : Cond.methodLink RL 96 yX11_slide ∈ lw_g := in_g (List.mem_of_getElem? (i := 877) (by decide +kernel)) (by decide +kernel)
theorem q879 : Cond.selects RX11 yX11_slide yX11_slide ∈ lw_g := in_g (List.mem_of_getElem? (i := 879) (by decide +kernel)) (by decide +kernel)
theorem q878 : Cond.instanceMethod yX11_slide ∈ lw_g := in_g (List.mem_of_getElem? (i := 878) (by decide +kernel)) (by decide +kernel)
theorem q880 : Cond.code yX11_slide cX11_slide 7 (some .int) ∈ lw_g := in_g (List.mem_of_getElem? (i := 880) (by decide +kernel)) (by decide +kernel)
theorem gwL_96 : GoodIn lw_g (wsV RL 96 RX11 yX11_slide (Cond.code yX11_slide cX11_slide 7 (some .int) :: lw_g)) := gV q877 q878 q879 q86 q880
theorem q1415 : Cond.methodLink RL 99 yX12_slide ∈ lw_g := in_g (List.mem_of_getElem? (i := 1415) (by decide +kernel)) (by decide +kernel)
theorem q1417 : Cond.selects RX12 yX12_slide yX12_slide ∈ lw_g := in_g (List.mem_of_getElem? (i := 1417) (by decide +kernel)) (by decide +kernel)
theorem q1416 : Cond.instanceMethod yX12_slide ∈ lw_g := in_g (List.mem_of_getElem? (i := 1416) (by decide +kernel)) (by decide +kernel)
theorem q1418 : Cond.code yX12_slide cX12_slide 15 (some .int) ∈ lw_g := in_g (List.mem_of_getElem? (i := 1418) (by decide +kernel)) (by decide +kernel)
theorem gwL_99 : GoodIn lw_g (wsV RL 99 RX12 yX12_slide (Cond.code yX12_slide cX12_slide 15 (some .int) :: lw_g)) := gV q1415 q1416 q1417 q95 q1418
theorem q902 : Cond.methodLink RL 100 yX11_smooth ∈ lw_g := in_g (List.mem_of_getElem? (i := 902) (by decide +kernel)) (by decide +kernel)
theorem q904 : Cond.selects RX11 yX11_smooth yX11_smooth ∈ lw_g := in_g (List.mem_of_getElem? (i := 904) (by decide +kernel)) (by decide +kernel)
theorem q903 : Cond.instanceMethod yX11_smooth ∈ lw_g := in_g (List.mem_of_getElem? (i := 903) (by decide +kernel)) (by decide +kernel)
theorem q905 : Cond.code yX11_smooth cX11_smooth 4 (some .int) ∈ lw_g := in_g (List.mem_of_getElem? (i := 905) (by decide +kernel)) (by decide +kernel)
theorem gwL_100 : GoodIn lw_g (wsV RL 100 RX11 yX11_smooth (Cond.code yX11_smooth cX11_smooth 4 (some .int) :: lw_g)) := gV q902 q903 q904 q86 q905
theorem q1423 : Cond.methodLink RL 103 yX12_smooth ∈ lw_g := in_g (List.mem_of_getElem? (i := 1423) (by decide +kernel)) (by decide +kernel)
theorem q1425 : Cond.selects RX12 yX12_smooth yX12_smooth ∈ lw_g := in_g (List.mem_of_getElem? (i := 1425) (by decide +kernel)) (by decide +kernel)
theorem q1424 : Cond.instanceMethod yX12_smooth ∈ lw_g := in_g (List.mem_of_getElem? (i := 1424) (by decide +kernel)) (by decide +kernel)
theorem q1426 : Cond.code yX12_smooth cX12_smooth 6 (some .int) ∈ lw_g := in_g (List.mem_of_getElem? (i := 1426) (by decide +kernel)) (by decide +kernel)
theorem gwL_103 : GoodIn lw_g (wsV RL 103 RX12 yX12_smooth (Cond.code yX12_smooth cX12_smooth 6 (some .int) :: lw_g)) := gV q1423 q1424 q1425 q95 q1426
theorem q910 : Cond.methodLink RL 104 yX11_sum ∈ lw_g := in_g (List.mem_of_getElem? (i := 910) (by decide +kernel)) (by decide +kernel)
theorem q912 : Cond.selects RX11 yX11_sum yX11_sum ∈ lw_g := in_g (List.mem_of_getElem? (i := 912) (by decide +kernel)) (by decide +kernel)
theorem q911 : Cond.instanceMethod yX11_sum ∈ lw_g := in_g (List.mem_of_getElem? (i := 911) (by decide +kernel)) (by decide +kernel)
theorem q913 : Cond.code yX11_sum cX11_sum 5 (some .int) ∈ lw_g := in_g (List.mem_of_getElem? (i := 913) (by decide +kernel)) (by decide +kernel)
theorem gwL_104 : GoodIn lw_g (wsV RL 104 RX11 yX11_sum (Cond.code yX11_sum cX11_sum 5 (some .int) :: lw_g)) := gV q910 q911 q912 q86 q913
theorem q1427 : Cond.methodLink RL 107 yX12_sum ∈ lw_g := in_g (List.mem_of_getElem? (i := 1427) (by decide +kernel)) (by decide +kernel)
theorem q1429 : Cond.selects RX12 yX12_sum yX12_sum ∈ lw_g := in_g (List.mem_of_getElem? (i := 1429) (by decide +kernel)) (by decide +kernel)
theorem q1428 : Cond.instanceMethod yX12_sum ∈ lw_g := in_g (List.mem_of_getElem? (i := 1428) (by decide +kernel)) (by decide +kernel)
theorem q1430 : Cond.code yX12_sum cX12_sum 4 (some .int) ∈ lw_g := in_g (List.mem_of_getElem? (i := 1430) (by decide +kernel)) (by decide +kernel)
theorem gwL_107 : GoodIn lw_g (wsV RL 107 RX12 yX12_sum (Cond.code yX12_sum cX12_sum 4 (some .int) :: lw_g)) := gV q1427 q1428 q1429 q95 q1430
theorem q918 : Cond.methodLink RL 108 yX11_take ∈ lw_g := in_g (List.mem_of_getElem? (i := 918) (by decide +kernel)) (by decide +kernel)
theorem q920 : Cond.selects RX11 yX11_take yX11_take ∈ lw_g := in_g (List.mem_of_getElem? (i := 920) (by decide +kernel)) (by decide +kernel)
theorem q919 : Cond.instanceMethod yX11_take ∈ lw_g := in_g (List.mem_of_getElem? (i := 919) (by decide +kernel)) (by decide +kernel)
theorem q921 : Cond.code yX11_take cX11_take 2 (some .int) ∈ lw_g := in_g (List.mem_of_getElem? (i := 921) (by decide +kernel)) (by decide +kernel)
theorem gwL_108 : GoodIn lw_g (wsV RL 108 RX11 yX11_take (Cond.code yX11_take cX11_take 2 (some .int) :: lw_g)) := gV q918 q919 q920 q86 q921
theorem q1431 : Cond.methodLink RL 111 yX12_take ∈ lw_g := in_g (List.mem_of_getElem? (i := 1431) (by decide +kernel)) (by decide +kernel)
theorem q1433 : Cond.selects RX12 yX12_take yX12_take ∈ lw_g := in_g (List.mem_of_getElem? (i := 1433) (by decide +kernel)) (by decide +kernel)
theorem q1432 : Cond.instanceMethod yX12_take ∈ lw_g := in_g (List.mem_of_getElem? (i := 1432) (by decide +kernel)) (by decide +kernel)
theorem q1434 : Cond.code yX12_take cX12_take 3 (some .int) ∈ lw_g := in_g (List.mem_of_getElem? (i := 1434) (by decide +kernel)) (by decide +kernel)
theorem gwL_111 : GoodIn lw_g (wsV RL 111 RX12 yX12_take (Cond.code yX12_take cX12_take 3 (some .int) :: lw_g)) := gV q1431 q1432 q1433 q95 q1434
theorem q926 : Cond.methodLink RL 112 yX11_drift ∈ lw_g := in_g (List.mem_of_getElem? (i := 926) (by decide +kernel)) (by decide +kernel)
theorem q928 : Cond.selects RX11 yX11_drift yX11_drift ∈ lw_g := in_g (List.mem_of_getElem? (i := 928) (by decide +kernel)) (by decide +kernel)
theorem q927 : Cond.instanceMethod yX11_drift ∈ lw_g := in_g (List.mem_of_getElem? (i := 927) (by decide +kernel)) (by decide +kernel)
theorem q929 : Cond.code yX11_drift cX11_drift 3 (some .int) ∈ lw_g := in_g (List.mem_of_getElem? (i := 929) (by decide +kernel)) (by decide +kernel)
theorem gwL_112 : GoodIn lw_g (wsV RL 112 RX11 yX11_drift (Cond.code yX11_drift cX11_drift 3 (some .int) :: lw_g)) := gV q926 q927 q928 q86 q929
theorem q1435 : Cond.methodLink RL 115 yX12_drift ∈ lw_g := in_g (List.mem_of_getElem? (i := 1435) (by decide +kernel)) (by decide +kernel)
theorem q1437 : Cond.selects RX12 yX12_drift yX12_drift ∈ lw_g := in_g (List.mem_of_getElem? (i := 1437) (by decide +kernel)) (by decide +kernel)
theorem q1436 : Cond.instanceMethod yX12_drift ∈ lw_g := in_g (List.mem_of_getElem? (i := 1436) (by decide +kernel)) (by decide +kernel)
theorem q1438 : Cond.code yX12_drift cX12_drift 3 (some .int) ∈ lw_g := in_g (List.mem_of_getElem? (i := 1438) (by decide +kernel)) (by decide +kernel)
theorem gwL_115 : GoodIn lw_g (wsV RL 115 RX12 yX12_drift (Cond.code yX12_drift cX12_drift 3 (some .int) :: lw_g)) := gV q1435 q1436 q1437 q95 q1438
theorem q952 : Cond.methodLink RL 116 yX11_undo ∈ lw_g := in_g (List.mem_of_getElem? (i := 952) (by decide +kernel)) (by decide +kernel)
theorem q954 : Cond.selects RX11 yX11_undo yX11_undo ∈ lw_g := in_g (List.mem_of_getElem? (i := 954) (by decide +kernel)) (by decide +kernel)
theorem q953 : Cond.instanceMethod yX11_undo ∈ lw_g := in_g (List.mem_of_getElem? (i := 953) (by decide +kernel)) (by decide +kernel)
theorem q955 : Cond.code yX11_undo cX11_undo 2 (some .int) ∈ lw_g := in_g (List.mem_of_getElem? (i := 955) (by decide +kernel)) (by decide +kernel)
theorem gwL_116 : GoodIn lw_g (wsV RL 116 RX11 yX11_undo (Cond.code yX11_undo cX11_undo 2 (some .int) :: lw_g)) := gV q952 q953 q954 q86 q955
theorem q1452 : Cond.methodLink RL 119 yX12_undo ∈ lw_g := in_g (List.mem_of_getElem? (i := 1452) (by decide +kernel)) (by decide +kernel)
theorem q1454 : Cond.selects RX12 yX12_undo yX12_undo ∈ lw_g := in_g (List.mem_of_getElem? (i := 1454) (by decide +kernel)) (by decide +kernel)
theorem q1453 : Cond.instanceMethod yX12_undo ∈ lw_g := in_g (List.mem_of_getElem? (i := 1453) (by decide +kernel)) (by decide +kernel)
theorem q1455 : Cond.code yX12_undo cX12_undo 2 (some .int) ∈ lw_g := in_g (List.mem_of_getElem? (i := 1455) (by decide +kernel)) (by decide +kernel)
theorem gwL_119 : GoodIn lw_g (wsV RL 119 RX12 yX12_undo (Cond.code yX12_undo cX12_undo 2 (some .int) :: lw_g)) := gV q1452 q1453 q1454 q95 q1455
theorem q963 : Cond.methodLink RL 120 yX11_write ∈ lw_g := in_g (List.mem_of_getElem? (i := 963) (by decide +kernel)) (by decide +kernel)
theorem q965 : Cond.selects RX11 yX11_write yX11_write ∈ lw_g := in_g (List.mem_of_getElem? (i := 965) (by decide +kernel)) (by decide +kernel)
theorem q964 : Cond.instanceMethod yX11_write ∈ lw_g := in_g (List.mem_of_getElem? (i := 964) (by decide +kernel)) (by decide +kernel)
theorem q966 : Cond.code yX11_write cX11_write 3 (some .int) ∈ lw_g := in_g (List.mem_of_getElem? (i := 966) (by decide +kernel)) (by decide +kernel)
theorem gwL_120 : GoodIn lw_g (wsV RL 120 RX11 yX11_write (Cond.code yX11_write cX11_write 3 (some .int) :: lw_g)) := gV q963 q964 q965 q86 q966
theorem q1457 : Cond.methodLink RL 123 yX12_write ∈ lw_g := in_g (List.mem_of_getElem? (i := 1457) (by decide +kernel)) (by decide +kernel)
theorem q1459 : Cond.selects RX12 yX12_write yX12_write ∈ lw_g := in_g (List.mem_of_getElem? (i := 1459) (by decide +kernel)) (by decide +kernel)
theorem q1458 : Cond.instanceMethod yX12_write ∈ lw_g := in_g (List.mem_of_getElem? (i := 1458) (by decide +kernel)) (by decide +kernel)
theorem q1460 : Cond.code yX12_write cX12_write 3 (some .int) ∈ lw_g := in_g (List.mem_of_getElem? (i := 1460) (by decide +kernel)) (by decide +kernel)
theorem gwL_123 : GoodIn lw_g (wsV RL 123 RX12 yX12_write (Cond.code yX12_write cX12_write 3 (some .int) :: lw_g)) := gV q1457 q1458 q1459 q95 q1460
theorem q971 : Cond.methodLink RL 124 yX11_tear ∈ lw_g := in_g (List.mem_of_getElem? (i := 971) (by decide +kernel)) (by decide +kernel)
theorem q973 : Cond.selects RX11 yX11_tear yX11_tear ∈ lw_g := in_g (List.mem_of_getElem? (i := 973) (by decide +kernel)) (by decide +kernel)
theorem q972 : Cond.instanceMethod yX11_tear ∈ lw_g := in_g (List.mem_of_getElem? (i := 972) (by decide +kernel)) (by decide +kernel)
theorem q974 : Cond.code yX11_tear cX11_tear 1 (some .int) ∈ lw_g := in_g (List.mem_of_getElem? (i := 974) (by decide +kernel)) (by decide +kernel)
theorem gwL_124 : GoodIn lw_g (wsV RL 124 RX11 yX11_tear (Cond.code yX11_tear cX11_tear 1 (some .int) :: lw_g)) := gV q971 q972 q973 q86 q974
theorem q1461 : Cond.methodLink RL 127 yX12_tear ∈ lw_g := in_g (List.mem_of_getElem? (i := 1461) (by decide +kernel)) (by decide +kernel)
theorem q1463 : Cond.selects RX12 yX12_tear yX12_tear ∈ lw_g := in_g (List.mem_of_getElem? (i := 1463) (by decide +kernel)) (by decide +kernel)
theorem q1462 : Cond.instanceMethod yX12_tear ∈ lw_g := in_g (List.mem_of_getElem? (i := 1462) (by decide +kernel)) (by decide +kernel)
theorem q1464 : Cond.code yX12_tear cX12_tear 2 (some .int) ∈ lw_g := in_g (List.mem_of_getElem? (i := 1464) (by decide +kernel)) (by decide +kernel)
theorem gwL_127 : GoodIn lw_g (wsV RL 127 RX12 yX12_tear (Cond.code yX12_tear cX12_tear 2 (some .int) :: lw_g)) := gV q1461 q1462 q1463 q95 q1464
theorem q979 : Cond.methodLink RL 128 yX11_seed ∈ lw_g := in_g (List.mem_of_getElem? (i := 979) (by decide +kernel)) (by decide +kernel)
theorem q981 : Cond.selects RX11 yX11_seed yX11_seed ∈ lw_g := in_g (List.mem_of_getElem? (i := 981) (by decide +kernel)) (by decide +kernel)
theorem q980 : Cond.instanceMethod yX11_seed ∈ lw_g := in_g (List.mem_of_getElem? (i := 980) (by decide +kernel)) (by decide +kernel)
theorem q982 : Cond.code yX11_seed cX11_seed 3 (some .int) ∈ lw_g := in_g (List.mem_of_getElem? (i := 982) (by decide +kernel)) (by decide +kernel)
theorem gwL_128 : GoodIn lw_g (wsV RL 128 RX11 yX11_seed (Cond.code yX11_seed cX11_seed 3 (some .int) :: lw_g)) := gV q979 q980 q981 q86 q982
theorem q1465 : Cond.methodLink RL 131 yX12_seed ∈ lw_g := in_g (List.mem_of_getElem? (i := 1465) (by decide +kernel)) (by decide +kernel)
theorem q1467 : Cond.selects RX12 yX12_seed yX12_seed ∈ lw_g := in_g (List.mem_of_getElem? (i := 1467) (by decide +kernel)) (by decide +kernel)
theorem q1466 : Cond.instanceMethod yX12_seed ∈ lw_g := in_g (List.mem_of_getElem? (i := 1466) (by decide +kernel)) (by decide +kernel)
theorem q1468 : Cond.code yX12_seed cX12_seed 3 (some .int) ∈ lw_g := in_g (List.mem_of_getElem? (i := 1468) (by decide +kernel)) (by decide +kernel)
theorem gwL_131 : GoodIn lw_g (wsV RL 131 RX12 yX12_seed (Cond.code yX12_seed cX12_seed 3 (some .int) :: lw_g)) := gV q1465 q1466 q1467 q95 q1468
theorem q987 : Cond.methodLink RL 132 yX11_keep ∈ lw_g := in_g (List.mem_of_getElem? (i := 987) (by decide +kernel)) (by decide +kernel)
theorem q989 : Cond.selects RX11 yX11_keep yX11_keep ∈ lw_g := in_g (List.mem_of_getElem? (i := 989) (by decide +kernel)) (by decide +kernel)
theorem q988 : Cond.instanceMethod yX11_keep ∈ lw_g := in_g (List.mem_of_getElem? (i := 988) (by decide +kernel)) (by decide +kernel)
theorem q990 : Cond.code yX11_keep cX11_keep 2 (some .int) ∈ lw_g := in_g (List.mem_of_getElem? (i := 990) (by decide +kernel)) (by decide +kernel)
theorem gwL_132 : GoodIn lw_g (wsV RL 132 RX11 yX11_keep (Cond.code yX11_keep cX11_keep 2 (some .int) :: lw_g)) := gV q987 q988 q989 q86 q990
theorem q1469 : Cond.methodLink RL 135 yX12_keep ∈ lw_g := in_g (List.mem_of_getElem? (i := 1469) (by decide +kernel)) (by decide +kernel)
theorem q1471 : Cond.selects RX12 yX12_keep yX12_keep ∈ lw_g := in_g (List.mem_of_getElem? (i := 1471) (by decide +kernel)) (by decide +kernel)
theorem q1470 : Cond.instanceMethod yX12_keep ∈ lw_g := in_g (List.mem_of_getElem? (i := 1470) (by decide +kernel)) (by decide +kernel)
theorem q1472 : Cond.code yX12_keep cX12_keep 2 (some .int) ∈ lw_g := in_g (List.mem_of_getElem? (i := 1472) (by decide +kernel)) (by decide +kernel)
theorem gwL_135 : GoodIn lw_g (wsV RL 135 RX12 yX12_keep (Cond.code yX12_keep cX12_keep 2 (some .int) :: lw_g)) := gV q1469 q1470 q1471 q95 q1472
theorem q1000 : Cond.methodLink RL 136 yX11_goBack ∈ lw_g := in_g (List.mem_of_getElem? (i := 1000) (by decide +kernel)) (by decide +kernel)
theorem q1002 : Cond.selects RX11 yX11_goBack yX11_goBack ∈ lw_g := in_g (List.mem_of_getElem? (i := 1002) (by decide +kernel)) (by decide +kernel)
theorem q1001 : Cond.instanceMethod yX11_goBack ∈ lw_g := in_g (List.mem_of_getElem? (i := 1001) (by decide +kernel)) (by decide +kernel)
theorem q1003 : Cond.code yX11_goBack cX11_goBack 2 (some .int) ∈ lw_g := in_g (List.mem_of_getElem? (i := 1003) (by decide +kernel)) (by decide +kernel)
theorem gwL_136 : GoodIn lw_g (wsV RL 136 RX11 yX11_goBack (Cond.code yX11_goBack cX11_goBack 2 (some .int) :: lw_g)) := gV q1000 q1001 q1002 q86 q1003
theorem q1473 : Cond.methodLink RL 139 yX12_goBack ∈ lw_g := in_g (List.mem_of_getElem? (i := 1473) (by decide +kernel)) (by decide +kernel)
theorem q1475 : Cond.selects RX12 yX12_goBack yX12_goBack ∈ lw_g := in_g (List.mem_of_getElem? (i := 1475) (by decide +kernel)) (by decide +kernel)
theorem q1474 : Cond.instanceMethod yX12_goBack ∈ lw_g := in_g (List.mem_of_getElem? (i := 1474) (by decide +kernel)) (by decide +kernel)
theorem q1476 : Cond.code yX12_goBack cX12_goBack 2 (some .int) ∈ lw_g := in_g (List.mem_of_getElem? (i := 1476) (by decide +kernel)) (by decide +kernel)
theorem gwL_139 : GoodIn lw_g (wsV RL 139 RX12 yX12_goBack (Cond.code yX12_goBack cX12_goBack 2 (some .int) :: lw_g)) := gV q1473 q1474 q1475 q95 q1476
theorem q1022 : Cond.methodLink RX12 1 Lib.objectInit ∈ lw_g := in_g (List.mem_of_getElem? (i := 1022) (by decide +kernel)) (by decide +kernel)
theorem q1112 : Cond.methodLink RX12 51 yX12_copy ∈ lw_g := in_g (List.mem_of_getElem? (i := 1112) (by decide +kernel)) (by decide +kernel)
theorem q27 : Cond.selects RX12 yX12_copy yX12_copy ∈ lw_g := in_g (List.mem_of_getElem? (i := 27) (by decide +kernel)) (by decide +kernel)
theorem q1114 : Cond.instanceMethod yX12_copy ∈ lw_g := in_g (List.mem_of_getElem? (i := 1114) (by decide +kernel)) (by decide +kernel)
theorem q1115 : Cond.code yX12_copy cX12_copy 4 none ∈ lw_g := in_g (List.mem_of_getElem? (i := 1115) (by decide +kernel)) (by decide +kernel)
theorem gw12_51 : GoodIn lw_g (wsV RX12 51 RX12 yX12_copy (Cond.code yX12_copy cX12_copy 4 none :: lw_g)) := gV q1112 q1114 q27 q95 q1115
theorem q1089 : Cond.methodLink RX12 55 yX12_in ∈ lw_g := in_g (List.mem_of_getElem? (i := 1089) (by decide +kernel)) (by decide +kernel)
theorem q1090 : Cond.static yX12_in ∈ lw_g := in_g (List.mem_of_getElem? (i := 1090) (by decide +kernel)) (by decide +kernel)
theorem q1091 : Cond.code yX12_in cX12_in 6 (some .boolean) ∈ lw_g := in_g (List.mem_of_getElem? (i := 1091) (by decide +kernel)) (by decide +kernel)
theorem gw12_55 : GoodIn lw_g (va_wsS RX12 55 yX12_in (Cond.code yX12_in cX12_in 6 (some .boolean) :: lw_g)) := gS q1089 q1090 q95 q1091
theorem q1148 : Cond.methodLink RX12 59 yX12_size ∈ lw_g := in_g (List.mem_of_getElem? (i := 1148) (by decide +kernel)) (by decide +kernel)
theorem q34 : Cond.selects RX12 yX12_size yX12_size ∈ lw_g := in_g (List.mem_of_getElem? (i := 34) (by decide +kernel)) (by decide +kernel)
theorem q1150 : Cond.instanceMethod yX12_size ∈ lw_g := in_g (List.mem_of_getElem? (i := 1150) (by decide +kernel)) (by decide +kernel)
theorem q1151 : Cond.code yX12_size cX12_size 2 (some .int) ∈ lw_g := in_g (List.mem_of_getElem? (i := 1151) (by decide +kernel)) (by decide +kernel)
theorem gw12_59 : GoodIn lw_g (wsV RX12 59 RX12 yX12_size (Cond.code yX12_size cX12_size 2 (some .int) :: lw_g)) := gV q1148 q1150 q34 q95 q1151
theorem q1160 : Cond.methodLink RX12 63 yX12_letterAt ∈ lw_g := in_g (List.mem_of_getElem? (i := 1160) (by decide +kernel)) (by decide +kernel)
theorem q37 : Cond.selects RX12 yX12_letterAt yX12_letterAt ∈ lw_g := in_g (List.mem_of_getElem? (i := 37) (by decide +kernel)) (by decide +kernel)
theorem q1162 : Cond.instanceMethod yX12_letterAt ∈ lw_g := in_g (List.mem_of_getElem? (i := 1162) (by decide +kernel)) (by decide +kernel)
theorem q1163 : Cond.code yX12_letterAt cX12_letterAt 3 (some .int) ∈ lw_g := in_g (List.mem_of_getElem? (i := 1163) (by decide +kernel)) (by decide +kernel)
theorem gw12_63 : GoodIn lw_g (wsV RX12 63 RX12 yX12_letterAt (Cond.code yX12_letterAt cX12_letterAt 3 (some .int) :: lw_g)) := gV q1160 q1162 q37 q95 q1163
theorem q1128 : Cond.methodLink RX12 70 yX12_numberOf ∈ lw_g := in_g (List.mem_of_getElem? (i := 1128) (by decide +kernel)) (by decide +kernel)
theorem q31 : Cond.selects RX12 yX12_numberOf yX12_numberOf ∈ lw_g := in_g (List.mem_of_getElem? (i := 31) (by decide +kernel)) (by decide +kernel)
theorem q1130 : Cond.instanceMethod yX12_numberOf ∈ lw_g := in_g (List.mem_of_getElem? (i := 1130) (by decide +kernel)) (by decide +kernel)
theorem q1131 : Cond.code yX12_numberOf cX12_numberOf 6 (some .int) ∈ lw_g := in_g (List.mem_of_getElem? (i := 1131) (by decide +kernel)) (by decide +kernel)
theorem gw12_70 : GoodIn lw_g (wsV RX12 70 RX12 yX12_numberOf (Cond.code yX12_numberOf cX12_numberOf 6 (some .int) :: lw_g)) := gV q1128 q1130 q31 q95 q1131
theorem q1124 : Cond.methodLink RX12 73 yX12_lays ∈ lw_g := in_g (List.mem_of_getElem? (i := 1124) (by decide +kernel)) (by decide +kernel)
theorem q30 : Cond.selects RX12 yX12_lays yX12_lays ∈ lw_g := in_g (List.mem_of_getElem? (i := 30) (by decide +kernel)) (by decide +kernel)
theorem q1126 : Cond.instanceMethod yX12_lays ∈ lw_g := in_g (List.mem_of_getElem? (i := 1126) (by decide +kernel)) (by decide +kernel)
theorem q1127 : Cond.code yX12_lays cX12_lays 3 (some .int) ∈ lw_g := in_g (List.mem_of_getElem? (i := 1127) (by decide +kernel)) (by decide +kernel)
theorem gw12_73 : GoodIn lw_g (wsV RX12 73 RX12 yX12_lays (Cond.code yX12_lays cX12_lays 3 (some .int) :: lw_g)) := gV q1124 q1126 q30 q95 q1127
theorem q1104 : Cond.methodLink RX12 87 yX12_timesAhead ∈ lw_g := in_g (List.mem_of_getElem? (i := 1104) (by decide +kernel)) (by decide +kernel)
theorem q25 : Cond.selects RX12 yX12_timesAhead yX12_timesAhead ∈ lw_g := in_g (List.mem_of_getElem? (i := 25) (by decide +kernel)) (by decide +kernel)
theorem q1106 : Cond.instanceMethod yX12_timesAhead ∈ lw_g := in_g (List.mem_of_getElem? (i := 1106) (by decide +kernel)) (by decide +kernel)
theorem q1107 : Cond.code yX12_timesAhead cX12_timesAhead 4 (some .int) ∈ lw_g := in_g (List.mem_of_getElem? (i := 1107) (by decide +kernel)) (by decide +kernel)
theorem gw12_87 : GoodIn lw_g (wsV RX12 87 RX12 yX12_timesAhead (Cond.code yX12_timesAhead cX12_timesAhead 4 (some .int) :: lw_g)) := gV q1104 q1106 q25 q95 q1107
theorem q1098 : Cond.methodLink RX12 90 yX12_faultAt ∈ lw_g := in_g (List.mem_of_getElem? (i := 1098) (by decide +kernel)) (by decide +kernel)
theorem q24 : Cond.selects RX12 yX12_faultAt yX12_faultAt ∈ lw_g := in_g (List.mem_of_getElem? (i := 24) (by decide +kernel)) (by decide +kernel)
theorem q1100 : Cond.instanceMethod yX12_faultAt ∈ lw_g := in_g (List.mem_of_getElem? (i := 1100) (by decide +kernel)) (by decide +kernel)
theorem q1101 : Cond.code yX12_faultAt cX12_faultAt 4 (some .int) ∈ lw_g := in_g (List.mem_of_getElem? (i := 1101) (by decide +kernel)) (by decide +kernel)
theorem gw12_90 : GoodIn lw_g (wsV RX12 90 RX12 yX12_faultAt (Cond.code yX12_faultAt cX12_faultAt 4 (some .int) :: lw_g)) := gV q1098 q1100 q24 q95 q1101
theorem q1108 : Cond.methodLink RX12 93 yX12_minds ∈ lw_g := in_g (List.mem_of_getElem? (i := 1108) (by decide +kernel)) (by decide +kernel)
theorem q26 : Cond.selects RX12 yX12_minds yX12_minds ∈ lw_g := in_g (List.mem_of_getElem? (i := 26) (by decide +kernel)) (by decide +kernel)
theorem q1110 : Cond.instanceMethod yX12_minds ∈ lw_g := in_g (List.mem_of_getElem? (i := 1110) (by decide +kernel)) (by decide +kernel)
theorem q1111 : Cond.code yX12_minds cX12_minds 2 none ∈ lw_g := in_g (List.mem_of_getElem? (i := 1111) (by decide +kernel)) (by decide +kernel)
theorem gw12_93 : GoodIn lw_g (wsV RX12 93 RX12 yX12_minds (Cond.code yX12_minds cX12_minds 2 none :: lw_g)) := gV q1108 q1110 q26 q95 q1111
theorem q1116 : Cond.methodLink RX12 96 yX12_comes ∈ lw_g := in_g (List.mem_of_getElem? (i := 1116) (by decide +kernel)) (by decide +kernel)
theorem q28 : Cond.selects RX12 yX12_comes yX12_comes ∈ lw_g := in_g (List.mem_of_getElem? (i := 28) (by decide +kernel)) (by decide +kernel)
theorem q1118 : Cond.instanceMethod yX12_comes ∈ lw_g := in_g (List.mem_of_getElem? (i := 1118) (by decide +kernel)) (by decide +kernel)
theorem q1119 : Cond.code yX12_comes cX12_comes 2 none ∈ lw_g := in_g (List.mem_of_getElem? (i := 1119) (by decide +kernel)) (by decide +kernel)
theorem gw12_96 : GoodIn lw_g (wsV RX12 96 RX12 yX12_comes (Cond.code yX12_comes cX12_comes 2 none :: lw_g)) := gV q1116 q1118 q28 q95 q1119
theorem q1120 : Cond.methodLink RX12 100 yX12_laysMore ∈ lw_g := in_g (List.mem_of_getElem? (i := 1120) (by decide +kernel)) (by decide +kernel)
theorem q29 : Cond.selects RX12 yX12_laysMore yX12_laysMore ∈ lw_g := in_g (List.mem_of_getElem? (i := 29) (by decide +kernel)) (by decide +kernel)
theorem q1122 : Cond.instanceMethod yX12_laysMore ∈ lw_g := in_g (List.mem_of_getElem? (i := 1122) (by decide +kernel)) (by decide +kernel)
theorem q1123 : Cond.code yX12_laysMore cX12_laysMore 1 (some .int) ∈ lw_g := in_g (List.mem_of_getElem? (i := 1123) (by decide +kernel)) (by decide +kernel)
theorem gw12_100 : GoodIn lw_g (wsV RX12 100 RX12 yX12_laysMore (Cond.code yX12_laysMore cX12_laysMore 1 (some .int) :: lw_g)) := gV q1120 q1122 q29 q95 q1123
theorem q1189 : Cond.methodLink RX12 104 yX12_place ∈ lw_g := in_g (List.mem_of_getElem? (i := 1189) (by decide +kernel)) (by decide +kernel)
theorem q44 : Cond.selects RX12 yX12_place yX12_place ∈ lw_g := in_g (List.mem_of_getElem? (i := 44) (by decide +kernel)) (by decide +kernel)
theorem q1191 : Cond.instanceMethod yX12_place ∈ lw_g := in_g (List.mem_of_getElem? (i := 1191) (by decide +kernel)) (by decide +kernel)
theorem q1192 : Cond.code yX12_place cX12_place 7 (some .int) ∈ lw_g := in_g (List.mem_of_getElem? (i := 1192) (by decide +kernel)) (by decide +kernel)
theorem gw12_104 : GoodIn lw_g (wsV RX12 104 RX12 yX12_place (Cond.code yX12_place cX12_place 7 (some .int) :: lw_g)) := gV q1189 q1191 q44 q95 q1192
theorem q1213 : Cond.methodLink RX12 108 yX12_isBetween ∈ lw_g := in_g (List.mem_of_getElem? (i := 1213) (by decide +kernel)) (by decide +kernel)
theorem q48 : Cond.selects RX12 yX12_isBetween yX12_isBetween ∈ lw_g := in_g (List.mem_of_getElem? (i := 48) (by decide +kernel)) (by decide +kernel)
theorem q1215 : Cond.instanceMethod yX12_isBetween ∈ lw_g := in_g (List.mem_of_getElem? (i := 1215) (by decide +kernel)) (by decide +kernel)
theorem q1216 : Cond.code yX12_isBetween cX12_isBetween 6 (some .boolean) ∈ lw_g := in_g (List.mem_of_getElem? (i := 1216) (by decide +kernel)) (by decide +kernel)
theorem gw12_108 : GoodIn lw_g (wsV RX12 108 RX12 yX12_isBetween (Cond.code yX12_isBetween cX12_isBetween 6 (some .boolean) :: lw_g)) := gV q1213 q1215 q48 q95 q1216
theorem q1185 : Cond.methodLink RX12 116 yX12_startsLabels ∈ lw_g := in_g (List.mem_of_getElem? (i := 1185) (by decide +kernel)) (by decide +kernel)
theorem q43 : Cond.selects RX12 yX12_startsLabels yX12_startsLabels ∈ lw_g := in_g (List.mem_of_getElem? (i := 43) (by decide +kernel)) (by decide +kernel)
theorem q1187 : Cond.instanceMethod yX12_startsLabels ∈ lw_g := in_g (List.mem_of_getElem? (i := 1187) (by decide +kernel)) (by decide +kernel)
theorem q1188 : Cond.code yX12_startsLabels cX12_startsLabels 3 none ∈ lw_g := in_g (List.mem_of_getElem? (i := 1188) (by decide +kernel)) (by decide +kernel)
theorem gw12_116 : GoodIn lw_g (wsV RX12 116 RX12 yX12_startsLabels (Cond.code yX12_startsLabels cX12_startsLabels 3 none :: lw_g)) := gV q1185 q1187 q43 q95 q1188
theorem q1196 : Cond.methodLink RX12 119 yX12_joins ∈ lw_g := in_g (List.mem_of_getElem? (i := 1196) (by decide +kernel)) (by decide +kernel)
theorem q45 : Cond.selects RX12 yX12_joins yX12_joins ∈ lw_g := in_g (List.mem_of_getElem? (i := 45) (by decide +kernel)) (by decide +kernel)
theorem q1198 : Cond.instanceMethod yX12_joins ∈ lw_g := in_g (List.mem_of_getElem? (i := 1198) (by decide +kernel)) (by decide +kernel)
theorem q1199 : Cond.code yX12_joins cX12_joins 4 none ∈ lw_g := in_g (List.mem_of_getElem? (i := 1199) (by decide +kernel)) (by decide +kernel)
theorem gw12_119 : GoodIn lw_g (wsV RX12 119 RX12 yX12_joins (Cond.code yX12_joins cX12_joins 4 none :: lw_g)) := gV q1196 q1198 q45 q95 q1199
theorem q1200 : Cond.methodLink RX12 122 yX12_heaps ∈ lw_g := in_g (List.mem_of_getElem? (i := 1200) (by decide +kernel)) (by decide +kernel)
theorem q46 : Cond.selects RX12 yX12_heaps yX12_heaps ∈ lw_g := in_g (List.mem_of_getElem? (i := 46) (by decide +kernel)) (by decide +kernel)
theorem q1202 : Cond.instanceMethod yX12_heaps ∈ lw_g := in_g (List.mem_of_getElem? (i := 1202) (by decide +kernel)) (by decide +kernel)
theorem q1203 : Cond.code yX12_heaps cX12_heaps 4 (some .int) ∈ lw_g := in_g (List.mem_of_getElem? (i := 1203) (by decide +kernel)) (by decide +kernel)
theorem gw12_122 : GoodIn lw_g (wsV RX12 122 RX12 yX12_heaps (Cond.code yX12_heaps cX12_heaps 4 (some .int) :: lw_g)) := gV q1200 q1202 q46 q95 q1203
theorem q1193 : Cond.methodLink RX12 125 yX12_has ∈ lw_g := in_g (List.mem_of_getElem? (i := 1193) (by decide +kernel)) (by decide +kernel)
theorem q1194 : Cond.static yX12_has ∈ lw_g := in_g (List.mem_of_getElem? (i := 1194) (by decide +kernel)) (by decide +kernel)
theorem q1195 : Cond.code yX12_has cX12_has 2 (some .boolean) ∈ lw_g := in_g (List.mem_of_getElem? (i := 1195) (by decide +kernel)) (by decide +kernel)
theorem gw12_125 : GoodIn lw_g (va_wsS RX12 125 yX12_has (Cond.code yX12_has cX12_has 2 (some .boolean) :: lw_g)) := gS q1193 q1194 q95 q1195
theorem q1221 : Cond.methodLink RX12 129 yX12_betweenSet ∈ lw_g := in_g (List.mem_of_getElem? (i := 1221) (by decide +kernel)) (by decide +kernel)
theorem q50 : Cond.selects RX12 yX12_betweenSet yX12_betweenSet ∈ lw_g := in_g (List.mem_of_getElem? (i := 50) (by decide +kernel)) (by decide +kernel)
theorem q1223 : Cond.instanceMethod yX12_betweenSet ∈ lw_g := in_g (List.mem_of_getElem? (i := 1223) (by decide +kernel)) (by decide +kernel)
theorem q1224 : Cond.code yX12_betweenSet cX12_betweenSet 5 (some .int) ∈ lw_g := in_g (List.mem_of_getElem? (i := 1224) (by decide +kernel)) (by decide +kernel)
theorem gw12_129 : GoodIn lw_g (wsV RX12 129 RX12 yX12_betweenSet (Cond.code yX12_betweenSet cX12_betweenSet 5 (some .int) :: lw_g)) := gV q1221 q1223 q50 q95 q1224
theorem q1225 : Cond.methodLink RX12 132 yX12_ones ∈ lw_g := in_g (List.mem_of_getElem? (i := 1225) (by decide +kernel)) (by decide +kernel)
theorem q1226 : Cond.static yX12_ones ∈ lw_g := in_g (List.mem_of_getElem? (i := 1226) (by decide +kernel)) (by decide +kernel)
theorem q1227 : Cond.code yX12_ones cX12_ones 3 (some .int) ∈ lw_g := in_g (List.mem_of_getElem? (i := 1227) (by decide +kernel)) (by decide +kernel)
theorem gw12_132 : GoodIn lw_g (va_wsS RX12 132 yX12_ones (Cond.code yX12_ones cX12_ones 3 (some .int) :: lw_g)) := gS q1225 q1226 q95 q1227
theorem q1228 : Cond.methodLink RX12 135 yX12_areSides ∈ lw_g := in_g (List.mem_of_getElem? (i := 1228) (by decide +kernel)) (by decide +kernel)
theorem q51 : Cond.selects RX12 yX12_areSides yX12_areSides ∈ lw_g := in_g (List.mem_of_getElem? (i := 51) (by decide +kernel)) (by decide +kernel)
theorem q1230 : Cond.instanceMethod yX12_areSides ∈ lw_g := in_g (List.mem_of_getElem? (i := 1230) (by decide +kernel)) (by decide +kernel)
theorem q1231 : Cond.code yX12_areSides cX12_areSides 7 (some .boolean) ∈ lw_g := in_g (List.mem_of_getElem? (i := 1231) (by decide +kernel)) (by decide +kernel)
theorem gw12_135 : GoodIn lw_g (wsV RX12 135 RX12 yX12_areSides (Cond.code yX12_areSides cX12_areSides 7 (some .boolean) :: lw_g)) := gV q1228 q1230 q51 q95 q1231
theorem q1266 : Cond.methodLink RX12 141 yX12_leavesAs ∈ lw_g := in_g (List.mem_of_getElem? (i := 1266) (by decide +kernel)) (by decide +kernel)
theorem q60 : Cond.selects RX12 yX12_leavesAs yX12_leavesAs ∈ lw_g := in_g (List.mem_of_getElem? (i := 60) (by decide +kernel)) (by decide +kernel)
theorem q1268 : Cond.instanceMethod yX12_leavesAs ∈ lw_g := in_g (List.mem_of_getElem? (i := 1268) (by decide +kernel)) (by decide +kernel)
theorem q1269 : Cond.code yX12_leavesAs cX12_leavesAs 4 (some .int) ∈ lw_g := in_g (List.mem_of_getElem? (i := 1269) (by decide +kernel)) (by decide +kernel)
theorem gw12_141 : GoodIn lw_g (wsV RX12 141 RX12 yX12_leavesAs (Cond.code yX12_leavesAs cX12_leavesAs 4 (some .int) :: lw_g)) := gV q1266 q1268 q60 q95 q1269
theorem q1274 : Cond.methodLink RX12 144 yX12_comesAs ∈ lw_g := in_g (List.mem_of_getElem? (i := 1274) (by decide +kernel)) (by decide +kernel)
theorem q62 : Cond.selects RX12 yX12_comesAs yX12_comesAs ∈ lw_g := in_g (List.mem_of_getElem? (i := 62) (by decide +kernel)) (by decide +kernel)
theorem q1276 : Cond.instanceMethod yX12_comesAs ∈ lw_g := in_g (List.mem_of_getElem? (i := 1276) (by decide +kernel)) (by decide +kernel)
theorem q1277 : Cond.code yX12_comesAs cX12_comesAs 5 (some .int) ∈ lw_g := in_g (List.mem_of_getElem? (i := 1277) (by decide +kernel)) (by decide +kernel)
theorem gw12_144 : GoodIn lw_g (wsV RX12 144 RX12 yX12_comesAs (Cond.code yX12_comesAs cX12_comesAs 5 (some .int) :: lw_g)) := gV q1274 q1276 q62 q95 q1277
theorem q1262 : Cond.methodLink RX12 147 yX12_leftCorner ∈ lw_g := in_g (List.mem_of_getElem? (i := 1262) (by decide +kernel)) (by decide +kernel)
theorem q59 : Cond.selects RX12 yX12_leftCorner yX12_leftCorner ∈ lw_g := in_g (List.mem_of_getElem? (i := 59) (by decide +kernel)) (by decide +kernel)
theorem q1264 : Cond.instanceMethod yX12_leftCorner ∈ lw_g := in_g (List.mem_of_getElem? (i := 1264) (by decide +kernel)) (by decide +kernel)
theorem q1265 : Cond.code yX12_leftCorner cX12_leftCorner 3 (some .int) ∈ lw_g := in_g (List.mem_of_getElem? (i := 1265) (by decide +kernel)) (by decide +kernel)
theorem gw12_147 : GoodIn lw_g (wsV RX12 147 RX12 yX12_leftCorner (Cond.code yX12_leftCorner cX12_leftCorner 3 (some .int) :: lw_g)) := gV q1262 q1264 q59 q95 q1265
theorem q1270 : Cond.methodLink RX12 150 yX12_leftFar ∈ lw_g := in_g (List.mem_of_getElem? (i := 1270) (by decide +kernel)) (by decide +kernel)
theorem q61 : Cond.selects RX12 yX12_leftFar yX12_leftFar ∈ lw_g := in_g (List.mem_of_getElem? (i := 61) (by decide +kernel)) (by decide +kernel)
theorem q1272 : Cond.instanceMethod yX12_leftFar ∈ lw_g := in_g (List.mem_of_getElem? (i := 1272) (by decide +kernel)) (by decide +kernel)
theorem q1273 : Cond.code yX12_leftFar cX12_leftFar 3 (some .int) ∈ lw_g := in_g (List.mem_of_getElem? (i := 1273) (by decide +kernel)) (by decide +kernel)
theorem gw12_150 : GoodIn lw_g (wsV RX12 150 RX12 yX12_leftFar (Cond.code yX12_leftFar cX12_leftFar 3 (some .int) :: lw_g)) := gV q1270 q1272 q61 q95 q1273
theorem q1278 : Cond.methodLink RX12 153 yX12_rightCorner ∈ lw_g := in_g (List.mem_of_getElem? (i := 1278) (by decide +kernel)) (by decide +kernel)
theorem q63 : Cond.selects RX12 yX12_rightCorner yX12_rightCorner ∈ lw_g := in_g (List.mem_of_getElem? (i := 63) (by decide +kernel)) (by decide +kernel)
theorem q1280 : Cond.instanceMethod yX12_rightCorner ∈ lw_g := in_g (List.mem_of_getElem? (i := 1280) (by decide +kernel)) (by decide +kernel)
theorem q1281 : Cond.code yX12_rightCorner cX12_rightCorner 3 (some .int) ∈ lw_g := in_g (List.mem_of_getElem? (i := 1281) (by decide +kernel)) (by decide +kernel)
theorem gw12_153 : GoodIn lw_g (wsV RX12 153 RX12 yX12_rightCorner (Cond.code yX12_rightCorner cX12_rightCorner 3 (some .int) :: lw_g)) := gV q1278 q1280 q63 q95 q1281
theorem q1282 : Cond.methodLink RX12 156 yX12_rightFar ∈ lw_g := in_g (List.mem_of_getElem? (i := 1282) (by decide +kernel)) (by decide +kernel)
theorem q64 : Cond.selects RX12 yX12_rightFar yX12_rightFar ∈ lw_g := in_g (List.mem_of_getElem? (i := 64) (by decide +kernel)) (by decide +kernel)
theorem q1284 : Cond.instanceMethod yX12_rightFar ∈ lw_g := in_g (List.mem_of_getElem? (i := 1284) (by decide +kernel)) (by decide +kernel)
theorem q1285 : Cond.code yX12_rightFar cX12_rightFar 3 (some .int) ∈ lw_g := in_g (List.mem_of_getElem? (i := 1285) (by decide +kernel)) (by decide +kernel)
theorem gw12_156 : GoodIn lw_g (wsV RX12 156 RX12 yX12_rightFar (Cond.code yX12_rightFar cX12_rightFar 3 (some .int) :: lw_g)) := gV q1282 q1284 q64 q95 q1285
theorem q1258 : Cond.methodLink RX12 159 yX12_laysFaces ∈ lw_g := in_g (List.mem_of_getElem? (i := 1258) (by decide +kernel)) (by decide +kernel)
theorem q58 : Cond.selects RX12 yX12_laysFaces yX12_laysFaces ∈ lw_g := in_g (List.mem_of_getElem? (i := 58) (by decide +kernel)) (by decide +kernel)
theorem q1260 : Cond.instanceMethod yX12_laysFaces ∈ lw_g := in_g (List.mem_of_getElem? (i := 1260) (by decide +kernel)) (by decide +kernel)
theorem q1261 : Cond.code yX12_laysFaces cX12_laysFaces 4 (some .int) ∈ lw_g := in_g (List.mem_of_getElem? (i := 1261) (by decide +kernel)) (by decide +kernel)
theorem gw12_159 : GoodIn lw_g (wsV RX12 159 RX12 yX12_laysFaces (Cond.code yX12_laysFaces cX12_laysFaces 4 (some .int) :: lw_g)) := gV q1258 q1260 q58 q95 q1261
theorem q1290 : Cond.methodLink RX12 162 yX12_isPlane ∈ lw_g := in_g (List.mem_of_getElem? (i := 1290) (by decide +kernel)) (by decide +kernel)
theorem q66 : Cond.selects RX12 yX12_isPlane yX12_isPlane ∈ lw_g := in_g (List.mem_of_getElem? (i := 66) (by decide +kernel)) (by decide +kernel)
theorem q1292 : Cond.instanceMethod yX12_isPlane ∈ lw_g := in_g (List.mem_of_getElem? (i := 1292) (by decide +kernel)) (by decide +kernel)
theorem q1293 : Cond.code yX12_isPlane cX12_isPlane 3 (some .boolean) ∈ lw_g := in_g (List.mem_of_getElem? (i := 1293) (by decide +kernel)) (by decide +kernel)
theorem gw12_162 : GoodIn lw_g (wsV RX12 162 RX12 yX12_isPlane (Cond.code yX12_isPlane cX12_isPlane 3 (some .boolean) :: lw_g)) := gV q1290 q1292 q66 q95 q1293
theorem q1306 : Cond.methodLink RX12 165 yX12_faceOf ∈ lw_g := in_g (List.mem_of_getElem? (i := 1306) (by decide +kernel)) (by decide +kernel)
theorem q70 : Cond.selects RX12 yX12_faceOf yX12_faceOf ∈ lw_g := in_g (List.mem_of_getElem? (i := 70) (by decide +kernel)) (by decide +kernel)
theorem q1308 : Cond.instanceMethod yX12_faceOf ∈ lw_g := in_g (List.mem_of_getElem? (i := 1308) (by decide +kernel)) (by decide +kernel)
theorem q1309 : Cond.code yX12_faceOf cX12_faceOf 4 (some .int) ∈ lw_g := in_g (List.mem_of_getElem? (i := 1309) (by decide +kernel)) (by decide +kernel)
theorem gw12_165 : GoodIn lw_g (wsV RX12 165 RX12 yX12_faceOf (Cond.code yX12_faceOf cX12_faceOf 4 (some .int) :: lw_g)) := gV q1306 q1308 q70 q95 q1309
theorem q1232 : Cond.methodLink RX12 168 yX12_signsOf ∈ lw_g := in_g (List.mem_of_getElem? (i := 1232) (by decide +kernel)) (by decide +kernel)
theorem q52 : Cond.selects RX12 yX12_signsOf yX12_signsOf ∈ lw_g := in_g (List.mem_of_getElem? (i := 52) (by decide +kernel)) (by decide +kernel)
theorem q1234 : Cond.instanceMethod yX12_signsOf ∈ lw_g := in_g (List.mem_of_getElem? (i := 1234) (by decide +kernel)) (by decide +kernel)
theorem q1235 : Cond.code yX12_signsOf cX12_signsOf 2 (some .int) ∈ lw_g := in_g (List.mem_of_getElem? (i := 1235) (by decide +kernel)) (by decide +kernel)
theorem gw12_168 : GoodIn lw_g (wsV RX12 168 RX12 yX12_signsOf (Cond.code yX12_signsOf cX12_signsOf 2 (some .int) :: lw_g)) := gV q1232 q1234 q52 q95 q1235
theorem q1326 : Cond.methodLink RX12 171 yX12_sizeOfFace ∈ lw_g := in_g (List.mem_of_getElem? (i := 1326) (by decide +kernel)) (by decide +kernel)
theorem q75 : Cond.selects RX12 yX12_sizeOfFace yX12_sizeOfFace ∈ lw_g := in_g (List.mem_of_getElem? (i := 75) (by decide +kernel)) (by decide +kernel)
theorem q1328 : Cond.instanceMethod yX12_sizeOfFace ∈ lw_g := in_g (List.mem_of_getElem? (i := 1328) (by decide +kernel)) (by decide +kernel)
theorem q1329 : Cond.code yX12_sizeOfFace cX12_sizeOfFace 5 (some .int) ∈ lw_g := in_g (List.mem_of_getElem? (i := 1329) (by decide +kernel)) (by decide +kernel)
theorem gw12_171 : GoodIn lw_g (wsV RX12 171 RX12 yX12_sizeOfFace (Cond.code yX12_sizeOfFace cX12_sizeOfFace 5 (some .int) :: lw_g)) := gV q1326 q1328 q75 q95 q1329
theorem q1310 : Cond.methodLink RX12 174 yX12_tellsIndex ∈ lw_g := in_g (List.mem_of_getElem? (i := 1310) (by decide +kernel)) (by decide +kernel)
theorem q71 : Cond.selects RX12 yX12_tellsIndex yX12_tellsIndex ∈ lw_g := in_g (List.mem_of_getElem? (i := 71) (by decide +kernel)) (by decide +kernel)
theorem q1312 : Cond.instanceMethod yX12_tellsIndex ∈ lw_g := in_g (List.mem_of_getElem? (i := 1312) (by decide +kernel)) (by decide +kernel)
theorem q1313 : Cond.code yX12_tellsIndex cX12_tellsIndex 4 none ∈ lw_g := in_g (List.mem_of_getElem? (i := 1313) (by decide +kernel)) (by decide +kernel)
theorem gw12_174 : GoodIn lw_g (wsV RX12 174 RX12 yX12_tellsIndex (Cond.code yX12_tellsIndex cX12_tellsIndex 4 none :: lw_g)) := gV q1310 q1312 q71 q95 q1313
theorem q1348 : Cond.methodLink RX12 178 yX12_middle ∈ lw_g := in_g (List.mem_of_getElem? (i := 1348) (by decide +kernel)) (by decide +kernel)
theorem q77 : Cond.selects RX12 yX12_middle yX12_middle ∈ lw_g := in_g (List.mem_of_getElem? (i := 77) (by decide +kernel)) (by decide +kernel)
theorem q1350 : Cond.instanceMethod yX12_middle ∈ lw_g := in_g (List.mem_of_getElem? (i := 1350) (by decide +kernel)) (by decide +kernel)
theorem q1351 : Cond.code yX12_middle cX12_middle 4 (some .int) ∈ lw_g := in_g (List.mem_of_getElem? (i := 1351) (by decide +kernel)) (by decide +kernel)
theorem gw12_178 : GoodIn lw_g (wsV RX12 178 RX12 yX12_middle (Cond.code yX12_middle cX12_middle 4 (some .int) :: lw_g)) := gV q1348 q1350 q77 q95 q1351
theorem q1318 : Cond.methodLink RX12 181 yX12_isDark ∈ lw_g := in_g (List.mem_of_getElem? (i := 1318) (by decide +kernel)) (by decide +kernel)
theorem q73 : Cond.selects RX12 yX12_isDark yX12_isDark ∈ lw_g := in_g (List.mem_of_getElem? (i := 73) (by decide +kernel)) (by decide +kernel)
theorem q1320 : Cond.instanceMethod yX12_isDark ∈ lw_g := in_g (List.mem_of_getElem? (i := 1320) (by decide +kernel)) (by decide +kernel)
theorem q1321 : Cond.code yX12_isDark cX12_isDark 4 (some .boolean) ∈ lw_g := in_g (List.mem_of_getElem? (i := 1321) (by decide +kernel)) (by decide +kernel)
theorem gw12_181 : GoodIn lw_g (wsV RX12 181 RX12 yX12_isDark (Cond.code yX12_isDark cX12_isDark 4 (some .boolean) :: lw_g)) := gV q1318 q1320 q73 q95 q1321
theorem q1302 : Cond.methodLink RX12 184 yX12_laysIndices ∈ lw_g := in_g (List.mem_of_getElem? (i := 1302) (by decide +kernel)) (by decide +kernel)
theorem q69 : Cond.selects RX12 yX12_laysIndices yX12_laysIndices ∈ lw_g := in_g (List.mem_of_getElem? (i := 69) (by decide +kernel)) (by decide +kernel)
theorem q1304 : Cond.instanceMethod yX12_laysIndices ∈ lw_g := in_g (List.mem_of_getElem? (i := 1304) (by decide +kernel)) (by decide +kernel)
theorem q1305 : Cond.code yX12_laysIndices cX12_laysIndices 6 none ∈ lw_g := in_g (List.mem_of_getElem? (i := 1305) (by decide +kernel)) (by decide +kernel)
theorem gw12_184 : GoodIn lw_g (wsV RX12 184 RX12 yX12_laysIndices (Cond.code yX12_laysIndices cX12_laysIndices 6 none :: lw_g)) := gV q1302 q1304 q69 q95 q1305
theorem q1314 : Cond.methodLink RX12 187 yX12_joinedBy ∈ lw_g := in_g (List.mem_of_getElem? (i := 1314) (by decide +kernel)) (by decide +kernel)
theorem q72 : Cond.selects RX12 yX12_joinedBy yX12_joinedBy ∈ lw_g := in_g (List.mem_of_getElem? (i := 72) (by decide +kernel)) (by decide +kernel)
theorem q1316 : Cond.instanceMethod yX12_joinedBy ∈ lw_g := in_g (List.mem_of_getElem? (i := 1316) (by decide +kernel)) (by decide +kernel)
theorem q1317 : Cond.code yX12_joinedBy cX12_joinedBy 10 (some .int) ∈ lw_g := in_g (List.mem_of_getElem? (i := 1317) (by decide +kernel)) (by decide +kernel)
theorem gw12_187 : GoodIn lw_g (wsV RX12 187 RX12 yX12_joinedBy (Cond.code yX12_joinedBy cX12_joinedBy 10 (some .int) :: lw_g)) := gV q1314 q1316 q72 q95 q1317
theorem q1181 : Cond.methodLink RX12 191 yX12_ringsOf ∈ lw_g := in_g (List.mem_of_getElem? (i := 1181) (by decide +kernel)) (by decide +kernel)
theorem q42 : Cond.selects RX12 yX12_ringsOf yX12_ringsOf ∈ lw_g := in_g (List.mem_of_getElem? (i := 42) (by decide +kernel)) (by decide +kernel)
theorem q1183 : Cond.instanceMethod yX12_ringsOf ∈ lw_g := in_g (List.mem_of_getElem? (i := 1183) (by decide +kernel)) (by decide +kernel)
theorem q1184 : Cond.code yX12_ringsOf cX12_ringsOf 9 (some .int) ∈ lw_g := in_g (List.mem_of_getElem? (i := 1184) (by decide +kernel)) (by decide +kernel)
theorem gw12_191 : GoodIn lw_g (wsV RX12 191 RX12 yX12_ringsOf (Cond.code yX12_ringsOf cX12_ringsOf 9 (some .int) :: lw_g)) := gV q1181 q1183 q42 q95 q1184
theorem q1156 : Cond.methodLink RX12 199 yX12_turned ∈ lw_g := in_g (List.mem_of_getElem? (i := 1156) (by decide +kernel)) (by decide +kernel)
theorem q36 : Cond.selects RX12 yX12_turned yX12_turned ∈ lw_g := in_g (List.mem_of_getElem? (i := 36) (by decide +kernel)) (by decide +kernel)
theorem q1158 : Cond.instanceMethod yX12_turned ∈ lw_g := in_g (List.mem_of_getElem? (i := 1158) (by decide +kernel)) (by decide +kernel)
theorem q1159 : Cond.code yX12_turned cX12_turned 6 none ∈ lw_g := in_g (List.mem_of_getElem? (i := 1159) (by decide +kernel)) (by decide +kernel)
theorem gw12_199 : GoodIn lw_g (wsV RX12 199 RX12 yX12_turned (Cond.code yX12_turned cX12_turned 6 none :: lw_g)) := gV q1156 q1158 q36 q95 q1159
theorem q1164 : Cond.methodLink RX12 203 yX12_codeOfMade ∈ lw_g := in_g (List.mem_of_getElem? (i := 1164) (by decide +kernel)) (by decide +kernel)
theorem q38 : Cond.selects RX12 yX12_codeOfMade yX12_codeOfMade ∈ lw_g := in_g (List.mem_of_getElem? (i := 38) (by decide +kernel)) (by decide +kernel)
theorem q1166 : Cond.instanceMethod yX12_codeOfMade ∈ lw_g := in_g (List.mem_of_getElem? (i := 1166) (by decide +kernel)) (by decide +kernel)
theorem q1167 : Cond.code yX12_codeOfMade cX12_codeOfMade 4 (some .long) ∈ lw_g := in_g (List.mem_of_getElem? (i := 1167) (by decide +kernel)) (by decide +kernel)
theorem gw12_203 : GoodIn lw_g (wsV RX12 203 RX12 yX12_codeOfMade (Cond.code yX12_codeOfMade cX12_codeOfMade 4 (some .long) :: lw_g)) := gV q1164 q1166 q38 q95 q1167
theorem q1152 : Cond.methodLink RX12 207 yX12_codeOf ∈ lw_g := in_g (List.mem_of_getElem? (i := 1152) (by decide +kernel)) (by decide +kernel)
theorem q35 : Cond.selects RX12 yX12_codeOf yX12_codeOf ∈ lw_g := in_g (List.mem_of_getElem? (i := 35) (by decide +kernel)) (by decide +kernel)
theorem q1154 : Cond.instanceMethod yX12_codeOf ∈ lw_g := in_g (List.mem_of_getElem? (i := 1154) (by decide +kernel)) (by decide +kernel)
theorem q1155 : Cond.code yX12_codeOf cX12_codeOf 9 (some .long) ∈ lw_g := in_g (List.mem_of_getElem? (i := 1155) (by decide +kernel)) (by decide +kernel)
theorem gw12_207 : GoodIn lw_g (wsV RX12 207 RX12 yX12_codeOf (Cond.code yX12_codeOf cX12_codeOf 9 (some .long) :: lw_g)) := gV q1152 q1154 q35 q95 q1155
theorem q1144 : Cond.methodLink RX12 211 yX12_isSame ∈ lw_g := in_g (List.mem_of_getElem? (i := 1144) (by decide +kernel)) (by decide +kernel)
theorem q33 : Cond.selects RX12 yX12_isSame yX12_isSame ∈ lw_g := in_g (List.mem_of_getElem? (i := 33) (by decide +kernel)) (by decide +kernel)
theorem q1146 : Cond.instanceMethod yX12_isSame ∈ lw_g := in_g (List.mem_of_getElem? (i := 1146) (by decide +kernel)) (by decide +kernel)
theorem q1147 : Cond.code yX12_isSame cX12_isSame 3 (some .boolean) ∈ lw_g := in_g (List.mem_of_getElem? (i := 1147) (by decide +kernel)) (by decide +kernel)
theorem gw12_211 : GoodIn lw_g (wsV RX12 211 RX12 yX12_isSame (Cond.code yX12_isSame cX12_isSame 3 (some .boolean) :: lw_g)) := gV q1144 q1146 q33 q95 q1147
theorem q1248 : Cond.methodLink RX12 214 yX12_areBeside ∈ lw_g := in_g (List.mem_of_getElem? (i := 1248) (by decide +kernel)) (by decide +kernel)
theorem q56 : Cond.selects RX12 yX12_areBeside yX12_areBeside ∈ lw_g := in_g (List.mem_of_getElem? (i := 56) (by decide +kernel)) (by decide +kernel)
theorem q1250 : Cond.instanceMethod yX12_areBeside ∈ lw_g := in_g (List.mem_of_getElem? (i := 1250) (by decide +kernel)) (by decide +kernel)
theorem q1251 : Cond.code yX12_areBeside cX12_areBeside 5 (some .boolean) ∈ lw_g := in_g (List.mem_of_getElem? (i := 1251) (by decide +kernel)) (by decide +kernel)
theorem gw12_214 : GoodIn lw_g (wsV RX12 214 RX12 yX12_areBeside (Cond.code yX12_areBeside cX12_areBeside 5 (some .boolean) :: lw_g)) := gV q1248 q1250 q56 q95 q1251
theorem q1244 : Cond.methodLink RX12 217 yX12_isLoop ∈ lw_g := in_g (List.mem_of_getElem? (i := 1244) (by decide +kernel)) (by decide +kernel)
theorem q55 : Cond.selects RX12 yX12_isLoop yX12_isLoop ∈ lw_g := in_g (List.mem_of_getElem? (i := 55) (by decide +kernel)) (by decide +kernel)
theorem q1246 : Cond.instanceMethod yX12_isLoop ∈ lw_g := in_g (List.mem_of_getElem? (i := 1246) (by decide +kernel)) (by decide +kernel)
theorem q1247 : Cond.code yX12_isLoop cX12_isLoop 3 (some .boolean) ∈ lw_g := in_g (List.mem_of_getElem? (i := 1247) (by decide +kernel)) (by decide +kernel)
theorem gw12_217 : GoodIn lw_g (wsV RX12 217 RX12 yX12_isLoop (Cond.code yX12_isLoop cX12_isLoop 3 (some .boolean) :: lw_g)) := gV q1244 q1246 q55 q95 q1247
theorem q1173 : Cond.methodLink RX12 223 yX12_isWord ∈ lw_g := in_g (List.mem_of_getElem? (i := 1173) (by decide +kernel)) (by decide +kernel)
theorem q40 : Cond.selects RX12 yX12_isWord yX12_isWord ∈ lw_g := in_g (List.mem_of_getElem? (i := 40) (by decide +kernel)) (by decide +kernel)
theorem q1175 : Cond.instanceMethod yX12_isWord ∈ lw_g := in_g (List.mem_of_getElem? (i := 1175) (by decide +kernel)) (by decide +kernel)
theorem q1176 : Cond.code yX12_isWord cX12_isWord 2 (some .boolean) ∈ lw_g := in_g (List.mem_of_getElem? (i := 1176) (by decide +kernel)) (by decide +kernel)
theorem gw12_223 : GoodIn lw_g (wsV RX12 223 RX12 yX12_isWord (Cond.code yX12_isWord cX12_isWord 2 (some .boolean) :: lw_g)) := gV q1173 q1175 q40 q95 q1176
theorem q1177 : Cond.methodLink RX12 227 yX12_statesOf ∈ lw_g := in_g (List.mem_of_getElem? (i := 1177) (by decide +kernel)) (by decide +kernel)
theorem q41 : Cond.selects RX12 yX12_statesOf yX12_statesOf ∈ lw_g := in_g (List.mem_of_getElem? (i := 41) (by decide +kernel)) (by decide +kernel)
theorem q1179 : Cond.instanceMethod yX12_statesOf ∈ lw_g := in_g (List.mem_of_getElem? (i := 1179) (by decide +kernel)) (by decide +kernel)
theorem q1180 : Cond.code yX12_statesOf cX12_statesOf 5 (some .int) ∈ lw_g := in_g (List.mem_of_getElem? (i := 1180) (by decide +kernel)) (by decide +kernel)
theorem gw12_227 : GoodIn lw_g (wsV RX12 227 RX12 yX12_statesOf (Cond.code yX12_statesOf cX12_statesOf 5 (some .int) :: lw_g)) := gV q1177 q1179 q41 q95 q1180
theorem q1140 : Cond.methodLink RX12 230 yX12_unlikeWords ∈ lw_g := in_g (List.mem_of_getElem? (i := 1140) (by decide +kernel)) (by decide +kernel)
theorem q32 : Cond.selects RX12 yX12_unlikeWords yX12_unlikeWords ∈ lw_g := in_g (List.mem_of_getElem? (i := 32) (by decide +kernel)) (by decide +kernel)
theorem q1142 : Cond.instanceMethod yX12_unlikeWords ∈ lw_g := in_g (List.mem_of_getElem? (i := 1142) (by decide +kernel)) (by decide +kernel)
theorem q1143 : Cond.code yX12_unlikeWords cX12_unlikeWords 5 (some .int) ∈ lw_g := in_g (List.mem_of_getElem? (i := 1143) (by decide +kernel)) (by decide +kernel)
theorem gw12_230 : GoodIn lw_g (wsV RX12 230 RX12 yX12_unlikeWords (Cond.code yX12_unlikeWords cX12_unlikeWords 5 (some .int) :: lw_g)) := gV q1140 q1142 q32 q95 q1143
theorem q1169 : Cond.methodLink RX12 233 yX12_wrong ∈ lw_g := in_g (List.mem_of_getElem? (i := 1169) (by decide +kernel)) (by decide +kernel)
theorem q39 : Cond.selects RX12 yX12_wrong yX12_wrong ∈ lw_g := in_g (List.mem_of_getElem? (i := 39) (by decide +kernel)) (by decide +kernel)
theorem q1171 : Cond.instanceMethod yX12_wrong ∈ lw_g := in_g (List.mem_of_getElem? (i := 1171) (by decide +kernel)) (by decide +kernel)
theorem q1172 : Cond.code yX12_wrong cX12_wrong 2 (some .int) ∈ lw_g := in_g (List.mem_of_getElem? (i := 1172) (by decide +kernel)) (by decide +kernel)
theorem gw12_233 : GoodIn lw_g (wsV RX12 233 RX12 yX12_wrong (Cond.code yX12_wrong cX12_wrong 2 (some .int) :: lw_g)) := gV q1169 q1171 q39 q95 q1172
theorem q1286 : Cond.methodLink RX12 239 yX12_drawn ∈ lw_g := in_g (List.mem_of_getElem? (i := 1286) (by decide +kernel)) (by decide +kernel)
theorem q65 : Cond.selects RX12 yX12_drawn yX12_drawn ∈ lw_g := in_g (List.mem_of_getElem? (i := 65) (by decide +kernel)) (by decide +kernel)
theorem q1288 : Cond.instanceMethod yX12_drawn ∈ lw_g := in_g (List.mem_of_getElem? (i := 1288) (by decide +kernel)) (by decide +kernel)
theorem q1289 : Cond.code yX12_drawn cX12_drawn 3 (some .int) ∈ lw_g := in_g (List.mem_of_getElem? (i := 1289) (by decide +kernel)) (by decide +kernel)
theorem gw12_239 : GoodIn lw_g (wsV RX12 239 RX12 yX12_drawn (Cond.code yX12_drawn cX12_drawn 3 (some .int) :: lw_g)) := gV q1286 q1288 q65 q95 q1289
theorem q1294 : Cond.methodLink RX12 242 yX12_drawings ∈ lw_g := in_g (List.mem_of_getElem? (i := 1294) (by decide +kernel)) (by decide +kernel)
theorem q67 : Cond.selects RX12 yX12_drawings yX12_drawings ∈ lw_g := in_g (List.mem_of_getElem? (i := 67) (by decide +kernel)) (by decide +kernel)
theorem q1296 : Cond.instanceMethod yX12_drawings ∈ lw_g := in_g (List.mem_of_getElem? (i := 1296) (by decide +kernel)) (by decide +kernel)
theorem q1297 : Cond.code yX12_drawings cX12_drawings 4 (some .int) ∈ lw_g := in_g (List.mem_of_getElem? (i := 1297) (by decide +kernel)) (by decide +kernel)
theorem gw12_242 : GoodIn lw_g (wsV RX12 242 RX12 yX12_drawings (Cond.code yX12_drawings cX12_drawings 4 (some .int) :: lw_g)) := gV q1294 q1296 q67 q95 q1297
theorem q1298 : Cond.methodLink RX12 245 yX12_trees ∈ lw_g := in_g (List.mem_of_getElem? (i := 1298) (by decide +kernel)) (by decide +kernel)
theorem q68 : Cond.selects RX12 yX12_trees yX12_trees ∈ lw_g := in_g (List.mem_of_getElem? (i := 68) (by decide +kernel)) (by decide +kernel)
theorem q1300 : Cond.instanceMethod yX12_trees ∈ lw_g := in_g (List.mem_of_getElem? (i := 1300) (by decide +kernel)) (by decide +kernel)
theorem q1301 : Cond.code yX12_trees cX12_trees 6 (some .int) ∈ lw_g := in_g (List.mem_of_getElem? (i := 1301) (by decide +kernel)) (by decide +kernel)
theorem gw12_245 : GoodIn lw_g (wsV RX12 245 RX12 yX12_trees (Cond.code yX12_trees cX12_trees 6 (some .int) :: lw_g)) := gV q1298 q1300 q68 q95 q1301
theorem q1322 : Cond.methodLink RX12 249 yX12_facesOfSize ∈ lw_g := in_g (List.mem_of_getElem? (i := 1322) (by decide +kernel)) (by decide +kernel)
theorem q74 : Cond.selects RX12 yX12_facesOfSize yX12_facesOfSize ∈ lw_g := in_g (List.mem_of_getElem? (i := 74) (by decide +kernel)) (by decide +kernel)
theorem q1324 : Cond.instanceMethod yX12_facesOfSize ∈ lw_g := in_g (List.mem_of_getElem? (i := 1324) (by decide +kernel)) (by decide +kernel)
theorem q1325 : Cond.code yX12_facesOfSize cX12_facesOfSize 6 (some .int) ∈ lw_g := in_g (List.mem_of_getElem? (i := 1325) (by decide +kernel)) (by decide +kernel)
theorem gw12_249 : GoodIn lw_g (wsV RX12 249 RX12 yX12_facesOfSize (Cond.code yX12_facesOfSize cX12_facesOfSize 6 (some .int) :: lw_g)) := gV q1322 q1324 q74 q95 q1325
theorem q1209 : Cond.methodLink RX12 253 yX12_parts ∈ lw_g := in_g (List.mem_of_getElem? (i := 1209) (by decide +kernel)) (by decide +kernel)
theorem q47 : Cond.selects RX12 yX12_parts yX12_parts ∈ lw_g := in_g (List.mem_of_getElem? (i := 47) (by decide +kernel)) (by decide +kernel)
theorem q1211 : Cond.instanceMethod yX12_parts ∈ lw_g := in_g (List.mem_of_getElem? (i := 1211) (by decide +kernel)) (by decide +kernel)
theorem q1212 : Cond.code yX12_parts cX12_parts 4 (some .int) ∈ lw_g := in_g (List.mem_of_getElem? (i := 1212) (by decide +kernel)) (by decide +kernel)
theorem gw12_253 : GoodIn lw_g (wsV RX12 253 RX12 yX12_parts (Cond.code yX12_parts cX12_parts 4 (some .int) :: lw_g)) := gV q1209 q1211 q47 q95 q1212
theorem q1217 : Cond.methodLink RX12 256 yX12_broken ∈ lw_g := in_g (List.mem_of_getElem? (i := 1217) (by decide +kernel)) (by decide +kernel)
theorem q49 : Cond.selects RX12 yX12_broken yX12_broken ∈ lw_g := in_g (List.mem_of_getElem? (i := 49) (by decide +kernel)) (by decide +kernel)
theorem q1219 : Cond.instanceMethod yX12_broken ∈ lw_g := in_g (List.mem_of_getElem? (i := 1219) (by decide +kernel)) (by decide +kernel)
theorem q1220 : Cond.code yX12_broken cX12_broken 4 (some .int) ∈ lw_g := in_g (List.mem_of_getElem? (i := 1220) (by decide +kernel)) (by decide +kernel)
theorem gw12_256 : GoodIn lw_g (wsV RX12 256 RX12 yX12_broken (Cond.code yX12_broken cX12_broken 4 (some .int) :: lw_g)) := gV q1217 q1219 q49 q95 q1220
theorem q1236 : Cond.methodLink RX12 259 yX12_kinOf ∈ lw_g := in_g (List.mem_of_getElem? (i := 1236) (by decide +kernel)) (by decide +kernel)
theorem q53 : Cond.selects RX12 yX12_kinOf yX12_kinOf ∈ lw_g := in_g (List.mem_of_getElem? (i := 53) (by decide +kernel)) (by decide +kernel)
theorem q1238 : Cond.instanceMethod yX12_kinOf ∈ lw_g := in_g (List.mem_of_getElem? (i := 1238) (by decide +kernel)) (by decide +kernel)
theorem q1239 : Cond.code yX12_kinOf cX12_kinOf 2 (some .int) ∈ lw_g := in_g (List.mem_of_getElem? (i := 1239) (by decide +kernel)) (by decide +kernel)
theorem gw12_259 : GoodIn lw_g (wsV RX12 259 RX12 yX12_kinOf (Cond.code yX12_kinOf cX12_kinOf 2 (some .int) :: lw_g)) := gV q1236 q1238 q53 q95 q1239
theorem q1240 : Cond.methodLink RX12 262 yX12_loops ∈ lw_g := in_g (List.mem_of_getElem? (i := 1240) (by decide +kernel)) (by decide +kernel)
theorem q54 : Cond.selects RX12 yX12_loops yX12_loops ∈ lw_g := in_g (List.mem_of_getElem? (i := 54) (by decide +kernel)) (by decide +kernel)
theorem q1242 : Cond.instanceMethod yX12_loops ∈ lw_g := in_g (List.mem_of_getElem? (i := 1242) (by decide +kernel)) (by decide +kernel)
theorem q1243 : Cond.code yX12_loops cX12_loops 4 (some .int) ∈ lw_g := in_g (List.mem_of_getElem? (i := 1243) (by decide +kernel)) (by decide +kernel)
theorem gw12_262 : GoodIn lw_g (wsV RX12 262 RX12 yX12_loops (Cond.code yX12_loops cX12_loops 4 (some .int) :: lw_g)) := gV q1240 q1242 q54 q95 q1243
theorem q1254 : Cond.methodLink RX12 269 yX12_ofFaces ∈ lw_g := in_g (List.mem_of_getElem? (i := 1254) (by decide +kernel)) (by decide +kernel)
theorem q57 : Cond.selects RX12 yX12_ofFaces yX12_ofFaces ∈ lw_g := in_g (List.mem_of_getElem? (i := 57) (by decide +kernel)) (by decide +kernel)
theorem q1256 : Cond.instanceMethod yX12_ofFaces ∈ lw_g := in_g (List.mem_of_getElem? (i := 1256) (by decide +kernel)) (by decide +kernel)
theorem q1257 : Cond.code yX12_ofFaces cX12_ofFaces 3 (some .int) ∈ lw_g := in_g (List.mem_of_getElem? (i := 1257) (by decide +kernel)) (by decide +kernel)
theorem gw12_269 : GoodIn lw_g (wsV RX12 269 RX12 yX12_ofFaces (Cond.code yX12_ofFaces cX12_ofFaces 3 (some .int) :: lw_g)) := gV q1254 q1256 q57 q95 q1257
theorem q1343 : Cond.methodLink RX12 274 yX12_isLetter ∈ lw_g := in_g (List.mem_of_getElem? (i := 1343) (by decide +kernel)) (by decide +kernel)
theorem q76 : Cond.selects RX12 yX12_isLetter yX12_isLetter ∈ lw_g := in_g (List.mem_of_getElem? (i := 76) (by decide +kernel)) (by decide +kernel)
theorem q1345 : Cond.instanceMethod yX12_isLetter ∈ lw_g := in_g (List.mem_of_getElem? (i := 1345) (by decide +kernel)) (by decide +kernel)
theorem q1346 : Cond.code yX12_isLetter cX12_isLetter 3 (some .boolean) ∈ lw_g := in_g (List.mem_of_getElem? (i := 1346) (by decide +kernel)) (by decide +kernel)
theorem gw12_274 : GoodIn lw_g (wsV RX12 274 RX12 yX12_isLetter (Cond.code yX12_isLetter cX12_isLetter 3 (some .boolean) :: lw_g)) := gV q1343 q1345 q76 q95 q1346
theorem q1357 : Cond.methodLink RX12 281 yX12_turns ∈ lw_g := in_g (List.mem_of_getElem? (i := 1357) (by decide +kernel)) (by decide +kernel)
theorem q78 : Cond.selects RX12 yX12_turns yX12_turns ∈ lw_g := in_g (List.mem_of_getElem? (i := 78) (by decide +kernel)) (by decide +kernel)
theorem q1359 : Cond.instanceMethod yX12_turns ∈ lw_g := in_g (List.mem_of_getElem? (i := 1359) (by decide +kernel)) (by decide +kernel)
theorem q1360 : Cond.code yX12_turns cX12_turns 5 (some .int) ∈ lw_g := in_g (List.mem_of_getElem? (i := 1360) (by decide +kernel)) (by decide +kernel)
theorem gw12_281 : GoodIn lw_g (wsV RX12 281 RX12 yX12_turns (Cond.code yX12_turns cX12_turns 5 (some .int) :: lw_g)) := gV q1357 q1359 q78 q95 q1360
theorem q1365 : Cond.methodLink RX12 284 yX12_isSet ∈ lw_g := in_g (List.mem_of_getElem? (i := 1365) (by decide +kernel)) (by decide +kernel)
theorem q79 : Cond.selects RX12 yX12_isSet yX12_isSet ∈ lw_g := in_g (List.mem_of_getElem? (i := 79) (by decide +kernel)) (by decide +kernel)
theorem q1367 : Cond.instanceMethod yX12_isSet ∈ lw_g := in_g (List.mem_of_getElem? (i := 1367) (by decide +kernel)) (by decide +kernel)
theorem q1368 : Cond.code yX12_isSet cX12_isSet 3 (some .boolean) ∈ lw_g := in_g (List.mem_of_getElem? (i := 1368) (by decide +kernel)) (by decide +kernel)
theorem gw12_284 : GoodIn lw_g (wsV RX12 284 RX12 yX12_isSet (Cond.code yX12_isSet cX12_isSet 3 (some .boolean) :: lw_g)) := gV q1365 q1367 q79 q95 q1368
theorem q1395 : Cond.methodLink RX12 290 yX12_isStep ∈ lw_g := in_g (List.mem_of_getElem? (i := 1395) (by decide +kernel)) (by decide +kernel)
theorem q80 : Cond.selects RX12 yX12_isStep yX12_isStep ∈ lw_g := in_g (List.mem_of_getElem? (i := 80) (by decide +kernel)) (by decide +kernel)
theorem q1397 : Cond.instanceMethod yX12_isStep ∈ lw_g := in_g (List.mem_of_getElem? (i := 1397) (by decide +kernel)) (by decide +kernel)
theorem q1398 : Cond.code yX12_isStep cX12_isStep 3 (some .boolean) ∈ lw_g := in_g (List.mem_of_getElem? (i := 1398) (by decide +kernel)) (by decide +kernel)
theorem gw12_290 : GoodIn lw_g (wsV RX12 290 RX12 yX12_isStep (Cond.code yX12_isStep cX12_isStep 3 (some .boolean) :: lw_g)) := gV q1395 q1397 q80 q95 q1398
theorem q1403 : Cond.methodLink RX12 293 yX12_without ∈ lw_g := in_g (List.mem_of_getElem? (i := 1403) (by decide +kernel)) (by decide +kernel)
theorem q81 : Cond.selects RX12 yX12_without yX12_without ∈ lw_g := in_g (List.mem_of_getElem? (i := 81) (by decide +kernel)) (by decide +kernel)
theorem q1405 : Cond.instanceMethod yX12_without ∈ lw_g := in_g (List.mem_of_getElem? (i := 1405) (by decide +kernel)) (by decide +kernel)
theorem q1406 : Cond.code yX12_without cX12_without 5 (some .int) ∈ lw_g := in_g (List.mem_of_getElem? (i := 1406) (by decide +kernel)) (by decide +kernel)
theorem gw12_293 : GoodIn lw_g (wsV RX12 293 RX12 yX12_without (Cond.code yX12_without cX12_without 5 (some .int) :: lw_g)) := gV q1403 q1405 q81 q95 q1406
theorem q1419 : Cond.methodLink RX12 296 yX12_swaps ∈ lw_g := in_g (List.mem_of_getElem? (i := 1419) (by decide +kernel)) (by decide +kernel)
theorem q82 : Cond.selects RX12 yX12_swaps yX12_swaps ∈ lw_g := in_g (List.mem_of_getElem? (i := 82) (by decide +kernel)) (by decide +kernel)
theorem q1421 : Cond.instanceMethod yX12_swaps ∈ lw_g := in_g (List.mem_of_getElem? (i := 1421) (by decide +kernel)) (by decide +kernel)
theorem q1422 : Cond.code yX12_swaps cX12_swaps 6 none ∈ lw_g := in_g (List.mem_of_getElem? (i := 1422) (by decide +kernel)) (by decide +kernel)
theorem gw12_296 : GoodIn lw_g (wsV RX12 296 RX12 yX12_swaps (Cond.code yX12_swaps cX12_swaps 6 none :: lw_g)) := gV q1419 q1421 q82 q95 q1422
theorem q1444 : Cond.methodLink RX12 306 yX12_draws ∈ lw_g := in_g (List.mem_of_getElem? (i := 1444) (by decide +kernel)) (by decide +kernel)
theorem q84 : Cond.selects RX12 yX12_draws yX12_draws ∈ lw_g := in_g (List.mem_of_getElem? (i := 84) (by decide +kernel)) (by decide +kernel)
theorem q1446 : Cond.instanceMethod yX12_draws ∈ lw_g := in_g (List.mem_of_getElem? (i := 1446) (by decide +kernel)) (by decide +kernel)
theorem q1447 : Cond.code yX12_draws cX12_draws 2 (some .int) ∈ lw_g := in_g (List.mem_of_getElem? (i := 1447) (by decide +kernel)) (by decide +kernel)
theorem gw12_306 : GoodIn lw_g (wsV RX12 306 RX12 yX12_draws (Cond.code yX12_draws cX12_draws 2 (some .int) :: lw_g)) := gV q1444 q1446 q84 q95 q1447
theorem q1440 : Cond.methodLink RX12 311 yX12_drawsRow ∈ lw_g := in_g (List.mem_of_getElem? (i := 1440) (by decide +kernel)) (by decide +kernel)
theorem q83 : Cond.selects RX12 yX12_drawsRow yX12_drawsRow ∈ lw_g := in_g (List.mem_of_getElem? (i := 83) (by decide +kernel)) (by decide +kernel)
theorem q1442 : Cond.instanceMethod yX12_drawsRow ∈ lw_g := in_g (List.mem_of_getElem? (i := 1442) (by decide +kernel)) (by decide +kernel)
theorem q1443 : Cond.code yX12_drawsRow cX12_drawsRow 5 none ∈ lw_g := in_g (List.mem_of_getElem? (i := 1443) (by decide +kernel)) (by decide +kernel)
theorem gw12_311 : GoodIn lw_g (wsV RX12 311 RX12 yX12_drawsRow (Cond.code yX12_drawsRow cX12_drawsRow 5 none :: lw_g)) := gV q1440 q1442 q83 q95 q1443
