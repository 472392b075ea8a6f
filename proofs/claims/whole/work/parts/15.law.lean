/-! THE CLAIM OUT OF ONE WALK OF THE LAW'S BODY. Your part is whole_start (and what it stands on); all else here is the same for every law, but numbers. -/
def R_law : String := "OneStrokesLaw"
def lw_P (b : Addr) (xs : List Int32) (args : Array Value) (s : State) : Prop := args = #[.ref b] ∧ s.IntsAt b xs ∧ xs.length ≤ 2560 ∧ (Jvm.Cond.and given_1 narrow_1).before args s = true
def lw_Q (_ : Array Value) (s : State) (o : Outcome) (t : State) : Prop := o = .returned (some (.int 1)) ∧ Framed s o t [] 600000 7302250
def lw_Z (below : List Frame) (a : Array Value) (s : State) : State → Prop := fun t => ∃ o, t.status = .running ∧ Ended t below o ∧ lw_Q a s o t
/-- the law's own end, with 1 on the stack, nothing written that was there before, its room as the claim has it -/
theorem lw_ret {p : Program} {l : Launch} {e : Env} {s : State} {m : MethodId} {below : List Frame} {meth : Method} {c : Code} {b : Nat} (hx : p.tables.exec = Jvm.exec) (hb : c.code = code) (hr : meth.sig.returnType = ret) (hlocks : meth.locks = false) {pc : Nat} {H : Heap} {ls : Array Slot} (hdg : decode code pc = .ok (.ireturn, 1)) : W p l e room_1 s m #[Value.ref b] below meth c H [] 600000 7302250 (lw_Z below #[Value.ref b] s) (F0 m pc ls [.int 1]) := by
  intro T hT X
  obtain ⟨fs, hret, hrun, hended, hW, hframe⟩ := X.leave (v := some (.int 1)) (hlocks := hlocks) (fun h => by rw [hr] at h; cases h)
  have hmeth' : T.vm.method? m = some meth := X.method'
  refine ⟨T.setFrames fs, ?_, .returned (some (.int 1)), hrun, hended, rfl, ⟨_, rfl⟩, hW, hframe⟩
  jvm_step X.here [X.here.top, hx, hb, hdg, hmeth', hr, ret, narrow_b1]
  (try refine ⟨rfl, ?_⟩); (try refine ⟨rfl, ?_⟩)
  first | (intro acts; rw [hret _ acts rfl rfl rfl]) | rw [hret _ _ rfl rfl rfl]
  exact Steps.refl _
/-- what holds at the law's entry: the machine, the code, the tables' words (any of lw_tbl by 'hts w (by decide +kernel)'), the script of L ints xs at the cell b, what the Statement gives of the start (any of its parts by flat_of_before) -/
def lw_At (p : Program) (s : State) (m : MethodId) (meth : Method) (c : Code) (b L : Nat) (xs : Nat → Int32) : Prop :=
  p.tables.exec = Jvm.exec ∧ c.code = code ∧ meth.sig.returnType = ret ∧ c.maxLocals = 4 ∧ s.vm.findClass R_law = some m.cls ∧ (∀ w ∈ lw_tbl, w.before #[Value.ref b] s = true) ∧ va_X b L xs s s.heap ∧ b < s.heap.size ∧ meth.locks = false ∧ (Jvm.Cond.and given_1 narrow_1).before #[Value.ref b] s = true
def A00 (base : Nat) : AH := (fun _ => 0, fun _ _ => 0, fun _ _ => 0, fun _ _ => none, fun _ => 0, fun _ _ => 0, fun _ _ => none, base)
def OP_feed (x0 m0 : Nat) (Rel : AH → Prop) : Prop := ∀ A, Rel A → ∀ (v1 : Int32), ∃ r1 r2, fX11_feed A (some x0) v1 = some r1 ∧ fX12_feed r1.2 (some m0) v1 = some r2 ∧ r1.1 = r2.1 ∧ Rel r2.2
def OP_tell (x0 m0 : Nat) (Rel : AH → Prop) : Prop := ∀ A, Rel A → ∃ r1 r2, fX11_tell A (some x0)  = some r1 ∧ fX12_tell r1.2 (some m0)  = some r2 ∧ r1.1 = r2.1 ∧ Rel r2.2
def OP_fault (x0 m0 : Nat) (Rel : AH → Prop) : Prop := ∀ A, Rel A → ∃ r1 r2, fX11_fault A (some x0)  = some r1 ∧ fX12_fault A (some m0)  = some r2 ∧ r1 = r2 ∧ Rel A
def OP_told (x0 m0 : Nat) (Rel : AH → Prop) : Prop := ∀ A, Rel A → ∀ (v1 : Int32), ∃ r1 r2, fX11_told A (some x0) v1 = some r1 ∧ fX12_told r1.2 (some m0) v1 = some r2 ∧ r1.1 = r2.1 ∧ Rel r2.2
def OP_word (x0 m0 : Nat) (Rel : AH → Prop) : Prop := ∀ A, Rel A → ∀ (v1 : Int32) (v2 : Int32), ∃ r1 r2, fX11_word A (some x0) v1 v2 = some r1 ∧ fX12_word r1.2 (some m0) v1 v2 = some r2 ∧ r1.1 = r2.1 ∧ Rel r2.2
def OP_code (x0 m0 : Nat) (Rel : AH → Prop) : Prop := ∀ A, Rel A → ∀ (v1 : Int32), ∃ r1 r2, fX11_code A (some x0) v1 = some r1 ∧ fX12_code r1.2 (some m0) v1 = some r2 ∧ r1.1 = r2.1 ∧ Rel r2.2
def OP_at (x0 m0 : Nat) (Rel : AH → Prop) : Prop := ∀ A, Rel A → ∀ (v1 : Int32) (v2 : Int32), ∃ r1 r2, fX11_at A (some x0) v1 v2 = some r1 ∧ fX12_at A (some m0) v1 v2 = some r2 ∧ r1 = r2 ∧ Rel A
def OP_letter (x0 m0 : Nat) (Rel : AH → Prop) : Prop := ∀ A, Rel A → ∀ (v1 : Int32) (v2 : Int32) (v3 : Int32), ∃ r1 r2, fX11_letter A (some x0) v1 v2 v3 = some r1 ∧ fX12_letter r1.2 (some m0) v1 v2 v3 = some r2 ∧ r1.1 = r2.1 ∧ Rel r2.2
def OP_face (x0 m0 : Nat) (Rel : AH → Prop) : Prop := ∀ A, Rel A → ∀ (v1 : Int32) (v2 : Int32) (v3 : Int32), ∃ r1 r2, fX11_face A (some x0) v1 v2 v3 = some r1 ∧ fX12_face r1.2 (some m0) v1 v2 v3 = some r2 ∧ r1.1 = r2.1 ∧ Rel r2.2
def OP_rings (x0 m0 : Nat) (Rel : AH → Prop) : Prop := ∀ A, Rel A → ∀ (v1 : Int32) (v2 : Int32), ∃ r1 r2, fX11_rings A (some x0) v1 v2 = some r1 ∧ fX12_rings r1.2 (some m0) v1 v2 = some r2 ∧ r1.1 = r2.1 ∧ Rel r2.2
def OP_states (x0 m0 : Nat) (Rel : AH → Prop) : Prop := ∀ A, Rel A → ∀ (v1 : Int32) (v2 : Int32), ∃ r1 r2, fX11_states A (some x0) v1 v2 = some r1 ∧ fX12_states r1.2 (some m0) v1 v2 = some r2 ∧ r1.1 = r2.1 ∧ Rel r2.2
def OP_same (x0 m0 : Nat) (Rel : AH → Prop) : Prop := ∀ A, Rel A → ∀ (v1 : Int32) (v2 : Int32), ∃ r1 r2, fX11_same A (some x0) v1 v2 = some r1 ∧ fX12_same r1.2 (some m0) v1 v2 = some r2 ∧ r1.1 = r2.1 ∧ Rel r2.2
def OP_signs (x0 m0 : Nat) (Rel : AH → Prop) : Prop := ∀ A, Rel A → ∀ (v1 : Int32) (v2 : Int32), ∃ r1 r2, fX11_signs A (some x0) v1 v2 = some r1 ∧ fX12_signs r1.2 (some m0) v1 v2 = some r2 ∧ r1.1 = r2.1 ∧ Rel r2.2
def OP_draw (x0 m0 : Nat) (Rel : AH → Prop) : Prop := ∀ A, Rel A → ∀ (v1 : Int32), ∃ r1 r2, fX11_draw A (some x0) v1 = some r1 ∧ fX12_draw r1.2 (some m0) v1 = some r2 ∧ r1.1 = r2.1 ∧ Rel r2.2
def OP_turn (x0 m0 : Nat) (Rel : AH → Prop) : Prop := ∀ A, Rel A → ∀ (v1 : Int32) (v2 : Int32) (v3 : Int32), (v3 = 0 ∨ v3 = 1) → ∃ r1 r2, fX11_turn A (some x0) v1 v2 v3 = some r1 ∧ fX12_turn r1.2 (some m0) v1 v2 v3 = some r2 ∧ r1.1 = r2.1 ∧ Rel r2.2
def OP_twist (x0 m0 : Nat) (Rel : AH → Prop) : Prop := ∀ A, Rel A → ∀ (v1 : Int32) (v2 : Int32), ∃ r1 r2, fX11_twist A (some x0) v1 v2 = some r1 ∧ fX12_twist r1.2 (some m0) v1 v2 = some r2 ∧ r1.1 = r2.1 ∧ Rel r2.2
def OP_untwist (x0 m0 : Nat) (Rel : AH → Prop) : Prop := ∀ A, Rel A → ∀ (v1 : Int32) (v2 : Int32), ∃ r1 r2, fX11_untwist A (some x0) v1 v2 = some r1 ∧ fX12_untwist r1.2 (some m0) v1 v2 = some r2 ∧ r1.1 = r2.1 ∧ Rel r2.2
def OP_poke (x0 m0 : Nat) (Rel : AH → Prop) : Prop := ∀ A, Rel A → ∀ (v1 : Int32) (v2 : Int32) (v3 : Int32) (v4 : Int32), ∃ r1 r2, fX11_poke A (some x0) v1 v2 v3 v4 = some r1 ∧ fX12_poke r1.2 (some m0) v1 v2 v3 v4 = some r2 ∧ r1.1 = r2.1 ∧ Rel r2.2
def OP_unpoke (x0 m0 : Nat) (Rel : AH → Prop) : Prop := ∀ A, Rel A → ∀ (v1 : Int32) (v2 : Int32) (v3 : Int32), ∃ r1 r2, fX11_unpoke A (some x0) v1 v2 v3 = some r1 ∧ fX12_unpoke r1.2 (some m0) v1 v2 v3 = some r2 ∧ r1.1 = r2.1 ∧ Rel r2.2
def OP_slide (x0 m0 : Nat) (Rel : AH → Prop) : Prop := ∀ A, Rel A → ∀ (v1 : Int32) (v2 : Int32) (v3 : Int32) (v4 : Int32), ∃ r1 r2, fX11_slide A (some x0) v1 v2 v3 v4 = some r1 ∧ fX12_slide r1.2 (some m0) v1 v2 v3 v4 = some r2 ∧ r1.1 = r2.1 ∧ Rel r2.2
def OP_smooth (x0 m0 : Nat) (Rel : AH → Prop) : Prop := ∀ A, Rel A → ∀ (v1 : Int32) (v2 : Int32), ∃ r1 r2, fX11_smooth A (some x0) v1 v2 = some r1 ∧ fX12_smooth r1.2 (some m0) v1 v2 = some r2 ∧ r1.1 = r2.1 ∧ Rel r2.2
def OP_sum (x0 m0 : Nat) (Rel : AH → Prop) : Prop := ∀ A, Rel A → ∀ (v1 : Int32) (v2 : Int32), ∃ r1 r2, fX11_sum A (some x0) v1 v2 = some r1 ∧ fX12_sum r1.2 (some m0) v1 v2 = some r2 ∧ r1.1 = r2.1 ∧ Rel r2.2
def OP_take (x0 m0 : Nat) (Rel : AH → Prop) : Prop := ∀ A, Rel A → ∀ (v1 : Int32), ∃ r1 r2, fX11_take A (some x0) v1 = some r1 ∧ fX12_take r1.2 (some m0) v1 = some r2 ∧ r1.1 = r2.1 ∧ Rel r2.2
def OP_drift (x0 m0 : Nat) (Rel : AH → Prop) : Prop := ∀ A, Rel A → ∀ (v1 : Int32), ∃ r1 r2, fX11_drift A (some x0) v1 = some r1 ∧ fX12_drift r1.2 (some m0) v1 = some r2 ∧ r1.1 = r2.1 ∧ Rel r2.2
def OP_undo (x0 m0 : Nat) (Rel : AH → Prop) : Prop := ∀ A, Rel A → ∀ (v1 : Int32), ∃ r1 r2, fX11_undo A (some x0) v1 = some r1 ∧ fX12_undo r1.2 (some m0) v1 = some r2 ∧ r1.1 = r2.1 ∧ Rel r2.2
def OP_write (x0 m0 : Nat) (Rel : AH → Prop) : Prop := ∀ A, Rel A → ∀ (v1 : Int32) (v2 : Int32), ∃ r1 r2, fX11_write A (some x0) v1 v2 = some r1 ∧ fX12_write r1.2 (some m0) v1 v2 = some r2 ∧ r1.1 = r2.1 ∧ Rel r2.2
def OP_tear (x0 m0 : Nat) (Rel : AH → Prop) : Prop := ∀ A, Rel A → ∃ r1 r2, fX11_tear A (some x0)  = some r1 ∧ fX12_tear r1.2 (some m0)  = some r2 ∧ r1.1 = r2.1 ∧ Rel r2.2
def OP_seed (x0 m0 : Nat) (Rel : AH → Prop) : Prop := ∀ A, Rel A → ∀ (v1 : Int32), ∃ r1 r2, fX11_seed A (some x0) v1 = some r1 ∧ fX12_seed r1.2 (some m0) v1 = some r2 ∧ r1.1 = r2.1 ∧ Rel r2.2
def OP_keep (x0 m0 : Nat) (Rel : AH → Prop) : Prop := ∀ A, Rel A → ∀ (v1 : Int32), ∃ r1 r2, fX11_keep A (some x0) v1 = some r1 ∧ fX12_keep r1.2 (some m0) v1 = some r2 ∧ r1.1 = r2.1 ∧ Rel r2.2
def OP_goBack (x0 m0 : Nat) (Rel : AH → Prop) : Prop := ∀ A, Rel A → ∀ (v1 : Int32), ∃ r1 r2, fX11_goBack A (some x0) v1 = some r1 ∧ fX12_goBack r1.2 (some m0) v1 = some r2 ∧ r1.1 = r2.1 ∧ Rel r2.2
def LAWOK (x0 m0 : Nat) (Rel : AH → Prop) : Prop := OP_feed x0 m0 Rel ∧ OP_tell x0 m0 Rel ∧ OP_fault x0 m0 Rel ∧ OP_told x0 m0 Rel ∧ OP_word x0 m0 Rel ∧ OP_code x0 m0 Rel ∧ OP_at x0 m0 Rel ∧ OP_letter x0 m0 Rel ∧ OP_face x0 m0 Rel ∧ OP_rings x0 m0 Rel ∧ OP_states x0 m0 Rel ∧ OP_same x0 m0 Rel ∧ OP_signs x0 m0 Rel ∧ OP_draw x0 m0 Rel ∧ OP_turn x0 m0 Rel ∧ OP_twist x0 m0 Rel ∧ OP_untwist x0 m0 Rel ∧ OP_poke x0 m0 Rel ∧ OP_unpoke x0 m0 Rel ∧ OP_slide x0 m0 Rel ∧ OP_smooth x0 m0 Rel ∧ OP_sum x0 m0 Rel ∧ OP_take x0 m0 Rel ∧ OP_drift x0 m0 Rel ∧ OP_undo x0 m0 Rel ∧ OP_write x0 m0 Rel ∧ OP_tear x0 m0 Rel ∧ OP_seed x0 m0 Rel ∧ OP_keep x0 m0 Rel ∧ OP_goBack x0 m0 Rel
def INIT (base : Nat) (Rel : AH → Prop) : Prop := ∃ A2 A4, fX11_init (nw (A00 base) 12 0) (some base) = some A2 ∧ Hs A2 = base + 22 ∧ fX12_init (nw A2 13 0) (some (base + 22)) = some A4 ∧ Rel A4
section LW
variable {p : Program} {l : Launch} {e : Env} {R : Room} {s : State} {m : MethodId} {args : Array Value} {below : List Frame} {meth : Method} {c : Code} {Q : State → Prop} {base : Nat} {D : va_G} {cy : Nat → ClassId} {own : String} {cc : ByteArray} {nL : Nat} {ret : Option FieldType} {nm : String} {pc : Nat} {lv lv' : List (Option LV)} {st : List LV} {A : AH} {k n : Nat}
theorem v_sld (E : EN p s m args meth c D cy own cc nL ret nm) {b L : Nat} {xs : Nat → Int32} (hX : va_X b L xs s s.heap) (hbl : b < base) {i : Int32} (hin : ¬ i < 0 ∧ i.toNatClampNeg < L) (hd : decode cc pc = .ok (.iaload, 1)) (kk : V p l e R s m args below meth c Q base D cy nL (pc + 1) lv (vI (xs i.toNatClampNeg) :: st) A k n) : V p l e R s m args below meth c Q base D cy nL pc lv (vI i :: vR (some b) :: st) A k n := by
  intro H locs ls hW hF hL
  obtain ⟨scr, h1, h2, h3, h4, h5⟩ := hX
  exact W.iald (v := .int (xs i.toNatClampNeg)) E.1 E.2.1 (by rw [hF.1 b hbl]; exact h1) h2 h3 (by rw [h4]; exact fun q => q.elim hin.1 (Nat.not_le.mpr hin.2)) (h5 _ hin.2) rfl rfl hd (kk H locs ls hW hF hL)
theorem v_slen (E : EN p s m args meth c D cy own cc nL ret nm) {b L : Nat} {xs : Nat → Int32} (hX : va_X b L xs s s.heap) (hbl : b < base) (hd : decode cc pc = .ok (.arraylength, 1)) (kk : V p l e R s m args below meth c Q base D cy nL (pc + 1) lv (vI (Int32.ofNat L) :: st) A k n) : V p l e R s m args below meth c Q base D cy nL pc lv (vR (some b) :: st) A k n := by
  intro H locs ls hW hF hL
  obtain ⟨scr, h1, h2, h3, h4, h5⟩ := hX
  exact W.alen (n := Int32.ofNat L) E.1 E.2.1 (by rw [hF.1 b hbl]; exact h1) h2 (by rw [h4] <;> rfl) rfl rfl hd (kk H locs ls hW hF hL)
end LW
theorem lg_cmp_self (x : Int64) : lg_cmp x x = 0 := by simp [lg_cmp]
theorem nI_toI {n : Nat} (h : n < 2 ^ 31) : (Int32.ofNat n).toInt = n := nI_toInt h
theorem law_idx {t L : Nat} (hL : L ≤ 2560) (ht : 5 * t ≤ 2600) (h : ¬ (Int32.ofNat L - 5 < Int32.ofNat (5 * t))) : 5 * t + 5 ≤ L := by
  have h1 : (Int32.ofNat L - 5).toInt = (L : Int) - 5 := by
    rw [Int32.toInt_sub, nI_toI (by omega), show (5 : Int32).toInt = 5 from rfl]
    exact Int.bmod_eq_of_le (by omega) (by omega)
  rw [Int32.lt_iff_toInt_lt, h1, nI_toI (by omega)] at h
  omega
theorem law_in {t L j : Nat} (hL : L ≤ 2560) (ht : 5 * t + 5 ≤ L) (hj : j < 5) : ¬ (Int32.ofNat (5 * t + j)) < 0 ∧ (Int32.ofNat (5 * t + j)).toNatClampNeg < L := by
  have h1 : (Int32.ofNat (5 * t + j)).toNatClampNeg = 5 * t + j := nI_clamp (by omega)
  refine ⟨?_, by rw [h1]; omega⟩
  rw [Int32.lt_iff_toInt_lt, nI_toI (by omega), Int32.toInt_zero]
  omega
theorem law_add (t j : Nat) : Int32.ofNat (5 * t) + Int32.ofNat j = Int32.ofNat (5 * t + j) := (Int32.ofNat_add _ _).symm
set_option maxRecDepth 100000 in
set_option maxHeartbeats 8000000 in
theorem law_loop {p : Program} {l : Launch} {e : Env} {s : State} {m : MethodId} {below : List Frame} {meth : Method} {c : Code} {base : Nat} {D : va_G} {cy : Nat → ClassId} {b L x0 m0 : Nat} {xs : Nat → Int32} {Rel : AH → Prop} (hp : LAWOK x0 m0 Rel) (hL : L ≤ 2560) (E : EN p s m #[Value.ref b] meth c D cy RL code 4 (some .boolean) meth.name) (hbase : base = s.heap.size) (hX : va_X b L xs s s.heap) (hbl : b < base) :
    ∀ (f t : Nat) (A : AH) (k n : Nat), Rel A → t + f = 513 → k + 110 * f ≤ 590000 → n + 900 * f ≤ 7000000 → V p l e room_1 s m #[Value.ref b] below meth c (lw_Z below #[Value.ref b] s) base D cy 4 18 [some (vR (some b)), some (vR (some x0)), some (vR (some m0)), some (vI (Int32.ofNat (5 * t)))] [] A k n := by
  intro f
  induction f with
  | zero =>
    intro t A k n hR htf hk hn
    refine v_iload_n E dL_law_18 rfl ?_
    refine v_aload_n E dL_law_19 rfl ?_
    refine v_slen E hX hbl dL_law_20 ?_
    refine v_iconst (v := 5) E dL_law_21 (by decide) ?_
    refine v_isub E dL_law_22 ?_
    refine v_icmp_gt (tgt := 1101) E dL_law_23 (by decide) (fun c1 => ?_) (fun c1 => ?_)
    · refine v_iconst (v := 1) E dL_law_1101 (by decide) ?_
      intro H locs ls hW hF hLs
      refine va_forget (fun q hq => by rw [← hbase]; exact hF.2 q hq) ?_
      refine W.widen (k := 600000) (n := 7302250) (by omega) (by omega) ?_
      exact lw_ret E.1 E.2.1 E.2.2.2.2.2.2.2.1 E.2.2.2.2.2.2.2.2.1 dL_law_1102
    · have := law_idx hL (by omega) c1
      omega
  | succ f ih =>
    intro t A k n hR htf hk hn
    refine v_iload_n E dL_law_18 rfl ?_
    refine v_aload_n E dL_law_19 rfl ?_
    refine v_slen E hX hbl dL_law_20 ?_
    refine v_iconst (v := 5) E dL_law_21 (by decide) ?_
    refine v_isub E dL_law_22 ?_
    refine v_icmp_gt (tgt := 1101) E dL_law_23 (by decide) (fun c1 => ?_) (fun c1 => ?_)
    · refine v_iconst (v := 1) E dL_law_1101 (by decide) ?_
      intro H locs ls hW hF hLs
      refine va_forget (fun q hq => by rw [← hbase]; exact hF.2 q hq) ?_
      refine W.widen (k := 600000) (n := 7302250) (by omega) (by omega) ?_
      exact lw_ret E.1 E.2.1 E.2.2.2.2.2.2.2.1 E.2.2.2.2.2.2.2.2.1 dL_law_1102
    have ht := law_idx hL (by omega) c1
    have hend : ∀ (A' : AH) (k' n' : Nat), Rel A' → k' ≤ k + 110 → n' ≤ n + 900 → V p l e room_1 s m #[Value.ref b] below meth c (lw_Z below #[Value.ref b] s) base D cy 4 1095 [some (vR (some b)), some (vR (some x0)), some (vR (some m0)), some (vI (Int32.ofNat (5 * t)))] [] A' k' n' := by
      intro A' k' n' hR' hk' hn'
      refine v_widen (k' := k + 110) (n' := n + 900) hk' hn' ?_
      refine v_iinc (v := Int32.ofNat (5 * (t + 1))) (lv' := [some (vR (some b)), some (vR (some x0)), some (vR (some m0)), some (vI (Int32.ofNat (5 * (t + 1))))]) E dL_law_1095 rfl (law_add t 5) (by decide) rfl ?_
      refine v_goto (tgt := 18) E dL_law_1098 (by decide) ?_
      exact ih (t + 1) A' (k + 110) (n + 900) hR' (by omega) (by omega) (by omega)
    have hb0 := law_in (j := 0) hL ht (by decide)
    have hb1 := law_in (j := 1) hL ht (by decide)
    have hb2 := law_in (j := 2) hL ht (by decide)
    have hb3 := law_in (j := 3) hL ht (by decide)
    have hb4 := law_in (j := 4) hL ht (by decide)
    rw [← law_add t 1] at hb1
    rw [← law_add t 2] at hb2
    rw [← law_add t 3] at hb3
    rw [← law_add t 4] at hb4
    refine v_aload_n E dL_law_26 rfl ?_
    refine v_iload_n E dL_law_27 rfl ?_
    refine v_sld E hX hbl hb0 dL_law_28 ?_
    refine v_bipush (v := 31) E dL_law_29 (by decide) ?_
    refine v_iand E dL_law_31 ?_
    generalize hsw : (xs (Int32.ofNat (5 * t + 0)).toNatClampNeg &&& 31) = sw
    refine v_tsw (tgts := [168, 191, 204, 217, 240, 273, 297, 330, 373, 416, 449, 482, 515, 548, 571, 630, 663, 696, 749, 792, 845, 878, 911, 934, 957, 980, 1013, 1026, 1049, 1072, 1095]) E dL_law_32 (fun j off hj => ?_) (by decide) (by decide) (by decide) (by decide) (fun j t hj ht => ?_)
    · match j, hj with
      | 0, hj => cases hj; exact ⟨_, rfl, by decide⟩
      | 1, hj => cases hj; exact ⟨_, rfl, by decide⟩
      | 2, hj => cases hj; exact ⟨_, rfl, by decide⟩
      | 3, hj => cases hj; exact ⟨_, rfl, by decide⟩
      | 4, hj => cases hj; exact ⟨_, rfl, by decide⟩
      | 5, hj => cases hj; exact ⟨_, rfl, by decide⟩
      | 6, hj => cases hj; exact ⟨_, rfl, by decide⟩
      | 7, hj => cases hj; exact ⟨_, rfl, by decide⟩
      | 8, hj => cases hj; exact ⟨_, rfl, by decide⟩
      | 9, hj => cases hj; exact ⟨_, rfl, by decide⟩
      | 10, hj => cases hj; exact ⟨_, rfl, by decide⟩
      | 11, hj => cases hj; exact ⟨_, rfl, by decide⟩
      | 12, hj => cases hj; exact ⟨_, rfl, by decide⟩
      | 13, hj => cases hj; exact ⟨_, rfl, by decide⟩
      | 14, hj => cases hj; exact ⟨_, rfl, by decide⟩
      | 15, hj => cases hj; exact ⟨_, rfl, by decide⟩
      | 16, hj => cases hj; exact ⟨_, rfl, by decide⟩
      | 17, hj => cases hj; exact ⟨_, rfl, by decide⟩
      | 18, hj => cases hj; exact ⟨_, rfl, by decide⟩
      | 19, hj => cases hj; exact ⟨_, rfl, by decide⟩
      | 20, hj => cases hj; exact ⟨_, rfl, by decide⟩
      | 21, hj => cases hj; exact ⟨_, rfl, by decide⟩
      | 22, hj => cases hj; exact ⟨_, rfl, by decide⟩
      | 23, hj => cases hj; exact ⟨_, rfl, by decide⟩
      | 24, hj => cases hj; exact ⟨_, rfl, by decide⟩
      | 25, hj => cases hj; exact ⟨_, rfl, by decide⟩
      | 26, hj => cases hj; exact ⟨_, rfl, by decide⟩
      | 27, hj => cases hj; exact ⟨_, rfl, by decide⟩
      | 28, hj => cases hj; exact ⟨_, rfl, by decide⟩
      | 29, hj => cases hj; exact ⟨_, rfl, by decide⟩
      | j + 30, hj => simp at hj
    · by_cases c1 : sw = 0
      · skip
        rw [c1] at hj
        obtain rfl : j = 0 := hj.symm
        cases ht
        obtain ⟨r1, r2, e1, e2, hq, hR2⟩ := hp.1 A hR (xs (Int32.ofNat (5 * t) + 1).toNatClampNeg)
        refine v_aload_n E dL_law_168 rfl ?_
        refine v_aload_n E dL_law_169 rfl ?_
        refine v_iload_n E dL_law_170 rfl ?_
        refine v_iconst (v := 1) E dL_law_171 (by decide) ?_
        refine v_iadd E dL_law_172 ?_
        refine v_sld E hX hbl hb1 dL_law_173 ?_
        refine v_callV (na := 1) (As := [vI (xs (Int32.ofNat (5 * t) + 1).toNatClampNeg)]) (rest := []) (ci := 11) (q := (RX11, TX11, 8)) E gwL_13 (by decide +kernel) rfl rfl (by decide) (kX11_feed l e1).2 (kX11_feed l e1).1 rfl rfl dL_law_174 ⟨Nat.le_of_ble_eq_true rfl, Nat.le_of_ble_eq_true rfl⟩ ⟨(by show _ ≤ 600000; omega), (by show _ ≤ 7302250; omega)⟩ (Nat.le_of_ble_eq_true rfl) ?_
        refine v_aload_n E dL_law_177 rfl ?_
        refine v_aload_n E dL_law_178 rfl ?_
        refine v_iload_n E dL_law_179 rfl ?_
        refine v_iconst (v := 1) E dL_law_180 (by decide) ?_
        refine v_iadd E dL_law_181 ?_
        refine v_sld E hX hbl hb1 dL_law_182 ?_
        refine v_callV (na := 1) (As := [vI (xs (Int32.ofNat (5 * t) + 1).toNatClampNeg)]) (rest := [vI r1.1]) (ci := 12) (q := (RX12, TX12, 20)) E gwL_17 (by decide +kernel) rfl rfl (by decide) (kX12_feed l e2).2 (kX12_feed l e2).1 rfl rfl dL_law_183 ⟨Nat.le_of_ble_eq_true rfl, Nat.le_of_ble_eq_true rfl⟩ ⟨(by show _ ≤ 600000; omega), (by show _ ≤ 7302250; omega)⟩ (Nat.le_of_ble_eq_true rfl) ?_
        refine v_icmp_eq (tgt := 1095) E dL_law_186 (by decide) (fun _ => ?_) (fun q => absurd hq q)
        exact hend _ _ _ hR2 (by omega) (by omega)
      by_cases c2 : sw = 1
      · skip
        rw [c2] at hj
        obtain rfl : j = 1 := hj.symm
        cases ht
        obtain ⟨r1, r2, e1, e2, hq, hR2⟩ := hp.2.1 A hR
        refine v_aload_n E dL_law_191 rfl ?_
        refine v_callV (na := 0) (As := []) (rest := []) (ci := 11) (q := (RX11, TX11, 8)) E gwL_18 (by decide +kernel) rfl rfl (by decide) (kX11_tell l e1).2 (kX11_tell l e1).1 rfl rfl dL_law_192 ⟨Nat.le_of_ble_eq_true rfl, Nat.le_of_ble_eq_true rfl⟩ ⟨(by show _ ≤ 600000; omega), (by show _ ≤ 7302250; omega)⟩ (Nat.le_of_ble_eq_true rfl) ?_
        refine v_aload_n E dL_law_195 rfl ?_
        refine v_callV (na := 0) (As := []) (rest := [vI r1.1]) (ci := 12) (q := (RX12, TX12, 20)) E gwL_22 (by decide +kernel) rfl rfl (by decide) (kX12_tell l e2).2 (kX12_tell l e2).1 rfl rfl dL_law_196 ⟨Nat.le_of_ble_eq_true rfl, Nat.le_of_ble_eq_true rfl⟩ ⟨(by show _ ≤ 600000; omega), (by show _ ≤ 7302250; omega)⟩ (Nat.le_of_ble_eq_true rfl) ?_
        refine v_icmp_eq (tgt := 1095) E dL_law_199 (by decide) (fun _ => ?_) (fun q => absurd hq q)
        exact hend _ _ _ hR2 (by omega) (by omega)
      by_cases c3 : sw = 2
      · skip
        rw [c3] at hj
        obtain rfl : j = 2 := hj.symm
        cases ht
        obtain ⟨r1, r2, e1, e2, hq, hR2⟩ := hp.2.2.1 A hR
        refine v_aload_n E dL_law_204 rfl ?_
        refine v_callV (na := 0) (As := []) (rest := []) (ci := 11) (q := (RX11, TX11, 8)) E gwL_23 (by decide +kernel) rfl rfl (by decide) (kX11_fault l e1).2 (kX11_fault l e1).1 rfl rfl dL_law_205 ⟨Nat.le_of_ble_eq_true rfl, Nat.le_of_ble_eq_true rfl⟩ ⟨(by show _ ≤ 600000; omega), (by show _ ≤ 7302250; omega)⟩ (Nat.le_of_ble_eq_true rfl) ?_
        refine v_aload_n E dL_law_208 rfl ?_
        refine v_callV (na := 0) (As := []) (rest := [vI r1]) (ci := 12) (q := (RX12, TX12, 20)) E gwL_26 (by decide +kernel) rfl rfl (by decide) (kX12_fault l e2).2 (kX12_fault l e2).1 rfl rfl dL_law_209 ⟨Nat.le_of_ble_eq_true rfl, Nat.le_of_ble_eq_true rfl⟩ ⟨(by show _ ≤ 600000; omega), (by show _ ≤ 7302250; omega)⟩ (Nat.le_of_ble_eq_true rfl) ?_
        refine v_icmp_eq (tgt := 1095) E dL_law_212 (by decide) (fun _ => ?_) (fun q => absurd hq q)
        exact hend _ _ _ hR2 (by omega) (by omega)
      by_cases c4 : sw = 3
      · skip
        rw [c4] at hj
        obtain rfl : j = 3 := hj.symm
        cases ht
        obtain ⟨r1, r2, e1, e2, hq, hR2⟩ := hp.2.2.2.1 A hR (xs (Int32.ofNat (5 * t) + 1).toNatClampNeg)
        refine v_aload_n E dL_law_217 rfl ?_
        refine v_aload_n E dL_law_218 rfl ?_
        refine v_iload_n E dL_law_219 rfl ?_
        refine v_iconst (v := 1) E dL_law_220 (by decide) ?_
        refine v_iadd E dL_law_221 ?_
        refine v_sld E hX hbl hb1 dL_law_222 ?_
        refine v_callV (na := 1) (As := [vI (xs (Int32.ofNat (5 * t) + 1).toNatClampNeg)]) (rest := []) (ci := 11) (q := (RX11, TX11, 8)) E gwL_27 (by decide +kernel) rfl rfl (by decide) (kX11_told l e1).2 (kX11_told l e1).1 rfl rfl dL_law_223 ⟨Nat.le_of_ble_eq_true rfl, Nat.le_of_ble_eq_true rfl⟩ ⟨(by show _ ≤ 600000; omega), (by show _ ≤ 7302250; omega)⟩ (Nat.le_of_ble_eq_true rfl) ?_
        refine v_aload_n E dL_law_226 rfl ?_
        refine v_aload_n E dL_law_227 rfl ?_
        refine v_iload_n E dL_law_228 rfl ?_
        refine v_iconst (v := 1) E dL_law_229 (by decide) ?_
        refine v_iadd E dL_law_230 ?_
        refine v_sld E hX hbl hb1 dL_law_231 ?_
        refine v_callV (na := 1) (As := [vI (xs (Int32.ofNat (5 * t) + 1).toNatClampNeg)]) (rest := [vI r1.1]) (ci := 12) (q := (RX12, TX12, 20)) E gwL_30 (by decide +kernel) rfl rfl (by decide) (kX12_told l e2).2 (kX12_told l e2).1 rfl rfl dL_law_232 ⟨Nat.le_of_ble_eq_true rfl, Nat.le_of_ble_eq_true rfl⟩ ⟨(by show _ ≤ 600000; omega), (by show _ ≤ 7302250; omega)⟩ (Nat.le_of_ble_eq_true rfl) ?_
        refine v_icmp_eq (tgt := 1095) E dL_law_235 (by decide) (fun _ => ?_) (fun q => absurd hq q)
        exact hend _ _ _ hR2 (by omega) (by omega)
      by_cases c5 : sw = 4
      · skip
        rw [c5] at hj
        obtain rfl : j = 4 := hj.symm
        cases ht
        obtain ⟨r1, r2, e1, e2, hq, hR2⟩ := hp.2.2.2.2.1 A hR (xs (Int32.ofNat (5 * t) + 1).toNatClampNeg) (xs (Int32.ofNat (5 * t) + 2).toNatClampNeg)
        refine v_aload_n E dL_law_240 rfl ?_
        refine v_aload_n E dL_law_241 rfl ?_
        refine v_iload_n E dL_law_242 rfl ?_
        refine v_iconst (v := 1) E dL_law_243 (by decide) ?_
        refine v_iadd E dL_law_244 ?_
        refine v_sld E hX hbl hb1 dL_law_245 ?_
        refine v_aload_n E dL_law_246 rfl ?_
        refine v_iload_n E dL_law_247 rfl ?_
        refine v_iconst (v := 2) E dL_law_248 (by decide) ?_
        refine v_iadd E dL_law_249 ?_
        refine v_sld E hX hbl hb2 dL_law_250 ?_
        refine v_callV (na := 2) (As := [vI (xs (Int32.ofNat (5 * t) + 1).toNatClampNeg), vI (xs (Int32.ofNat (5 * t) + 2).toNatClampNeg)]) (rest := []) (ci := 11) (q := (RX11, TX11, 8)) E gwL_31 (by decide +kernel) rfl rfl (by decide) (kX11_word l e1).2 (kX11_word l e1).1 rfl rfl dL_law_251 ⟨Nat.le_of_ble_eq_true rfl, Nat.le_of_ble_eq_true rfl⟩ ⟨(by show _ ≤ 600000; omega), (by show _ ≤ 7302250; omega)⟩ (Nat.le_of_ble_eq_true rfl) ?_
        refine v_aload_n E dL_law_254 rfl ?_
        refine v_aload_n E dL_law_255 rfl ?_
        refine v_iload_n E dL_law_256 rfl ?_
        refine v_iconst (v := 1) E dL_law_257 (by decide) ?_
        refine v_iadd E dL_law_258 ?_
        refine v_sld E hX hbl hb1 dL_law_259 ?_
        refine v_aload_n E dL_law_260 rfl ?_
        refine v_iload_n E dL_law_261 rfl ?_
        refine v_iconst (v := 2) E dL_law_262 (by decide) ?_
        refine v_iadd E dL_law_263 ?_
        refine v_sld E hX hbl hb2 dL_law_264 ?_
        refine v_callV (na := 2) (As := [vI (xs (Int32.ofNat (5 * t) + 1).toNatClampNeg), vI (xs (Int32.ofNat (5 * t) + 2).toNatClampNeg)]) (rest := [vI r1.1]) (ci := 12) (q := (RX12, TX12, 20)) E gwL_35 (by decide +kernel) rfl rfl (by decide) (kX12_word l e2).2 (kX12_word l e2).1 rfl rfl dL_law_265 ⟨Nat.le_of_ble_eq_true rfl, Nat.le_of_ble_eq_true rfl⟩ ⟨(by show _ ≤ 600000; omega), (by show _ ≤ 7302250; omega)⟩ (Nat.le_of_ble_eq_true rfl) ?_
        refine v_icmp_eq (tgt := 1095) E dL_law_268 (by decide) (fun _ => ?_) (fun q => absurd hq q)
        exact hend _ _ _ hR2 (by omega) (by omega)
      by_cases c6 : sw = 5
      · skip
        rw [c6] at hj
        obtain rfl : j = 5 := hj.symm
        cases ht
        obtain ⟨r1, r2, e1, e2, hq, hR2⟩ := hp.2.2.2.2.2.1 A hR (xs (Int32.ofNat (5 * t) + 1).toNatClampNeg)
        refine v_aload_n E dL_law_273 rfl ?_
        refine v_aload_n E dL_law_274 rfl ?_
        refine v_iload_n E dL_law_275 rfl ?_
        refine v_iconst (v := 1) E dL_law_276 (by decide) ?_
        refine v_iadd E dL_law_277 ?_
        refine v_sld E hX hbl hb1 dL_law_278 ?_
        refine v_callV (na := 1) (As := [vI (xs (Int32.ofNat (5 * t) + 1).toNatClampNeg)]) (rest := []) (ci := 11) (q := (RX11, TX11, 8)) E gwL_36 (by decide +kernel) rfl rfl (by decide) (kX11_code l e1).2 (kX11_code l e1).1 rfl rfl dL_law_279 ⟨Nat.le_of_ble_eq_true rfl, Nat.le_of_ble_eq_true rfl⟩ ⟨(by show _ ≤ 600000; omega), (by show _ ≤ 7302250; omega)⟩ (Nat.le_of_ble_eq_true rfl) ?_
        refine v_aload_n E dL_law_282 rfl ?_
        refine v_aload_n E dL_law_283 rfl ?_
        refine v_iload_n E dL_law_284 rfl ?_
        refine v_iconst (v := 1) E dL_law_285 (by decide) ?_
        refine v_iadd E dL_law_286 ?_
        refine v_sld E hX hbl hb1 dL_law_287 ?_
        refine v_callV (na := 1) (As := [vI (xs (Int32.ofNat (5 * t) + 1).toNatClampNeg)]) (rest := [vJ r1.1]) (ci := 12) (q := (RX12, TX12, 20)) E gwL_40 (by decide +kernel) rfl rfl (by decide) (kX12_code l e2).2 (kX12_code l e2).1 rfl rfl dL_law_288 ⟨Nat.le_of_ble_eq_true rfl, Nat.le_of_ble_eq_true rfl⟩ ⟨(by show _ ≤ 600000; omega), (by show _ ≤ 7302250; omega)⟩ (Nat.le_of_ble_eq_true rfl) ?_
        refine v_lcmp E dL_law_291 ?_
        refine v_if_eq (tgt := 1095) E dL_law_292 (by decide) (fun _ => ?_) (fun q => absurd (by rw [hq]; exact lg_cmp_self _) q)
        exact hend _ _ _ hR2 (by omega) (by omega)
      by_cases c7 : sw = 6
      · skip
        rw [c7] at hj
        obtain rfl : j = 6 := hj.symm
        cases ht
        obtain ⟨r1, r2, e1, e2, hq, hR2⟩ := hp.2.2.2.2.2.2.1 A hR (xs (Int32.ofNat (5 * t) + 1).toNatClampNeg) (xs (Int32.ofNat (5 * t) + 2).toNatClampNeg)
        refine v_aload_n E dL_law_297 rfl ?_
        refine v_aload_n E dL_law_298 rfl ?_
        refine v_iload_n E dL_law_299 rfl ?_
        refine v_iconst (v := 1) E dL_law_300 (by decide) ?_
        refine v_iadd E dL_law_301 ?_
        refine v_sld E hX hbl hb1 dL_law_302 ?_
        refine v_aload_n E dL_law_303 rfl ?_
        refine v_iload_n E dL_law_304 rfl ?_
        refine v_iconst (v := 2) E dL_law_305 (by decide) ?_
        refine v_iadd E dL_law_306 ?_
        refine v_sld E hX hbl hb2 dL_law_307 ?_
        refine v_callV (na := 2) (As := [vI (xs (Int32.ofNat (5 * t) + 1).toNatClampNeg), vI (xs (Int32.ofNat (5 * t) + 2).toNatClampNeg)]) (rest := []) (ci := 11) (q := (RX11, TX11, 8)) E gwL_41 (by decide +kernel) rfl rfl (by decide) (kX11_at l e1).2 (kX11_at l e1).1 rfl rfl dL_law_308 ⟨Nat.le_of_ble_eq_true rfl, Nat.le_of_ble_eq_true rfl⟩ ⟨(by show _ ≤ 600000; omega), (by show _ ≤ 7302250; omega)⟩ (Nat.le_of_ble_eq_true rfl) ?_
        refine v_aload_n E dL_law_311 rfl ?_
        refine v_aload_n E dL_law_312 rfl ?_
        refine v_iload_n E dL_law_313 rfl ?_
        refine v_iconst (v := 1) E dL_law_314 (by decide) ?_
        refine v_iadd E dL_law_315 ?_
        refine v_sld E hX hbl hb1 dL_law_316 ?_
        refine v_aload_n E dL_law_317 rfl ?_
        refine v_iload_n E dL_law_318 rfl ?_
        refine v_iconst (v := 2) E dL_law_319 (by decide) ?_
        refine v_iadd E dL_law_320 ?_
        refine v_sld E hX hbl hb2 dL_law_321 ?_
        refine v_callV (na := 2) (As := [vI (xs (Int32.ofNat (5 * t) + 1).toNatClampNeg), vI (xs (Int32.ofNat (5 * t) + 2).toNatClampNeg)]) (rest := [vI r1]) (ci := 12) (q := (RX12, TX12, 20)) E gwL_44 (by decide +kernel) rfl rfl (by decide) (kX12_at l e2).2 (kX12_at l e2).1 rfl rfl dL_law_322 ⟨Nat.le_of_ble_eq_true rfl, Nat.le_of_ble_eq_true rfl⟩ ⟨(by show _ ≤ 600000; omega), (by show _ ≤ 7302250; omega)⟩ (Nat.le_of_ble_eq_true rfl) ?_
        refine v_icmp_eq (tgt := 1095) E dL_law_325 (by decide) (fun _ => ?_) (fun q => absurd hq q)
        exact hend _ _ _ hR2 (by omega) (by omega)
      by_cases c8 : sw = 7
      · skip
        rw [c8] at hj
        obtain rfl : j = 7 := hj.symm
        cases ht
        obtain ⟨r1, r2, e1, e2, hq, hR2⟩ := hp.2.2.2.2.2.2.2.1 A hR (xs (Int32.ofNat (5 * t) + 1).toNatClampNeg) (xs (Int32.ofNat (5 * t) + 2).toNatClampNeg) (xs (Int32.ofNat (5 * t) + 3).toNatClampNeg)
        refine v_aload_n E dL_law_330 rfl ?_
        refine v_aload_n E dL_law_331 rfl ?_
        refine v_iload_n E dL_law_332 rfl ?_
        refine v_iconst (v := 1) E dL_law_333 (by decide) ?_
        refine v_iadd E dL_law_334 ?_
        refine v_sld E hX hbl hb1 dL_law_335 ?_
        refine v_aload_n E dL_law_336 rfl ?_
        refine v_iload_n E dL_law_337 rfl ?_
        refine v_iconst (v := 2) E dL_law_338 (by decide) ?_
        refine v_iadd E dL_law_339 ?_
        refine v_sld E hX hbl hb2 dL_law_340 ?_
        refine v_aload_n E dL_law_341 rfl ?_
        refine v_iload_n E dL_law_342 rfl ?_
        refine v_iconst (v := 3) E dL_law_343 (by decide) ?_
        refine v_iadd E dL_law_344 ?_
        refine v_sld E hX hbl hb3 dL_law_345 ?_
        refine v_callV (na := 3) (As := [vI (xs (Int32.ofNat (5 * t) + 1).toNatClampNeg), vI (xs (Int32.ofNat (5 * t) + 2).toNatClampNeg), vI (xs (Int32.ofNat (5 * t) + 3).toNatClampNeg)]) (rest := []) (ci := 11) (q := (RX11, TX11, 8)) E gwL_45 (by decide +kernel) rfl rfl (by decide) (kX11_letter l e1).2 (kX11_letter l e1).1 rfl rfl dL_law_346 ⟨Nat.le_of_ble_eq_true rfl, Nat.le_of_ble_eq_true rfl⟩ ⟨(by show _ ≤ 600000; omega), (by show _ ≤ 7302250; omega)⟩ (Nat.le_of_ble_eq_true rfl) ?_
        refine v_aload_n E dL_law_349 rfl ?_
        refine v_aload_n E dL_law_350 rfl ?_
        refine v_iload_n E dL_law_351 rfl ?_
        refine v_iconst (v := 1) E dL_law_352 (by decide) ?_
        refine v_iadd E dL_law_353 ?_
        refine v_sld E hX hbl hb1 dL_law_354 ?_
        refine v_aload_n E dL_law_355 rfl ?_
        refine v_iload_n E dL_law_356 rfl ?_
        refine v_iconst (v := 2) E dL_law_357 (by decide) ?_
        refine v_iadd E dL_law_358 ?_
        refine v_sld E hX hbl hb2 dL_law_359 ?_
        refine v_aload_n E dL_law_360 rfl ?_
        refine v_iload_n E dL_law_361 rfl ?_
        refine v_iconst (v := 3) E dL_law_362 (by decide) ?_
        refine v_iadd E dL_law_363 ?_
        refine v_sld E hX hbl hb3 dL_law_364 ?_
        refine v_callV (na := 3) (As := [vI (xs (Int32.ofNat (5 * t) + 1).toNatClampNeg), vI (xs (Int32.ofNat (5 * t) + 2).toNatClampNeg), vI (xs (Int32.ofNat (5 * t) + 3).toNatClampNeg)]) (rest := [vI r1.1]) (ci := 12) (q := (RX12, TX12, 20)) E gwL_49 (by decide +kernel) rfl rfl (by decide) (kX12_letter l e2).2 (kX12_letter l e2).1 rfl rfl dL_law_365 ⟨Nat.le_of_ble_eq_true rfl, Nat.le_of_ble_eq_true rfl⟩ ⟨(by show _ ≤ 600000; omega), (by show _ ≤ 7302250; omega)⟩ (Nat.le_of_ble_eq_true rfl) ?_
        refine v_icmp_eq (tgt := 1095) E dL_law_368 (by decide) (fun _ => ?_) (fun q => absurd hq q)
        exact hend _ _ _ hR2 (by omega) (by omega)
      by_cases c9 : sw = 8
      · skip
        rw [c9] at hj
        obtain rfl : j = 8 := hj.symm
        cases ht
        obtain ⟨r1, r2, e1, e2, hq, hR2⟩ := hp.2.2.2.2.2.2.2.2.1 A hR (xs (Int32.ofNat (5 * t) + 1).toNatClampNeg) (xs (Int32.ofNat (5 * t) + 2).toNatClampNeg) (xs (Int32.ofNat (5 * t) + 3).toNatClampNeg)
        refine v_aload_n E dL_law_373 rfl ?_
        refine v_aload_n E dL_law_374 rfl ?_
        refine v_iload_n E dL_law_375 rfl ?_
        refine v_iconst (v := 1) E dL_law_376 (by decide) ?_
        refine v_iadd E dL_law_377 ?_
        refine v_sld E hX hbl hb1 dL_law_378 ?_
        refine v_aload_n E dL_law_379 rfl ?_
        refine v_iload_n E dL_law_380 rfl ?_
        refine v_iconst (v := 2) E dL_law_381 (by decide) ?_
        refine v_iadd E dL_law_382 ?_
        refine v_sld E hX hbl hb2 dL_law_383 ?_
        refine v_aload_n E dL_law_384 rfl ?_
        refine v_iload_n E dL_law_385 rfl ?_
        refine v_iconst (v := 3) E dL_law_386 (by decide) ?_
        refine v_iadd E dL_law_387 ?_
        refine v_sld E hX hbl hb3 dL_law_388 ?_
        refine v_callV (na := 3) (As := [vI (xs (Int32.ofNat (5 * t) + 1).toNatClampNeg), vI (xs (Int32.ofNat (5 * t) + 2).toNatClampNeg), vI (xs (Int32.ofNat (5 * t) + 3).toNatClampNeg)]) (rest := []) (ci := 11) (q := (RX11, TX11, 8)) E gwL_50 (by decide +kernel) rfl rfl (by decide) (kX11_face l e1).2 (kX11_face l e1).1 rfl rfl dL_law_389 ⟨Nat.le_of_ble_eq_true rfl, Nat.le_of_ble_eq_true rfl⟩ ⟨(by show _ ≤ 600000; omega), (by show _ ≤ 7302250; omega)⟩ (Nat.le_of_ble_eq_true rfl) ?_
        refine v_aload_n E dL_law_392 rfl ?_
        refine v_aload_n E dL_law_393 rfl ?_
        refine v_iload_n E dL_law_394 rfl ?_
        refine v_iconst (v := 1) E dL_law_395 (by decide) ?_
        refine v_iadd E dL_law_396 ?_
        refine v_sld E hX hbl hb1 dL_law_397 ?_
        refine v_aload_n E dL_law_398 rfl ?_
        refine v_iload_n E dL_law_399 rfl ?_
        refine v_iconst (v := 2) E dL_law_400 (by decide) ?_
        refine v_iadd E dL_law_401 ?_
        refine v_sld E hX hbl hb2 dL_law_402 ?_
        refine v_aload_n E dL_law_403 rfl ?_
        refine v_iload_n E dL_law_404 rfl ?_
        refine v_iconst (v := 3) E dL_law_405 (by decide) ?_
        refine v_iadd E dL_law_406 ?_
        refine v_sld E hX hbl hb3 dL_law_407 ?_
        refine v_callV (na := 3) (As := [vI (xs (Int32.ofNat (5 * t) + 1).toNatClampNeg), vI (xs (Int32.ofNat (5 * t) + 2).toNatClampNeg), vI (xs (Int32.ofNat (5 * t) + 3).toNatClampNeg)]) (rest := [vI r1.1]) (ci := 12) (q := (RX12, TX12, 20)) E gwL_53 (by decide +kernel) rfl rfl (by decide) (kX12_face l e2).2 (kX12_face l e2).1 rfl rfl dL_law_408 ⟨Nat.le_of_ble_eq_true rfl, Nat.le_of_ble_eq_true rfl⟩ ⟨(by show _ ≤ 600000; omega), (by show _ ≤ 7302250; omega)⟩ (Nat.le_of_ble_eq_true rfl) ?_
        refine v_icmp_eq (tgt := 1095) E dL_law_411 (by decide) (fun _ => ?_) (fun q => absurd hq q)
        exact hend _ _ _ hR2 (by omega) (by omega)
      by_cases c10 : sw = 9
      · skip
        rw [c10] at hj
        obtain rfl : j = 9 := hj.symm
        cases ht
        obtain ⟨r1, r2, e1, e2, hq, hR2⟩ := hp.2.2.2.2.2.2.2.2.2.1 A hR (xs (Int32.ofNat (5 * t) + 1).toNatClampNeg) (xs (Int32.ofNat (5 * t) + 2).toNatClampNeg)
        refine v_aload_n E dL_law_416 rfl ?_
        refine v_aload_n E dL_law_417 rfl ?_
        refine v_iload_n E dL_law_418 rfl ?_
        refine v_iconst (v := 1) E dL_law_419 (by decide) ?_
        refine v_iadd E dL_law_420 ?_
        refine v_sld E hX hbl hb1 dL_law_421 ?_
        refine v_aload_n E dL_law_422 rfl ?_
        refine v_iload_n E dL_law_423 rfl ?_
        refine v_iconst (v := 2) E dL_law_424 (by decide) ?_
        refine v_iadd E dL_law_425 ?_
        refine v_sld E hX hbl hb2 dL_law_426 ?_
        refine v_callV (na := 2) (As := [vI (xs (Int32.ofNat (5 * t) + 1).toNatClampNeg), vI (xs (Int32.ofNat (5 * t) + 2).toNatClampNeg)]) (rest := []) (ci := 11) (q := (RX11, TX11, 8)) E gwL_54 (by decide +kernel) rfl rfl (by decide) (kX11_rings l e1).2 (kX11_rings l e1).1 rfl rfl dL_law_427 ⟨Nat.le_of_ble_eq_true rfl, Nat.le_of_ble_eq_true rfl⟩ ⟨(by show _ ≤ 600000; omega), (by show _ ≤ 7302250; omega)⟩ (Nat.le_of_ble_eq_true rfl) ?_
        refine v_aload_n E dL_law_430 rfl ?_
        refine v_aload_n E dL_law_431 rfl ?_
        refine v_iload_n E dL_law_432 rfl ?_
        refine v_iconst (v := 1) E dL_law_433 (by decide) ?_
        refine v_iadd E dL_law_434 ?_
        refine v_sld E hX hbl hb1 dL_law_435 ?_
        refine v_aload_n E dL_law_436 rfl ?_
        refine v_iload_n E dL_law_437 rfl ?_
        refine v_iconst (v := 2) E dL_law_438 (by decide) ?_
        refine v_iadd E dL_law_439 ?_
        refine v_sld E hX hbl hb2 dL_law_440 ?_
        refine v_callV (na := 2) (As := [vI (xs (Int32.ofNat (5 * t) + 1).toNatClampNeg), vI (xs (Int32.ofNat (5 * t) + 2).toNatClampNeg)]) (rest := [vI r1.1]) (ci := 12) (q := (RX12, TX12, 20)) E gwL_57 (by decide +kernel) rfl rfl (by decide) (kX12_rings l e2).2 (kX12_rings l e2).1 rfl rfl dL_law_441 ⟨Nat.le_of_ble_eq_true rfl, Nat.le_of_ble_eq_true rfl⟩ ⟨(by show _ ≤ 600000; omega), (by show _ ≤ 7302250; omega)⟩ (Nat.le_of_ble_eq_true rfl) ?_
        refine v_icmp_eq (tgt := 1095) E dL_law_444 (by decide) (fun _ => ?_) (fun q => absurd hq q)
        exact hend _ _ _ hR2 (by omega) (by omega)
      by_cases c11 : sw = 10
      · skip
        rw [c11] at hj
        obtain rfl : j = 10 := hj.symm
        cases ht
        obtain ⟨r1, r2, e1, e2, hq, hR2⟩ := hp.2.2.2.2.2.2.2.2.2.2.1 A hR (xs (Int32.ofNat (5 * t) + 1).toNatClampNeg) (xs (Int32.ofNat (5 * t) + 2).toNatClampNeg)
        refine v_aload_n E dL_law_449 rfl ?_
        refine v_aload_n E dL_law_450 rfl ?_
        refine v_iload_n E dL_law_451 rfl ?_
        refine v_iconst (v := 1) E dL_law_452 (by decide) ?_
        refine v_iadd E dL_law_453 ?_
        refine v_sld E hX hbl hb1 dL_law_454 ?_
        refine v_aload_n E dL_law_455 rfl ?_
        refine v_iload_n E dL_law_456 rfl ?_
        refine v_iconst (v := 2) E dL_law_457 (by decide) ?_
        refine v_iadd E dL_law_458 ?_
        refine v_sld E hX hbl hb2 dL_law_459 ?_
        refine v_callV (na := 2) (As := [vI (xs (Int32.ofNat (5 * t) + 1).toNatClampNeg), vI (xs (Int32.ofNat (5 * t) + 2).toNatClampNeg)]) (rest := []) (ci := 11) (q := (RX11, TX11, 8)) E gwL_58 (by decide +kernel) rfl rfl (by decide) (kX11_states l e1).2 (kX11_states l e1).1 rfl rfl dL_law_460 ⟨Nat.le_of_ble_eq_true rfl, Nat.le_of_ble_eq_true rfl⟩ ⟨(by show _ ≤ 600000; omega), (by show _ ≤ 7302250; omega)⟩ (Nat.le_of_ble_eq_true rfl) ?_
        refine v_aload_n E dL_law_463 rfl ?_
        refine v_aload_n E dL_law_464 rfl ?_
        refine v_iload_n E dL_law_465 rfl ?_
        refine v_iconst (v := 1) E dL_law_466 (by decide) ?_
        refine v_iadd E dL_law_467 ?_
        refine v_sld E hX hbl hb1 dL_law_468 ?_
        refine v_aload_n E dL_law_469 rfl ?_
        refine v_iload_n E dL_law_470 rfl ?_
        refine v_iconst (v := 2) E dL_law_471 (by decide) ?_
        refine v_iadd E dL_law_472 ?_
        refine v_sld E hX hbl hb2 dL_law_473 ?_
        refine v_callV (na := 2) (As := [vI (xs (Int32.ofNat (5 * t) + 1).toNatClampNeg), vI (xs (Int32.ofNat (5 * t) + 2).toNatClampNeg)]) (rest := [vI r1.1]) (ci := 12) (q := (RX12, TX12, 20)) E gwL_61 (by decide +kernel) rfl rfl (by decide) (kX12_states l e2).2 (kX12_states l e2).1 rfl rfl dL_law_474 ⟨Nat.le_of_ble_eq_true rfl, Nat.le_of_ble_eq_true rfl⟩ ⟨(by show _ ≤ 600000; omega), (by show _ ≤ 7302250; omega)⟩ (Nat.le_of_ble_eq_true rfl) ?_
        refine v_icmp_eq (tgt := 1095) E dL_law_477 (by decide) (fun _ => ?_) (fun q => absurd hq q)
        exact hend _ _ _ hR2 (by omega) (by omega)
      by_cases c12 : sw = 11
      · skip
        rw [c12] at hj
        obtain rfl : j = 11 := hj.symm
        cases ht
        obtain ⟨r1, r2, e1, e2, hq, hR2⟩ := hp.2.2.2.2.2.2.2.2.2.2.2.1 A hR (xs (Int32.ofNat (5 * t) + 1).toNatClampNeg) (xs (Int32.ofNat (5 * t) + 2).toNatClampNeg)
        refine v_aload_n E dL_law_482 rfl ?_
        refine v_aload_n E dL_law_483 rfl ?_
        refine v_iload_n E dL_law_484 rfl ?_
        refine v_iconst (v := 1) E dL_law_485 (by decide) ?_
        refine v_iadd E dL_law_486 ?_
        refine v_sld E hX hbl hb1 dL_law_487 ?_
        refine v_aload_n E dL_law_488 rfl ?_
        refine v_iload_n E dL_law_489 rfl ?_
        refine v_iconst (v := 2) E dL_law_490 (by decide) ?_
        refine v_iadd E dL_law_491 ?_
        refine v_sld E hX hbl hb2 dL_law_492 ?_
        refine v_callV (na := 2) (As := [vI (xs (Int32.ofNat (5 * t) + 1).toNatClampNeg), vI (xs (Int32.ofNat (5 * t) + 2).toNatClampNeg)]) (rest := []) (ci := 11) (q := (RX11, TX11, 8)) E gwL_62 (by decide +kernel) rfl rfl (by decide) (kX11_same l e1).2 (kX11_same l e1).1 rfl rfl dL_law_493 ⟨Nat.le_of_ble_eq_true rfl, Nat.le_of_ble_eq_true rfl⟩ ⟨(by show _ ≤ 600000; omega), (by show _ ≤ 7302250; omega)⟩ (Nat.le_of_ble_eq_true rfl) ?_
        refine v_aload_n E dL_law_496 rfl ?_
        refine v_aload_n E dL_law_497 rfl ?_
        refine v_iload_n E dL_law_498 rfl ?_
        refine v_iconst (v := 1) E dL_law_499 (by decide) ?_
        refine v_iadd E dL_law_500 ?_
        refine v_sld E hX hbl hb1 dL_law_501 ?_
        refine v_aload_n E dL_law_502 rfl ?_
        refine v_iload_n E dL_law_503 rfl ?_
        refine v_iconst (v := 2) E dL_law_504 (by decide) ?_
        refine v_iadd E dL_law_505 ?_
        refine v_sld E hX hbl hb2 dL_law_506 ?_
        refine v_callV (na := 2) (As := [vI (xs (Int32.ofNat (5 * t) + 1).toNatClampNeg), vI (xs (Int32.ofNat (5 * t) + 2).toNatClampNeg)]) (rest := [vI r1.1]) (ci := 12) (q := (RX12, TX12, 20)) E gwL_65 (by decide +kernel) rfl rfl (by decide) (kX12_same l e2).2 (kX12_same l e2).1 rfl rfl dL_law_507 ⟨Nat.le_of_ble_eq_true rfl, Nat.le_of_ble_eq_true rfl⟩ ⟨(by show _ ≤ 600000; omega), (by show _ ≤ 7302250; omega)⟩ (Nat.le_of_ble_eq_true rfl) ?_
        refine v_icmp_eq (tgt := 1095) E dL_law_510 (by decide) (fun _ => ?_) (fun q => absurd hq q)
        exact hend _ _ _ hR2 (by omega) (by omega)
      by_cases c13 : sw = 12
      · skip
        rw [c13] at hj
        obtain rfl : j = 12 := hj.symm
        cases ht
        obtain ⟨r1, r2, e1, e2, hq, hR2⟩ := hp.2.2.2.2.2.2.2.2.2.2.2.2.1 A hR (xs (Int32.ofNat (5 * t) + 1).toNatClampNeg) (xs (Int32.ofNat (5 * t) + 2).toNatClampNeg)
        refine v_aload_n E dL_law_515 rfl ?_
        refine v_aload_n E dL_law_516 rfl ?_
        refine v_iload_n E dL_law_517 rfl ?_
        refine v_iconst (v := 1) E dL_law_518 (by decide) ?_
        refine v_iadd E dL_law_519 ?_
        refine v_sld E hX hbl hb1 dL_law_520 ?_
        refine v_aload_n E dL_law_521 rfl ?_
        refine v_iload_n E dL_law_522 rfl ?_
        refine v_iconst (v := 2) E dL_law_523 (by decide) ?_
        refine v_iadd E dL_law_524 ?_
        refine v_sld E hX hbl hb2 dL_law_525 ?_
        refine v_callV (na := 2) (As := [vI (xs (Int32.ofNat (5 * t) + 1).toNatClampNeg), vI (xs (Int32.ofNat (5 * t) + 2).toNatClampNeg)]) (rest := []) (ci := 11) (q := (RX11, TX11, 8)) E gwL_66 (by decide +kernel) rfl rfl (by decide) (kX11_signs l e1).2 (kX11_signs l e1).1 rfl rfl dL_law_526 ⟨Nat.le_of_ble_eq_true rfl, Nat.le_of_ble_eq_true rfl⟩ ⟨(by show _ ≤ 600000; omega), (by show _ ≤ 7302250; omega)⟩ (Nat.le_of_ble_eq_true rfl) ?_
        refine v_aload_n E dL_law_529 rfl ?_
        refine v_aload_n E dL_law_530 rfl ?_
        refine v_iload_n E dL_law_531 rfl ?_
        refine v_iconst (v := 1) E dL_law_532 (by decide) ?_
        refine v_iadd E dL_law_533 ?_
        refine v_sld E hX hbl hb1 dL_law_534 ?_
        refine v_aload_n E dL_law_535 rfl ?_
        refine v_iload_n E dL_law_536 rfl ?_
        refine v_iconst (v := 2) E dL_law_537 (by decide) ?_
        refine v_iadd E dL_law_538 ?_
        refine v_sld E hX hbl hb2 dL_law_539 ?_
        refine v_callV (na := 2) (As := [vI (xs (Int32.ofNat (5 * t) + 1).toNatClampNeg), vI (xs (Int32.ofNat (5 * t) + 2).toNatClampNeg)]) (rest := [vI r1.1]) (ci := 12) (q := (RX12, TX12, 20)) E gwL_69 (by decide +kernel) rfl rfl (by decide) (kX12_signs l e2).2 (kX12_signs l e2).1 rfl rfl dL_law_540 ⟨Nat.le_of_ble_eq_true rfl, Nat.le_of_ble_eq_true rfl⟩ ⟨(by show _ ≤ 600000; omega), (by show _ ≤ 7302250; omega)⟩ (Nat.le_of_ble_eq_true rfl) ?_
        refine v_icmp_eq (tgt := 1095) E dL_law_543 (by decide) (fun _ => ?_) (fun q => absurd hq q)
        exact hend _ _ _ hR2 (by omega) (by omega)
      by_cases c14 : sw = 13
      · skip
        rw [c14] at hj
        obtain rfl : j = 13 := hj.symm
        cases ht
        obtain ⟨r1, r2, e1, e2, hq, hR2⟩ := hp.2.2.2.2.2.2.2.2.2.2.2.2.2.1 A hR (xs (Int32.ofNat (5 * t) + 1).toNatClampNeg)
        refine v_aload_n E dL_law_548 rfl ?_
        refine v_aload_n E dL_law_549 rfl ?_
        refine v_iload_n E dL_law_550 rfl ?_
        refine v_iconst (v := 1) E dL_law_551 (by decide) ?_
        refine v_iadd E dL_law_552 ?_
        refine v_sld E hX hbl hb1 dL_law_553 ?_
        refine v_callV (na := 1) (As := [vI (xs (Int32.ofNat (5 * t) + 1).toNatClampNeg)]) (rest := []) (ci := 11) (q := (RX11, TX11, 8)) E gwL_70 (by decide +kernel) rfl rfl (by decide) (kX11_draw l e1).2 (kX11_draw l e1).1 rfl rfl dL_law_554 ⟨Nat.le_of_ble_eq_true rfl, Nat.le_of_ble_eq_true rfl⟩ ⟨(by show _ ≤ 600000; omega), (by show _ ≤ 7302250; omega)⟩ (Nat.le_of_ble_eq_true rfl) ?_
        refine v_aload_n E dL_law_557 rfl ?_
        refine v_aload_n E dL_law_558 rfl ?_
        refine v_iload_n E dL_law_559 rfl ?_
        refine v_iconst (v := 1) E dL_law_560 (by decide) ?_
        refine v_iadd E dL_law_561 ?_
        refine v_sld E hX hbl hb1 dL_law_562 ?_
        refine v_callV (na := 1) (As := [vI (xs (Int32.ofNat (5 * t) + 1).toNatClampNeg)]) (rest := [vI r1.1]) (ci := 12) (q := (RX12, TX12, 20)) E gwL_73 (by decide +kernel) rfl rfl (by decide) (kX12_draw l e2).2 (kX12_draw l e2).1 rfl rfl dL_law_563 ⟨Nat.le_of_ble_eq_true rfl, Nat.le_of_ble_eq_true rfl⟩ ⟨(by show _ ≤ 600000; omega), (by show _ ≤ 7302250; omega)⟩ (Nat.le_of_ble_eq_true rfl) ?_
        refine v_icmp_eq (tgt := 1095) E dL_law_566 (by decide) (fun _ => ?_) (fun q => absurd hq q)
        exact hend _ _ _ hR2 (by omega) (by omega)
      by_cases c15 : sw = 14
      · skip
        rw [c15] at hj
        obtain rfl : j = 14 := hj.symm
        cases ht
        by_cases cz : (xs (Int32.ofNat (5 * t) + 3).toNatClampNeg) = 0
        · obtain ⟨r1, r2, e1, e2, hq, hR2⟩ := hp.2.2.2.2.2.2.2.2.2.2.2.2.2.2.1 A hR (xs (Int32.ofNat (5 * t) + 1).toNatClampNeg) (xs (Int32.ofNat (5 * t) + 2).toNatClampNeg) 0 (Or.inl rfl)
          refine v_aload_n E dL_law_571 rfl ?_
          refine v_aload_n E dL_law_572 rfl ?_
          refine v_iload_n E dL_law_573 rfl ?_
          refine v_iconst (v := 1) E dL_law_574 (by decide) ?_
          refine v_iadd E dL_law_575 ?_
          refine v_sld E hX hbl hb1 dL_law_576 ?_
          refine v_aload_n E dL_law_577 rfl ?_
          refine v_iload_n E dL_law_578 rfl ?_
          refine v_iconst (v := 2) E dL_law_579 (by decide) ?_
          refine v_iadd E dL_law_580 ?_
          refine v_sld E hX hbl hb2 dL_law_581 ?_
          refine v_aload_n E dL_law_582 rfl ?_
          refine v_iload_n E dL_law_583 rfl ?_
          refine v_iconst (v := 3) E dL_law_584 (by decide) ?_
          refine v_iadd E dL_law_585 ?_
          refine v_sld E hX hbl hb3 dL_law_586 ?_
          refine v_if_eq (tgt := 594) E dL_law_587 (by decide) (fun _ => ?_) (fun q => absurd cz q)
          refine v_iconst (v := 0) E dL_law_594 (by decide) ?_
          refine v_callV (na := 3) (As := [vI (xs (Int32.ofNat (5 * t) + 1).toNatClampNeg), vI (xs (Int32.ofNat (5 * t) + 2).toNatClampNeg), vI 0]) (rest := []) (ci := 11) (q := (RX11, TX11, 8)) E gwL_74 (by decide +kernel) rfl rfl (by decide) (kX11_turn l e1).2 (kX11_turn l e1).1 rfl rfl dL_law_595 ⟨Nat.le_of_ble_eq_true rfl, Nat.le_of_ble_eq_true rfl⟩ ⟨(by show _ ≤ 600000; omega), (by show _ ≤ 7302250; omega)⟩ (Nat.le_of_ble_eq_true rfl) ?_
          refine v_aload_n E dL_law_598 rfl ?_
          refine v_aload_n E dL_law_599 rfl ?_
          refine v_iload_n E dL_law_600 rfl ?_
          refine v_iconst (v := 1) E dL_law_601 (by decide) ?_
          refine v_iadd E dL_law_602 ?_
          refine v_sld E hX hbl hb1 dL_law_603 ?_
          refine v_aload_n E dL_law_604 rfl ?_
          refine v_iload_n E dL_law_605 rfl ?_
          refine v_iconst (v := 2) E dL_law_606 (by decide) ?_
          refine v_iadd E dL_law_607 ?_
          refine v_sld E hX hbl hb2 dL_law_608 ?_
          refine v_aload_n E dL_law_609 rfl ?_
          refine v_iload_n E dL_law_610 rfl ?_
          refine v_iconst (v := 3) E dL_law_611 (by decide) ?_
          refine v_iadd E dL_law_612 ?_
          refine v_sld E hX hbl hb3 dL_law_613 ?_
          refine v_if_eq (tgt := 621) E dL_law_614 (by decide) (fun _ => ?_) (fun q => absurd cz q)
          refine v_iconst (v := 0) E dL_law_621 (by decide) ?_
          refine v_callV (na := 3) (As := [vI (xs (Int32.ofNat (5 * t) + 1).toNatClampNeg), vI (xs (Int32.ofNat (5 * t) + 2).toNatClampNeg), vI 0]) (rest := [vI r1.1]) (ci := 12) (q := (RX12, TX12, 20)) E gwL_78 (by decide +kernel) rfl rfl (by decide) (kX12_turn l e2).2 (kX12_turn l e2).1 rfl rfl dL_law_622 ⟨Nat.le_of_ble_eq_true rfl, Nat.le_of_ble_eq_true rfl⟩ ⟨(by show _ ≤ 600000; omega), (by show _ ≤ 7302250; omega)⟩ (Nat.le_of_ble_eq_true rfl) ?_
          refine v_icmp_eq (tgt := 1095) E dL_law_625 (by decide) (fun _ => ?_) (fun q => absurd hq q)
          exact hend _ _ _ hR2 (by omega) (by omega)
        · obtain ⟨r1, r2, e1, e2, hq, hR2⟩ := hp.2.2.2.2.2.2.2.2.2.2.2.2.2.2.1 A hR (xs (Int32.ofNat (5 * t) + 1).toNatClampNeg) (xs (Int32.ofNat (5 * t) + 2).toNatClampNeg) 1 (Or.inr rfl)
          refine v_aload_n E dL_law_571 rfl ?_
          refine v_aload_n E dL_law_572 rfl ?_
          refine v_iload_n E dL_law_573 rfl ?_
          refine v_iconst (v := 1) E dL_law_574 (by decide) ?_
          refine v_iadd E dL_law_575 ?_
          refine v_sld E hX hbl hb1 dL_law_576 ?_
          refine v_aload_n E dL_law_577 rfl ?_
          refine v_iload_n E dL_law_578 rfl ?_
          refine v_iconst (v := 2) E dL_law_579 (by decide) ?_
          refine v_iadd E dL_law_580 ?_
          refine v_sld E hX hbl hb2 dL_law_581 ?_
          refine v_aload_n E dL_law_582 rfl ?_
          refine v_iload_n E dL_law_583 rfl ?_
          refine v_iconst (v := 3) E dL_law_584 (by decide) ?_
          refine v_iadd E dL_law_585 ?_
          refine v_sld E hX hbl hb3 dL_law_586 ?_
          refine v_if_eq (tgt := 594) E dL_law_587 (by decide) (fun q => absurd q cz) (fun _ => ?_)
          refine v_iconst (v := 1) E dL_law_590 (by decide) ?_
          refine v_goto (tgt := 595) E dL_law_591 (by decide) ?_
          refine v_callV (na := 3) (As := [vI (xs (Int32.ofNat (5 * t) + 1).toNatClampNeg), vI (xs (Int32.ofNat (5 * t) + 2).toNatClampNeg), vI 1]) (rest := []) (ci := 11) (q := (RX11, TX11, 8)) E gwL_74 (by decide +kernel) rfl rfl (by decide) (kX11_turn l e1).2 (kX11_turn l e1).1 rfl rfl dL_law_595 ⟨Nat.le_of_ble_eq_true rfl, Nat.le_of_ble_eq_true rfl⟩ ⟨(by show _ ≤ 600000; omega), (by show _ ≤ 7302250; omega)⟩ (Nat.le_of_ble_eq_true rfl) ?_
          refine v_aload_n E dL_law_598 rfl ?_
          refine v_aload_n E dL_law_599 rfl ?_
          refine v_iload_n E dL_law_600 rfl ?_
          refine v_iconst (v := 1) E dL_law_601 (by decide) ?_
          refine v_iadd E dL_law_602 ?_
          refine v_sld E hX hbl hb1 dL_law_603 ?_
          refine v_aload_n E dL_law_604 rfl ?_
          refine v_iload_n E dL_law_605 rfl ?_
          refine v_iconst (v := 2) E dL_law_606 (by decide) ?_
          refine v_iadd E dL_law_607 ?_
          refine v_sld E hX hbl hb2 dL_law_608 ?_
          refine v_aload_n E dL_law_609 rfl ?_
          refine v_iload_n E dL_law_610 rfl ?_
          refine v_iconst (v := 3) E dL_law_611 (by decide) ?_
          refine v_iadd E dL_law_612 ?_
          refine v_sld E hX hbl hb3 dL_law_613 ?_
          refine v_if_eq (tgt := 621) E dL_law_614 (by decide) (fun q => absurd q cz) (fun _ => ?_)
          refine v_iconst (v := 1) E dL_law_617 (by decide) ?_
          refine v_goto (tgt := 622) E dL_law_618 (by decide) ?_
          refine v_callV (na := 3) (As := [vI (xs (Int32.ofNat (5 * t) + 1).toNatClampNeg), vI (xs (Int32.ofNat (5 * t) + 2).toNatClampNeg), vI 1]) (rest := [vI r1.1]) (ci := 12) (q := (RX12, TX12, 20)) E gwL_78 (by decide +kernel) rfl rfl (by decide) (kX12_turn l e2).2 (kX12_turn l e2).1 rfl rfl dL_law_622 ⟨Nat.le_of_ble_eq_true rfl, Nat.le_of_ble_eq_true rfl⟩ ⟨(by show _ ≤ 600000; omega), (by show _ ≤ 7302250; omega)⟩ (Nat.le_of_ble_eq_true rfl) ?_
          refine v_icmp_eq (tgt := 1095) E dL_law_625 (by decide) (fun _ => ?_) (fun q => absurd hq q)
          exact hend _ _ _ hR2 (by omega) (by omega)
      by_cases c16 : sw = 15
      · skip
        rw [c16] at hj
        obtain rfl : j = 15 := hj.symm
        cases ht
        obtain ⟨r1, r2, e1, e2, hq, hR2⟩ := hp.2.2.2.2.2.2.2.2.2.2.2.2.2.2.2.1 A hR (xs (Int32.ofNat (5 * t) + 1).toNatClampNeg) (xs (Int32.ofNat (5 * t) + 2).toNatClampNeg)
        refine v_aload_n E dL_law_630 rfl ?_
        refine v_aload_n E dL_law_631 rfl ?_
        refine v_iload_n E dL_law_632 rfl ?_
        refine v_iconst (v := 1) E dL_law_633 (by decide) ?_
        refine v_iadd E dL_law_634 ?_
        refine v_sld E hX hbl hb1 dL_law_635 ?_
        refine v_aload_n E dL_law_636 rfl ?_
        refine v_iload_n E dL_law_637 rfl ?_
        refine v_iconst (v := 2) E dL_law_638 (by decide) ?_
        refine v_iadd E dL_law_639 ?_
        refine v_sld E hX hbl hb2 dL_law_640 ?_
        refine v_callV (na := 2) (As := [vI (xs (Int32.ofNat (5 * t) + 1).toNatClampNeg), vI (xs (Int32.ofNat (5 * t) + 2).toNatClampNeg)]) (rest := []) (ci := 11) (q := (RX11, TX11, 8)) E gwL_79 (by decide +kernel) rfl rfl (by decide) (kX11_twist l e1).2 (kX11_twist l e1).1 rfl rfl dL_law_641 ⟨Nat.le_of_ble_eq_true rfl, Nat.le_of_ble_eq_true rfl⟩ ⟨(by show _ ≤ 600000; omega), (by show _ ≤ 7302250; omega)⟩ (Nat.le_of_ble_eq_true rfl) ?_
        refine v_aload_n E dL_law_644 rfl ?_
        refine v_aload_n E dL_law_645 rfl ?_
        refine v_iload_n E dL_law_646 rfl ?_
        refine v_iconst (v := 1) E dL_law_647 (by decide) ?_
        refine v_iadd E dL_law_648 ?_
        refine v_sld E hX hbl hb1 dL_law_649 ?_
        refine v_aload_n E dL_law_650 rfl ?_
        refine v_iload_n E dL_law_651 rfl ?_
        refine v_iconst (v := 2) E dL_law_652 (by decide) ?_
        refine v_iadd E dL_law_653 ?_
        refine v_sld E hX hbl hb2 dL_law_654 ?_
        refine v_callV (na := 2) (As := [vI (xs (Int32.ofNat (5 * t) + 1).toNatClampNeg), vI (xs (Int32.ofNat (5 * t) + 2).toNatClampNeg)]) (rest := [vI r1.1]) (ci := 12) (q := (RX12, TX12, 20)) E gwL_82 (by decide +kernel) rfl rfl (by decide) (kX12_twist l e2).2 (kX12_twist l e2).1 rfl rfl dL_law_655 ⟨Nat.le_of_ble_eq_true rfl, Nat.le_of_ble_eq_true rfl⟩ ⟨(by show _ ≤ 600000; omega), (by show _ ≤ 7302250; omega)⟩ (Nat.le_of_ble_eq_true rfl) ?_
        refine v_icmp_eq (tgt := 1095) E dL_law_658 (by decide) (fun _ => ?_) (fun q => absurd hq q)
        exact hend _ _ _ hR2 (by omega) (by omega)
      by_cases c17 : sw = 16
      · skip
        rw [c17] at hj
        obtain rfl : j = 16 := hj.symm
        cases ht
        obtain ⟨r1, r2, e1, e2, hq, hR2⟩ := hp.2.2.2.2.2.2.2.2.2.2.2.2.2.2.2.2.1 A hR (xs (Int32.ofNat (5 * t) + 1).toNatClampNeg) (xs (Int32.ofNat (5 * t) + 2).toNatClampNeg)
        refine v_aload_n E dL_law_663 rfl ?_
        refine v_aload_n E dL_law_664 rfl ?_
        refine v_iload_n E dL_law_665 rfl ?_
        refine v_iconst (v := 1) E dL_law_666 (by decide) ?_
        refine v_iadd E dL_law_667 ?_
        refine v_sld E hX hbl hb1 dL_law_668 ?_
        refine v_aload_n E dL_law_669 rfl ?_
        refine v_iload_n E dL_law_670 rfl ?_
        refine v_iconst (v := 2) E dL_law_671 (by decide) ?_
        refine v_iadd E dL_law_672 ?_
        refine v_sld E hX hbl hb2 dL_law_673 ?_
        refine v_callV (na := 2) (As := [vI (xs (Int32.ofNat (5 * t) + 1).toNatClampNeg), vI (xs (Int32.ofNat (5 * t) + 2).toNatClampNeg)]) (rest := []) (ci := 11) (q := (RX11, TX11, 8)) E gwL_83 (by decide +kernel) rfl rfl (by decide) (kX11_untwist l e1).2 (kX11_untwist l e1).1 rfl rfl dL_law_674 ⟨Nat.le_of_ble_eq_true rfl, Nat.le_of_ble_eq_true rfl⟩ ⟨(by show _ ≤ 600000; omega), (by show _ ≤ 7302250; omega)⟩ (Nat.le_of_ble_eq_true rfl) ?_
        refine v_aload_n E dL_law_677 rfl ?_
        refine v_aload_n E dL_law_678 rfl ?_
        refine v_iload_n E dL_law_679 rfl ?_
        refine v_iconst (v := 1) E dL_law_680 (by decide) ?_
        refine v_iadd E dL_law_681 ?_
        refine v_sld E hX hbl hb1 dL_law_682 ?_
        refine v_aload_n E dL_law_683 rfl ?_
        refine v_iload_n E dL_law_684 rfl ?_
        refine v_iconst (v := 2) E dL_law_685 (by decide) ?_
        refine v_iadd E dL_law_686 ?_
        refine v_sld E hX hbl hb2 dL_law_687 ?_
        refine v_callV (na := 2) (As := [vI (xs (Int32.ofNat (5 * t) + 1).toNatClampNeg), vI (xs (Int32.ofNat (5 * t) + 2).toNatClampNeg)]) (rest := [vI r1.1]) (ci := 12) (q := (RX12, TX12, 20)) E gwL_86 (by decide +kernel) rfl rfl (by decide) (kX12_untwist l e2).2 (kX12_untwist l e2).1 rfl rfl dL_law_688 ⟨Nat.le_of_ble_eq_true rfl, Nat.le_of_ble_eq_true rfl⟩ ⟨(by show _ ≤ 600000; omega), (by show _ ≤ 7302250; omega)⟩ (Nat.le_of_ble_eq_true rfl) ?_
        refine v_icmp_eq (tgt := 1095) E dL_law_691 (by decide) (fun _ => ?_) (fun q => absurd hq q)
        exact hend _ _ _ hR2 (by omega) (by omega)
      by_cases c18 : sw = 17
      · skip
        rw [c18] at hj
        obtain rfl : j = 17 := hj.symm
        cases ht
        obtain ⟨r1, r2, e1, e2, hq, hR2⟩ := hp.2.2.2.2.2.2.2.2.2.2.2.2.2.2.2.2.2.1 A hR (xs (Int32.ofNat (5 * t) + 1).toNatClampNeg) (xs (Int32.ofNat (5 * t) + 2).toNatClampNeg) (xs (Int32.ofNat (5 * t) + 3).toNatClampNeg) (xs (Int32.ofNat (5 * t) + 4).toNatClampNeg)
        refine v_aload_n E dL_law_696 rfl ?_
        refine v_aload_n E dL_law_697 rfl ?_
        refine v_iload_n E dL_law_698 rfl ?_
        refine v_iconst (v := 1) E dL_law_699 (by decide) ?_
        refine v_iadd E dL_law_700 ?_
        refine v_sld E hX hbl hb1 dL_law_701 ?_
        refine v_aload_n E dL_law_702 rfl ?_
        refine v_iload_n E dL_law_703 rfl ?_
        refine v_iconst (v := 2) E dL_law_704 (by decide) ?_
        refine v_iadd E dL_law_705 ?_
        refine v_sld E hX hbl hb2 dL_law_706 ?_
        refine v_aload_n E dL_law_707 rfl ?_
        refine v_iload_n E dL_law_708 rfl ?_
        refine v_iconst (v := 3) E dL_law_709 (by decide) ?_
        refine v_iadd E dL_law_710 ?_
        refine v_sld E hX hbl hb3 dL_law_711 ?_
        refine v_aload_n E dL_law_712 rfl ?_
        refine v_iload_n E dL_law_713 rfl ?_
        refine v_iconst (v := 4) E dL_law_714 (by decide) ?_
        refine v_iadd E dL_law_715 ?_
        refine v_sld E hX hbl hb4 dL_law_716 ?_
        refine v_callV (na := 4) (As := [vI (xs (Int32.ofNat (5 * t) + 1).toNatClampNeg), vI (xs (Int32.ofNat (5 * t) + 2).toNatClampNeg), vI (xs (Int32.ofNat (5 * t) + 3).toNatClampNeg), vI (xs (Int32.ofNat (5 * t) + 4).toNatClampNeg)]) (rest := []) (ci := 11) (q := (RX11, TX11, 8)) E gwL_87 (by decide +kernel) rfl rfl (by decide) (kX11_poke l e1).2 (kX11_poke l e1).1 rfl rfl dL_law_717 ⟨Nat.le_of_ble_eq_true rfl, Nat.le_of_ble_eq_true rfl⟩ ⟨(by show _ ≤ 600000; omega), (by show _ ≤ 7302250; omega)⟩ (Nat.le_of_ble_eq_true rfl) ?_
        refine v_aload_n E dL_law_720 rfl ?_
        refine v_aload_n E dL_law_721 rfl ?_
        refine v_iload_n E dL_law_722 rfl ?_
        refine v_iconst (v := 1) E dL_law_723 (by decide) ?_
        refine v_iadd E dL_law_724 ?_
        refine v_sld E hX hbl hb1 dL_law_725 ?_
        refine v_aload_n E dL_law_726 rfl ?_
        refine v_iload_n E dL_law_727 rfl ?_
        refine v_iconst (v := 2) E dL_law_728 (by decide) ?_
        refine v_iadd E dL_law_729 ?_
        refine v_sld E hX hbl hb2 dL_law_730 ?_
        refine v_aload_n E dL_law_731 rfl ?_
        refine v_iload_n E dL_law_732 rfl ?_
        refine v_iconst (v := 3) E dL_law_733 (by decide) ?_
        refine v_iadd E dL_law_734 ?_
        refine v_sld E hX hbl hb3 dL_law_735 ?_
        refine v_aload_n E dL_law_736 rfl ?_
        refine v_iload_n E dL_law_737 rfl ?_
        refine v_iconst (v := 4) E dL_law_738 (by decide) ?_
        refine v_iadd E dL_law_739 ?_
        refine v_sld E hX hbl hb4 dL_law_740 ?_
        refine v_callV (na := 4) (As := [vI (xs (Int32.ofNat (5 * t) + 1).toNatClampNeg), vI (xs (Int32.ofNat (5 * t) + 2).toNatClampNeg), vI (xs (Int32.ofNat (5 * t) + 3).toNatClampNeg), vI (xs (Int32.ofNat (5 * t) + 4).toNatClampNeg)]) (rest := [vI r1.1]) (ci := 12) (q := (RX12, TX12, 20)) E gwL_91 (by decide +kernel) rfl rfl (by decide) (kX12_poke l e2).2 (kX12_poke l e2).1 rfl rfl dL_law_741 ⟨Nat.le_of_ble_eq_true rfl, Nat.le_of_ble_eq_true rfl⟩ ⟨(by show _ ≤ 600000; omega), (by show _ ≤ 7302250; omega)⟩ (Nat.le_of_ble_eq_true rfl) ?_
        refine v_icmp_eq (tgt := 1095) E dL_law_744 (by decide) (fun _ => ?_) (fun q => absurd hq q)
        exact hend _ _ _ hR2 (by omega) (by omega)
      by_cases c19 : sw = 18
      · skip
        rw [c19] at hj
        obtain rfl : j = 18 := hj.symm
        cases ht
        obtain ⟨r1, r2, e1, e2, hq, hR2⟩ := hp.2.2.2.2.2.2.2.2.2.2.2.2.2.2.2.2.2.2.1 A hR (xs (Int32.ofNat (5 * t) + 1).toNatClampNeg) (xs (Int32.ofNat (5 * t) + 2).toNatClampNeg) (xs (Int32.ofNat (5 * t) + 3).toNatClampNeg)
        refine v_aload_n E dL_law_749 rfl ?_
        refine v_aload_n E dL_law_750 rfl ?_
        refine v_iload_n E dL_law_751 rfl ?_
        refine v_iconst (v := 1) E dL_law_752 (by decide) ?_
        refine v_iadd E dL_law_753 ?_
        refine v_sld E hX hbl hb1 dL_law_754 ?_
        refine v_aload_n E dL_law_755 rfl ?_
        refine v_iload_n E dL_law_756 rfl ?_
        refine v_iconst (v := 2) E dL_law_757 (by decide) ?_
        refine v_iadd E dL_law_758 ?_
        refine v_sld E hX hbl hb2 dL_law_759 ?_
        refine v_aload_n E dL_law_760 rfl ?_
        refine v_iload_n E dL_law_761 rfl ?_
        refine v_iconst (v := 3) E dL_law_762 (by decide) ?_
        refine v_iadd E dL_law_763 ?_
        refine v_sld E hX hbl hb3 dL_law_764 ?_
        refine v_callV (na := 3) (As := [vI (xs (Int32.ofNat (5 * t) + 1).toNatClampNeg), vI (xs (Int32.ofNat (5 * t) + 2).toNatClampNeg), vI (xs (Int32.ofNat (5 * t) + 3).toNatClampNeg)]) (rest := []) (ci := 11) (q := (RX11, TX11, 8)) E gwL_92 (by decide +kernel) rfl rfl (by decide) (kX11_unpoke l e1).2 (kX11_unpoke l e1).1 rfl rfl dL_law_765 ⟨Nat.le_of_ble_eq_true rfl, Nat.le_of_ble_eq_true rfl⟩ ⟨(by show _ ≤ 600000; omega), (by show _ ≤ 7302250; omega)⟩ (Nat.le_of_ble_eq_true rfl) ?_
        refine v_aload_n E dL_law_768 rfl ?_
        refine v_aload_n E dL_law_769 rfl ?_
        refine v_iload_n E dL_law_770 rfl ?_
        refine v_iconst (v := 1) E dL_law_771 (by decide) ?_
        refine v_iadd E dL_law_772 ?_
        refine v_sld E hX hbl hb1 dL_law_773 ?_
        refine v_aload_n E dL_law_774 rfl ?_
        refine v_iload_n E dL_law_775 rfl ?_
        refine v_iconst (v := 2) E dL_law_776 (by decide) ?_
        refine v_iadd E dL_law_777 ?_
        refine v_sld E hX hbl hb2 dL_law_778 ?_
        refine v_aload_n E dL_law_779 rfl ?_
        refine v_iload_n E dL_law_780 rfl ?_
        refine v_iconst (v := 3) E dL_law_781 (by decide) ?_
        refine v_iadd E dL_law_782 ?_
        refine v_sld E hX hbl hb3 dL_law_783 ?_
        refine v_callV (na := 3) (As := [vI (xs (Int32.ofNat (5 * t) + 1).toNatClampNeg), vI (xs (Int32.ofNat (5 * t) + 2).toNatClampNeg), vI (xs (Int32.ofNat (5 * t) + 3).toNatClampNeg)]) (rest := [vI r1.1]) (ci := 12) (q := (RX12, TX12, 20)) E gwL_95 (by decide +kernel) rfl rfl (by decide) (kX12_unpoke l e2).2 (kX12_unpoke l e2).1 rfl rfl dL_law_784 ⟨Nat.le_of_ble_eq_true rfl, Nat.le_of_ble_eq_true rfl⟩ ⟨(by show _ ≤ 600000; omega), (by show _ ≤ 7302250; omega)⟩ (Nat.le_of_ble_eq_true rfl) ?_
        refine v_icmp_eq (tgt := 1095) E dL_law_787 (by decide) (fun _ => ?_) (fun q => absurd hq q)
        exact hend _ _ _ hR2 (by omega) (by omega)
      by_cases c20 : sw = 19
      · skip
        rw [c20] at hj
        obtain rfl : j = 19 := hj.symm
        cases ht
        obtain ⟨r1, r2, e1, e2, hq, hR2⟩ := hp.2.2.2.2.2.2.2.2.2.2.2.2.2.2.2.2.2.2.2.1 A hR (xs (Int32.ofNat (5 * t) + 1).toNatClampNeg) (xs (Int32.ofNat (5 * t) + 2).toNatClampNeg) (xs (Int32.ofNat (5 * t) + 3).toNatClampNeg) (xs (Int32.ofNat (5 * t) + 4).toNatClampNeg)
        refine v_aload_n E dL_law_792 rfl ?_
        refine v_aload_n E dL_law_793 rfl ?_
        refine v_iload_n E dL_law_794 rfl ?_
        refine v_iconst (v := 1) E dL_law_795 (by decide) ?_
        refine v_iadd E dL_law_796 ?_
        refine v_sld E hX hbl hb1 dL_law_797 ?_
        refine v_aload_n E dL_law_798 rfl ?_
        refine v_iload_n E dL_law_799 rfl ?_
        refine v_iconst (v := 2) E dL_law_800 (by decide) ?_
        refine v_iadd E dL_law_801 ?_
        refine v_sld E hX hbl hb2 dL_law_802 ?_
        refine v_aload_n E dL_law_803 rfl ?_
        refine v_iload_n E dL_law_804 rfl ?_
        refine v_iconst (v := 3) E dL_law_805 (by decide) ?_
        refine v_iadd E dL_law_806 ?_
        refine v_sld E hX hbl hb3 dL_law_807 ?_
        refine v_aload_n E dL_law_808 rfl ?_
        refine v_iload_n E dL_law_809 rfl ?_
        refine v_iconst (v := 4) E dL_law_810 (by decide) ?_
        refine v_iadd E dL_law_811 ?_
        refine v_sld E hX hbl hb4 dL_law_812 ?_
        refine v_callV (na := 4) (As := [vI (xs (Int32.ofNat (5 * t) + 1).toNatClampNeg), vI (xs (Int32.ofNat (5 * t) + 2).toNatClampNeg), vI (xs (Int32.ofNat (5 * t) + 3).toNatClampNeg), vI (xs (Int32.ofNat (5 * t) + 4).toNatClampNeg)]) (rest := []) (ci := 11) (q := (RX11, TX11, 8)) E gwL_96 (by decide +kernel) rfl rfl (by decide) (kX11_slide l e1).2 (kX11_slide l e1).1 rfl rfl dL_law_813 ⟨Nat.le_of_ble_eq_true rfl, Nat.le_of_ble_eq_true rfl⟩ ⟨(by show _ ≤ 600000; omega), (by show _ ≤ 7302250; omega)⟩ (Nat.le_of_ble_eq_true rfl) ?_
        refine v_aload_n E dL_law_816 rfl ?_
        refine v_aload_n E dL_law_817 rfl ?_
        refine v_iload_n E dL_law_818 rfl ?_
        refine v_iconst (v := 1) E dL_law_819 (by decide) ?_
        refine v_iadd E dL_law_820 ?_
        refine v_sld E hX hbl hb1 dL_law_821 ?_
        refine v_aload_n E dL_law_822 rfl ?_
        refine v_iload_n E dL_law_823 rfl ?_
        refine v_iconst (v := 2) E dL_law_824 (by decide) ?_
        refine v_iadd E dL_law_825 ?_
        refine v_sld E hX hbl hb2 dL_law_826 ?_
        refine v_aload_n E dL_law_827 rfl ?_
        refine v_iload_n E dL_law_828 rfl ?_
        refine v_iconst (v := 3) E dL_law_829 (by decide) ?_
        refine v_iadd E dL_law_830 ?_
        refine v_sld E hX hbl hb3 dL_law_831 ?_
        refine v_aload_n E dL_law_832 rfl ?_
        refine v_iload_n E dL_law_833 rfl ?_
        refine v_iconst (v := 4) E dL_law_834 (by decide) ?_
        refine v_iadd E dL_law_835 ?_
        refine v_sld E hX hbl hb4 dL_law_836 ?_
        refine v_callV (na := 4) (As := [vI (xs (Int32.ofNat (5 * t) + 1).toNatClampNeg), vI (xs (Int32.ofNat (5 * t) + 2).toNatClampNeg), vI (xs (Int32.ofNat (5 * t) + 3).toNatClampNeg), vI (xs (Int32.ofNat (5 * t) + 4).toNatClampNeg)]) (rest := [vI r1.1]) (ci := 12) (q := (RX12, TX12, 20)) E gwL_99 (by decide +kernel) rfl rfl (by decide) (kX12_slide l e2).2 (kX12_slide l e2).1 rfl rfl dL_law_837 ⟨Nat.le_of_ble_eq_true rfl, Nat.le_of_ble_eq_true rfl⟩ ⟨(by show _ ≤ 600000; omega), (by show _ ≤ 7302250; omega)⟩ (Nat.le_of_ble_eq_true rfl) ?_
        refine v_icmp_eq (tgt := 1095) E dL_law_840 (by decide) (fun _ => ?_) (fun q => absurd hq q)
        exact hend _ _ _ hR2 (by omega) (by omega)
      by_cases c21 : sw = 20
      · skip
        rw [c21] at hj
        obtain rfl : j = 20 := hj.symm
        cases ht
        obtain ⟨r1, r2, e1, e2, hq, hR2⟩ := hp.2.2.2.2.2.2.2.2.2.2.2.2.2.2.2.2.2.2.2.2.1 A hR (xs (Int32.ofNat (5 * t) + 1).toNatClampNeg) (xs (Int32.ofNat (5 * t) + 2).toNatClampNeg)
        refine v_aload_n E dL_law_845 rfl ?_
        refine v_aload_n E dL_law_846 rfl ?_
        refine v_iload_n E dL_law_847 rfl ?_
        refine v_iconst (v := 1) E dL_law_848 (by decide) ?_
        refine v_iadd E dL_law_849 ?_
        refine v_sld E hX hbl hb1 dL_law_850 ?_
        refine v_aload_n E dL_law_851 rfl ?_
        refine v_iload_n E dL_law_852 rfl ?_
        refine v_iconst (v := 2) E dL_law_853 (by decide) ?_
        refine v_iadd E dL_law_854 ?_
        refine v_sld E hX hbl hb2 dL_law_855 ?_
        refine v_callV (na := 2) (As := [vI (xs (Int32.ofNat (5 * t) + 1).toNatClampNeg), vI (xs (Int32.ofNat (5 * t) + 2).toNatClampNeg)]) (rest := []) (ci := 11) (q := (RX11, TX11, 8)) E gwL_100 (by decide +kernel) rfl rfl (by decide) (kX11_smooth l e1).2 (kX11_smooth l e1).1 rfl rfl dL_law_856 ⟨Nat.le_of_ble_eq_true rfl, Nat.le_of_ble_eq_true rfl⟩ ⟨(by show _ ≤ 600000; omega), (by show _ ≤ 7302250; omega)⟩ (Nat.le_of_ble_eq_true rfl) ?_
        refine v_aload_n E dL_law_859 rfl ?_
        refine v_aload_n E dL_law_860 rfl ?_
        refine v_iload_n E dL_law_861 rfl ?_
        refine v_iconst (v := 1) E dL_law_862 (by decide) ?_
        refine v_iadd E dL_law_863 ?_
        refine v_sld E hX hbl hb1 dL_law_864 ?_
        refine v_aload_n E dL_law_865 rfl ?_
        refine v_iload_n E dL_law_866 rfl ?_
        refine v_iconst (v := 2) E dL_law_867 (by decide) ?_
        refine v_iadd E dL_law_868 ?_
        refine v_sld E hX hbl hb2 dL_law_869 ?_
        refine v_callV (na := 2) (As := [vI (xs (Int32.ofNat (5 * t) + 1).toNatClampNeg), vI (xs (Int32.ofNat (5 * t) + 2).toNatClampNeg)]) (rest := [vI r1.1]) (ci := 12) (q := (RX12, TX12, 20)) E gwL_103 (by decide +kernel) rfl rfl (by decide) (kX12_smooth l e2).2 (kX12_smooth l e2).1 rfl rfl dL_law_870 ⟨Nat.le_of_ble_eq_true rfl, Nat.le_of_ble_eq_true rfl⟩ ⟨(by show _ ≤ 600000; omega), (by show _ ≤ 7302250; omega)⟩ (Nat.le_of_ble_eq_true rfl) ?_
        refine v_icmp_eq (tgt := 1095) E dL_law_873 (by decide) (fun _ => ?_) (fun q => absurd hq q)
        exact hend _ _ _ hR2 (by omega) (by omega)
      by_cases c22 : sw = 21
      · skip
        rw [c22] at hj
        obtain rfl : j = 21 := hj.symm
        cases ht
        obtain ⟨r1, r2, e1, e2, hq, hR2⟩ := hp.2.2.2.2.2.2.2.2.2.2.2.2.2.2.2.2.2.2.2.2.2.1 A hR (xs (Int32.ofNat (5 * t) + 1).toNatClampNeg) (xs (Int32.ofNat (5 * t) + 2).toNatClampNeg)
        refine v_aload_n E dL_law_878 rfl ?_
        refine v_aload_n E dL_law_879 rfl ?_
        refine v_iload_n E dL_law_880 rfl ?_
        refine v_iconst (v := 1) E dL_law_881 (by decide) ?_
        refine v_iadd E dL_law_882 ?_
        refine v_sld E hX hbl hb1 dL_law_883 ?_
        refine v_aload_n E dL_law_884 rfl ?_
        refine v_iload_n E dL_law_885 rfl ?_
        refine v_iconst (v := 2) E dL_law_886 (by decide) ?_
        refine v_iadd E dL_law_887 ?_
        refine v_sld E hX hbl hb2 dL_law_888 ?_
        refine v_callV (na := 2) (As := [vI (xs (Int32.ofNat (5 * t) + 1).toNatClampNeg), vI (xs (Int32.ofNat (5 * t) + 2).toNatClampNeg)]) (rest := []) (ci := 11) (q := (RX11, TX11, 8)) E gwL_104 (by decide +kernel) rfl rfl (by decide) (kX11_sum l e1).2 (kX11_sum l e1).1 rfl rfl dL_law_889 ⟨Nat.le_of_ble_eq_true rfl, Nat.le_of_ble_eq_true rfl⟩ ⟨(by show _ ≤ 600000; omega), (by show _ ≤ 7302250; omega)⟩ (Nat.le_of_ble_eq_true rfl) ?_
        refine v_aload_n E dL_law_892 rfl ?_
        refine v_aload_n E dL_law_893 rfl ?_
        refine v_iload_n E dL_law_894 rfl ?_
        refine v_iconst (v := 1) E dL_law_895 (by decide) ?_
        refine v_iadd E dL_law_896 ?_
        refine v_sld E hX hbl hb1 dL_law_897 ?_
        refine v_aload_n E dL_law_898 rfl ?_
        refine v_iload_n E dL_law_899 rfl ?_
        refine v_iconst (v := 2) E dL_law_900 (by decide) ?_
        refine v_iadd E dL_law_901 ?_
        refine v_sld E hX hbl hb2 dL_law_902 ?_
        refine v_callV (na := 2) (As := [vI (xs (Int32.ofNat (5 * t) + 1).toNatClampNeg), vI (xs (Int32.ofNat (5 * t) + 2).toNatClampNeg)]) (rest := [vI r1.1]) (ci := 12) (q := (RX12, TX12, 20)) E gwL_107 (by decide +kernel) rfl rfl (by decide) (kX12_sum l e2).2 (kX12_sum l e2).1 rfl rfl dL_law_903 ⟨Nat.le_of_ble_eq_true rfl, Nat.le_of_ble_eq_true rfl⟩ ⟨(by show _ ≤ 600000; omega), (by show _ ≤ 7302250; omega)⟩ (Nat.le_of_ble_eq_true rfl) ?_
        refine v_icmp_eq (tgt := 1095) E dL_law_906 (by decide) (fun _ => ?_) (fun q => absurd hq q)
        exact hend _ _ _ hR2 (by omega) (by omega)
      by_cases c23 : sw = 22
      · skip
        rw [c23] at hj
        obtain rfl : j = 22 := hj.symm
        cases ht
        obtain ⟨r1, r2, e1, e2, hq, hR2⟩ := hp.2.2.2.2.2.2.2.2.2.2.2.2.2.2.2.2.2.2.2.2.2.2.1 A hR (xs (Int32.ofNat (5 * t) + 1).toNatClampNeg)
        refine v_aload_n E dL_law_911 rfl ?_
        refine v_aload_n E dL_law_912 rfl ?_
        refine v_iload_n E dL_law_913 rfl ?_
        refine v_iconst (v := 1) E dL_law_914 (by decide) ?_
        refine v_iadd E dL_law_915 ?_
        refine v_sld E hX hbl hb1 dL_law_916 ?_
        refine v_callV (na := 1) (As := [vI (xs (Int32.ofNat (5 * t) + 1).toNatClampNeg)]) (rest := []) (ci := 11) (q := (RX11, TX11, 8)) E gwL_108 (by decide +kernel) rfl rfl (by decide) (kX11_take l e1).2 (kX11_take l e1).1 rfl rfl dL_law_917 ⟨Nat.le_of_ble_eq_true rfl, Nat.le_of_ble_eq_true rfl⟩ ⟨(by show _ ≤ 600000; omega), (by show _ ≤ 7302250; omega)⟩ (Nat.le_of_ble_eq_true rfl) ?_
        refine v_aload_n E dL_law_920 rfl ?_
        refine v_aload_n E dL_law_921 rfl ?_
        refine v_iload_n E dL_law_922 rfl ?_
        refine v_iconst (v := 1) E dL_law_923 (by decide) ?_
        refine v_iadd E dL_law_924 ?_
        refine v_sld E hX hbl hb1 dL_law_925 ?_
        refine v_callV (na := 1) (As := [vI (xs (Int32.ofNat (5 * t) + 1).toNatClampNeg)]) (rest := [vI r1.1]) (ci := 12) (q := (RX12, TX12, 20)) E gwL_111 (by decide +kernel) rfl rfl (by decide) (kX12_take l e2).2 (kX12_take l e2).1 rfl rfl dL_law_926 ⟨Nat.le_of_ble_eq_true rfl, Nat.le_of_ble_eq_true rfl⟩ ⟨(by show _ ≤ 600000; omega), (by show _ ≤ 7302250; omega)⟩ (Nat.le_of_ble_eq_true rfl) ?_
        refine v_icmp_eq (tgt := 1095) E dL_law_929 (by decide) (fun _ => ?_) (fun q => absurd hq q)
        exact hend _ _ _ hR2 (by omega) (by omega)
      by_cases c24 : sw = 23
      · skip
        rw [c24] at hj
        obtain rfl : j = 23 := hj.symm
        cases ht
        obtain ⟨r1, r2, e1, e2, hq, hR2⟩ := hp.2.2.2.2.2.2.2.2.2.2.2.2.2.2.2.2.2.2.2.2.2.2.2.1 A hR (xs (Int32.ofNat (5 * t) + 1).toNatClampNeg)
        refine v_aload_n E dL_law_934 rfl ?_
        refine v_aload_n E dL_law_935 rfl ?_
        refine v_iload_n E dL_law_936 rfl ?_
        refine v_iconst (v := 1) E dL_law_937 (by decide) ?_
        refine v_iadd E dL_law_938 ?_
        refine v_sld E hX hbl hb1 dL_law_939 ?_
        refine v_callV (na := 1) (As := [vI (xs (Int32.ofNat (5 * t) + 1).toNatClampNeg)]) (rest := []) (ci := 11) (q := (RX11, TX11, 8)) E gwL_112 (by decide +kernel) rfl rfl (by decide) (kX11_drift l e1).2 (kX11_drift l e1).1 rfl rfl dL_law_940 ⟨Nat.le_of_ble_eq_true rfl, Nat.le_of_ble_eq_true rfl⟩ ⟨(by show _ ≤ 600000; omega), (by show _ ≤ 7302250; omega)⟩ (Nat.le_of_ble_eq_true rfl) ?_
        refine v_aload_n E dL_law_943 rfl ?_
        refine v_aload_n E dL_law_944 rfl ?_
        refine v_iload_n E dL_law_945 rfl ?_
        refine v_iconst (v := 1) E dL_law_946 (by decide) ?_
        refine v_iadd E dL_law_947 ?_
        refine v_sld E hX hbl hb1 dL_law_948 ?_
        refine v_callV (na := 1) (As := [vI (xs (Int32.ofNat (5 * t) + 1).toNatClampNeg)]) (rest := [vI r1.1]) (ci := 12) (q := (RX12, TX12, 20)) E gwL_115 (by decide +kernel) rfl rfl (by decide) (kX12_drift l e2).2 (kX12_drift l e2).1 rfl rfl dL_law_949 ⟨Nat.le_of_ble_eq_true rfl, Nat.le_of_ble_eq_true rfl⟩ ⟨(by show _ ≤ 600000; omega), (by show _ ≤ 7302250; omega)⟩ (Nat.le_of_ble_eq_true rfl) ?_
        refine v_icmp_eq (tgt := 1095) E dL_law_952 (by decide) (fun _ => ?_) (fun q => absurd hq q)
        exact hend _ _ _ hR2 (by omega) (by omega)
      by_cases c25 : sw = 24
      · skip
        rw [c25] at hj
        obtain rfl : j = 24 := hj.symm
        cases ht
        obtain ⟨r1, r2, e1, e2, hq, hR2⟩ := hp.2.2.2.2.2.2.2.2.2.2.2.2.2.2.2.2.2.2.2.2.2.2.2.2.1 A hR (xs (Int32.ofNat (5 * t) + 1).toNatClampNeg)
        refine v_aload_n E dL_law_957 rfl ?_
        refine v_aload_n E dL_law_958 rfl ?_
        refine v_iload_n E dL_law_959 rfl ?_
        refine v_iconst (v := 1) E dL_law_960 (by decide) ?_
        refine v_iadd E dL_law_961 ?_
        refine v_sld E hX hbl hb1 dL_law_962 ?_
        refine v_callV (na := 1) (As := [vI (xs (Int32.ofNat (5 * t) + 1).toNatClampNeg)]) (rest := []) (ci := 11) (q := (RX11, TX11, 8)) E gwL_116 (by decide +kernel) rfl rfl (by decide) (kX11_undo l e1).2 (kX11_undo l e1).1 rfl rfl dL_law_963 ⟨Nat.le_of_ble_eq_true rfl, Nat.le_of_ble_eq_true rfl⟩ ⟨(by show _ ≤ 600000; omega), (by show _ ≤ 7302250; omega)⟩ (Nat.le_of_ble_eq_true rfl) ?_
        refine v_aload_n E dL_law_966 rfl ?_
        refine v_aload_n E dL_law_967 rfl ?_
        refine v_iload_n E dL_law_968 rfl ?_
        refine v_iconst (v := 1) E dL_law_969 (by decide) ?_
        refine v_iadd E dL_law_970 ?_
        refine v_sld E hX hbl hb1 dL_law_971 ?_
        refine v_callV (na := 1) (As := [vI (xs (Int32.ofNat (5 * t) + 1).toNatClampNeg)]) (rest := [vI r1.1]) (ci := 12) (q := (RX12, TX12, 20)) E gwL_119 (by decide +kernel) rfl rfl (by decide) (kX12_undo l e2).2 (kX12_undo l e2).1 rfl rfl dL_law_972 ⟨Nat.le_of_ble_eq_true rfl, Nat.le_of_ble_eq_true rfl⟩ ⟨(by show _ ≤ 600000; omega), (by show _ ≤ 7302250; omega)⟩ (Nat.le_of_ble_eq_true rfl) ?_
        refine v_icmp_eq (tgt := 1095) E dL_law_975 (by decide) (fun _ => ?_) (fun q => absurd hq q)
        exact hend _ _ _ hR2 (by omega) (by omega)
      by_cases c26 : sw = 25
      · skip
        rw [c26] at hj
        obtain rfl : j = 25 := hj.symm
        cases ht
        obtain ⟨r1, r2, e1, e2, hq, hR2⟩ := hp.2.2.2.2.2.2.2.2.2.2.2.2.2.2.2.2.2.2.2.2.2.2.2.2.2.1 A hR (xs (Int32.ofNat (5 * t) + 1).toNatClampNeg) (xs (Int32.ofNat (5 * t) + 2).toNatClampNeg)
        refine v_aload_n E dL_law_980 rfl ?_
        refine v_aload_n E dL_law_981 rfl ?_
        refine v_iload_n E dL_law_982 rfl ?_
        refine v_iconst (v := 1) E dL_law_983 (by decide) ?_
        refine v_iadd E dL_law_984 ?_
        refine v_sld E hX hbl hb1 dL_law_985 ?_
        refine v_aload_n E dL_law_986 rfl ?_
        refine v_iload_n E dL_law_987 rfl ?_
        refine v_iconst (v := 2) E dL_law_988 (by decide) ?_
        refine v_iadd E dL_law_989 ?_
        refine v_sld E hX hbl hb2 dL_law_990 ?_
        refine v_callV (na := 2) (As := [vI (xs (Int32.ofNat (5 * t) + 1).toNatClampNeg), vI (xs (Int32.ofNat (5 * t) + 2).toNatClampNeg)]) (rest := []) (ci := 11) (q := (RX11, TX11, 8)) E gwL_120 (by decide +kernel) rfl rfl (by decide) (kX11_write l e1).2 (kX11_write l e1).1 rfl rfl dL_law_991 ⟨Nat.le_of_ble_eq_true rfl, Nat.le_of_ble_eq_true rfl⟩ ⟨(by show _ ≤ 600000; omega), (by show _ ≤ 7302250; omega)⟩ (Nat.le_of_ble_eq_true rfl) ?_
        refine v_aload_n E dL_law_994 rfl ?_
        refine v_aload_n E dL_law_995 rfl ?_
        refine v_iload_n E dL_law_996 rfl ?_
        refine v_iconst (v := 1) E dL_law_997 (by decide) ?_
        refine v_iadd E dL_law_998 ?_
        refine v_sld E hX hbl hb1 dL_law_999 ?_
        refine v_aload_n E dL_law_1000 rfl ?_
        refine v_iload_n E dL_law_1001 rfl ?_
        refine v_iconst (v := 2) E dL_law_1002 (by decide) ?_
        refine v_iadd E dL_law_1003 ?_
        refine v_sld E hX hbl hb2 dL_law_1004 ?_
        refine v_callV (na := 2) (As := [vI (xs (Int32.ofNat (5 * t) + 1).toNatClampNeg), vI (xs (Int32.ofNat (5 * t) + 2).toNatClampNeg)]) (rest := [vI r1.1]) (ci := 12) (q := (RX12, TX12, 20)) E gwL_123 (by decide +kernel) rfl rfl (by decide) (kX12_write l e2).2 (kX12_write l e2).1 rfl rfl dL_law_1005 ⟨Nat.le_of_ble_eq_true rfl, Nat.le_of_ble_eq_true rfl⟩ ⟨(by show _ ≤ 600000; omega), (by show _ ≤ 7302250; omega)⟩ (Nat.le_of_ble_eq_true rfl) ?_
        refine v_icmp_eq (tgt := 1095) E dL_law_1008 (by decide) (fun _ => ?_) (fun q => absurd hq q)
        exact hend _ _ _ hR2 (by omega) (by omega)
      by_cases c27 : sw = 26
      · skip
        rw [c27] at hj
        obtain rfl : j = 26 := hj.symm
        cases ht
        obtain ⟨r1, r2, e1, e2, hq, hR2⟩ := hp.2.2.2.2.2.2.2.2.2.2.2.2.2.2.2.2.2.2.2.2.2.2.2.2.2.2.1 A hR
        refine v_aload_n E dL_law_1013 rfl ?_
        refine v_callV (na := 0) (As := []) (rest := []) (ci := 11) (q := (RX11, TX11, 8)) E gwL_124 (by decide +kernel) rfl rfl (by decide) (kX11_tear l e1).2 (kX11_tear l e1).1 rfl rfl dL_law_1014 ⟨Nat.le_of_ble_eq_true rfl, Nat.le_of_ble_eq_true rfl⟩ ⟨(by show _ ≤ 600000; omega), (by show _ ≤ 7302250; omega)⟩ (Nat.le_of_ble_eq_true rfl) ?_
        refine v_aload_n E dL_law_1017 rfl ?_
        refine v_callV (na := 0) (As := []) (rest := [vI r1.1]) (ci := 12) (q := (RX12, TX12, 20)) E gwL_127 (by decide +kernel) rfl rfl (by decide) (kX12_tear l e2).2 (kX12_tear l e2).1 rfl rfl dL_law_1018 ⟨Nat.le_of_ble_eq_true rfl, Nat.le_of_ble_eq_true rfl⟩ ⟨(by show _ ≤ 600000; omega), (by show _ ≤ 7302250; omega)⟩ (Nat.le_of_ble_eq_true rfl) ?_
        refine v_icmp_eq (tgt := 1095) E dL_law_1021 (by decide) (fun _ => ?_) (fun q => absurd hq q)
        exact hend _ _ _ hR2 (by omega) (by omega)
      by_cases c28 : sw = 27
      · skip
        rw [c28] at hj
        obtain rfl : j = 27 := hj.symm
        cases ht
        obtain ⟨r1, r2, e1, e2, hq, hR2⟩ := hp.2.2.2.2.2.2.2.2.2.2.2.2.2.2.2.2.2.2.2.2.2.2.2.2.2.2.2.1 A hR (xs (Int32.ofNat (5 * t) + 1).toNatClampNeg)
        refine v_aload_n E dL_law_1026 rfl ?_
        refine v_aload_n E dL_law_1027 rfl ?_
        refine v_iload_n E dL_law_1028 rfl ?_
        refine v_iconst (v := 1) E dL_law_1029 (by decide) ?_
        refine v_iadd E dL_law_1030 ?_
        refine v_sld E hX hbl hb1 dL_law_1031 ?_
        refine v_callV (na := 1) (As := [vI (xs (Int32.ofNat (5 * t) + 1).toNatClampNeg)]) (rest := []) (ci := 11) (q := (RX11, TX11, 8)) E gwL_128 (by decide +kernel) rfl rfl (by decide) (kX11_seed l e1).2 (kX11_seed l e1).1 rfl rfl dL_law_1032 ⟨Nat.le_of_ble_eq_true rfl, Nat.le_of_ble_eq_true rfl⟩ ⟨(by show _ ≤ 600000; omega), (by show _ ≤ 7302250; omega)⟩ (Nat.le_of_ble_eq_true rfl) ?_
        refine v_aload_n E dL_law_1035 rfl ?_
        refine v_aload_n E dL_law_1036 rfl ?_
        refine v_iload_n E dL_law_1037 rfl ?_
        refine v_iconst (v := 1) E dL_law_1038 (by decide) ?_
        refine v_iadd E dL_law_1039 ?_
        refine v_sld E hX hbl hb1 dL_law_1040 ?_
        refine v_callV (na := 1) (As := [vI (xs (Int32.ofNat (5 * t) + 1).toNatClampNeg)]) (rest := [vI r1.1]) (ci := 12) (q := (RX12, TX12, 20)) E gwL_131 (by decide +kernel) rfl rfl (by decide) (kX12_seed l e2).2 (kX12_seed l e2).1 rfl rfl dL_law_1041 ⟨Nat.le_of_ble_eq_true rfl, Nat.le_of_ble_eq_true rfl⟩ ⟨(by show _ ≤ 600000; omega), (by show _ ≤ 7302250; omega)⟩ (Nat.le_of_ble_eq_true rfl) ?_
        refine v_icmp_eq (tgt := 1095) E dL_law_1044 (by decide) (fun _ => ?_) (fun q => absurd hq q)
        exact hend _ _ _ hR2 (by omega) (by omega)
      by_cases c29 : sw = 28
      · skip
        rw [c29] at hj
        obtain rfl : j = 28 := hj.symm
        cases ht
        obtain ⟨r1, r2, e1, e2, hq, hR2⟩ := hp.2.2.2.2.2.2.2.2.2.2.2.2.2.2.2.2.2.2.2.2.2.2.2.2.2.2.2.2.1 A hR (xs (Int32.ofNat (5 * t) + 1).toNatClampNeg)
        refine v_aload_n E dL_law_1049 rfl ?_
        refine v_aload_n E dL_law_1050 rfl ?_
        refine v_iload_n E dL_law_1051 rfl ?_
        refine v_iconst (v := 1) E dL_law_1052 (by decide) ?_
        refine v_iadd E dL_law_1053 ?_
        refine v_sld E hX hbl hb1 dL_law_1054 ?_
        refine v_callV (na := 1) (As := [vI (xs (Int32.ofNat (5 * t) + 1).toNatClampNeg)]) (rest := []) (ci := 11) (q := (RX11, TX11, 8)) E gwL_132 (by decide +kernel) rfl rfl (by decide) (kX11_keep l e1).2 (kX11_keep l e1).1 rfl rfl dL_law_1055 ⟨Nat.le_of_ble_eq_true rfl, Nat.le_of_ble_eq_true rfl⟩ ⟨(by show _ ≤ 600000; omega), (by show _ ≤ 7302250; omega)⟩ (Nat.le_of_ble_eq_true rfl) ?_
        refine v_aload_n E dL_law_1058 rfl ?_
        refine v_aload_n E dL_law_1059 rfl ?_
        refine v_iload_n E dL_law_1060 rfl ?_
        refine v_iconst (v := 1) E dL_law_1061 (by decide) ?_
        refine v_iadd E dL_law_1062 ?_
        refine v_sld E hX hbl hb1 dL_law_1063 ?_
        refine v_callV (na := 1) (As := [vI (xs (Int32.ofNat (5 * t) + 1).toNatClampNeg)]) (rest := [vI r1.1]) (ci := 12) (q := (RX12, TX12, 20)) E gwL_135 (by decide +kernel) rfl rfl (by decide) (kX12_keep l e2).2 (kX12_keep l e2).1 rfl rfl dL_law_1064 ⟨Nat.le_of_ble_eq_true rfl, Nat.le_of_ble_eq_true rfl⟩ ⟨(by show _ ≤ 600000; omega), (by show _ ≤ 7302250; omega)⟩ (Nat.le_of_ble_eq_true rfl) ?_
        refine v_icmp_eq (tgt := 1095) E dL_law_1067 (by decide) (fun _ => ?_) (fun q => absurd hq q)
        exact hend _ _ _ hR2 (by omega) (by omega)
      by_cases c30 : sw = 29
      · skip
        rw [c30] at hj
        obtain rfl : j = 29 := hj.symm
        cases ht
        obtain ⟨r1, r2, e1, e2, hq, hR2⟩ := hp.2.2.2.2.2.2.2.2.2.2.2.2.2.2.2.2.2.2.2.2.2.2.2.2.2.2.2.2.2 A hR (xs (Int32.ofNat (5 * t) + 1).toNatClampNeg)
        refine v_aload_n E dL_law_1072 rfl ?_
        refine v_aload_n E dL_law_1073 rfl ?_
        refine v_iload_n E dL_law_1074 rfl ?_
        refine v_iconst (v := 1) E dL_law_1075 (by decide) ?_
        refine v_iadd E dL_law_1076 ?_
        refine v_sld E hX hbl hb1 dL_law_1077 ?_
        refine v_callV (na := 1) (As := [vI (xs (Int32.ofNat (5 * t) + 1).toNatClampNeg)]) (rest := []) (ci := 11) (q := (RX11, TX11, 8)) E gwL_136 (by decide +kernel) rfl rfl (by decide) (kX11_goBack l e1).2 (kX11_goBack l e1).1 rfl rfl dL_law_1078 ⟨Nat.le_of_ble_eq_true rfl, Nat.le_of_ble_eq_true rfl⟩ ⟨(by show _ ≤ 600000; omega), (by show _ ≤ 7302250; omega)⟩ (Nat.le_of_ble_eq_true rfl) ?_
        refine v_aload_n E dL_law_1081 rfl ?_
        refine v_aload_n E dL_law_1082 rfl ?_
        refine v_iload_n E dL_law_1083 rfl ?_
        refine v_iconst (v := 1) E dL_law_1084 (by decide) ?_
        refine v_iadd E dL_law_1085 ?_
        refine v_sld E hX hbl hb1 dL_law_1086 ?_
        refine v_callV (na := 1) (As := [vI (xs (Int32.ofNat (5 * t) + 1).toNatClampNeg)]) (rest := [vI r1.1]) (ci := 12) (q := (RX12, TX12, 20)) E gwL_139 (by decide +kernel) rfl rfl (by decide) (kX12_goBack l e2).2 (kX12_goBack l e2).1 rfl rfl dL_law_1087 ⟨Nat.le_of_ble_eq_true rfl, Nat.le_of_ble_eq_true rfl⟩ ⟨(by show _ ≤ 600000; omega), (by show _ ≤ 7302250; omega)⟩ (Nat.le_of_ble_eq_true rfl) ?_
        refine v_icmp_eq (tgt := 1095) E dL_law_1090 (by decide) (fun _ => ?_) (fun q => absurd hq q)
        exact hend _ _ _ hR2 (by omega) (by omega)
      have hd : t = 1095 := by
        match j, hj, ht with
        | 0, hj, ht => exact absurd (Int32.toInt_inj.mp ((swi_val hj (by decide)).trans (by decide : (0 : Int) + ((0 : Nat) : Int) = (0 : Int32).toInt))) c1
        | 1, hj, ht => exact absurd (Int32.toInt_inj.mp ((swi_val hj (by decide)).trans (by decide : (0 : Int) + ((1 : Nat) : Int) = (1 : Int32).toInt))) c2
        | 2, hj, ht => exact absurd (Int32.toInt_inj.mp ((swi_val hj (by decide)).trans (by decide : (0 : Int) + ((2 : Nat) : Int) = (2 : Int32).toInt))) c3
        | 3, hj, ht => exact absurd (Int32.toInt_inj.mp ((swi_val hj (by decide)).trans (by decide : (0 : Int) + ((3 : Nat) : Int) = (3 : Int32).toInt))) c4
        | 4, hj, ht => exact absurd (Int32.toInt_inj.mp ((swi_val hj (by decide)).trans (by decide : (0 : Int) + ((4 : Nat) : Int) = (4 : Int32).toInt))) c5
        | 5, hj, ht => exact absurd (Int32.toInt_inj.mp ((swi_val hj (by decide)).trans (by decide : (0 : Int) + ((5 : Nat) : Int) = (5 : Int32).toInt))) c6
        | 6, hj, ht => exact absurd (Int32.toInt_inj.mp ((swi_val hj (by decide)).trans (by decide : (0 : Int) + ((6 : Nat) : Int) = (6 : Int32).toInt))) c7
        | 7, hj, ht => exact absurd (Int32.toInt_inj.mp ((swi_val hj (by decide)).trans (by decide : (0 : Int) + ((7 : Nat) : Int) = (7 : Int32).toInt))) c8
        | 8, hj, ht => exact absurd (Int32.toInt_inj.mp ((swi_val hj (by decide)).trans (by decide : (0 : Int) + ((8 : Nat) : Int) = (8 : Int32).toInt))) c9
        | 9, hj, ht => exact absurd (Int32.toInt_inj.mp ((swi_val hj (by decide)).trans (by decide : (0 : Int) + ((9 : Nat) : Int) = (9 : Int32).toInt))) c10
        | 10, hj, ht => exact absurd (Int32.toInt_inj.mp ((swi_val hj (by decide)).trans (by decide : (0 : Int) + ((10 : Nat) : Int) = (10 : Int32).toInt))) c11
        | 11, hj, ht => exact absurd (Int32.toInt_inj.mp ((swi_val hj (by decide)).trans (by decide : (0 : Int) + ((11 : Nat) : Int) = (11 : Int32).toInt))) c12
        | 12, hj, ht => exact absurd (Int32.toInt_inj.mp ((swi_val hj (by decide)).trans (by decide : (0 : Int) + ((12 : Nat) : Int) = (12 : Int32).toInt))) c13
        | 13, hj, ht => exact absurd (Int32.toInt_inj.mp ((swi_val hj (by decide)).trans (by decide : (0 : Int) + ((13 : Nat) : Int) = (13 : Int32).toInt))) c14
        | 14, hj, ht => exact absurd (Int32.toInt_inj.mp ((swi_val hj (by decide)).trans (by decide : (0 : Int) + ((14 : Nat) : Int) = (14 : Int32).toInt))) c15
        | 15, hj, ht => exact absurd (Int32.toInt_inj.mp ((swi_val hj (by decide)).trans (by decide : (0 : Int) + ((15 : Nat) : Int) = (15 : Int32).toInt))) c16
        | 16, hj, ht => exact absurd (Int32.toInt_inj.mp ((swi_val hj (by decide)).trans (by decide : (0 : Int) + ((16 : Nat) : Int) = (16 : Int32).toInt))) c17
        | 17, hj, ht => exact absurd (Int32.toInt_inj.mp ((swi_val hj (by decide)).trans (by decide : (0 : Int) + ((17 : Nat) : Int) = (17 : Int32).toInt))) c18
        | 18, hj, ht => exact absurd (Int32.toInt_inj.mp ((swi_val hj (by decide)).trans (by decide : (0 : Int) + ((18 : Nat) : Int) = (18 : Int32).toInt))) c19
        | 19, hj, ht => exact absurd (Int32.toInt_inj.mp ((swi_val hj (by decide)).trans (by decide : (0 : Int) + ((19 : Nat) : Int) = (19 : Int32).toInt))) c20
        | 20, hj, ht => exact absurd (Int32.toInt_inj.mp ((swi_val hj (by decide)).trans (by decide : (0 : Int) + ((20 : Nat) : Int) = (20 : Int32).toInt))) c21
        | 21, hj, ht => exact absurd (Int32.toInt_inj.mp ((swi_val hj (by decide)).trans (by decide : (0 : Int) + ((21 : Nat) : Int) = (21 : Int32).toInt))) c22
        | 22, hj, ht => exact absurd (Int32.toInt_inj.mp ((swi_val hj (by decide)).trans (by decide : (0 : Int) + ((22 : Nat) : Int) = (22 : Int32).toInt))) c23
        | 23, hj, ht => exact absurd (Int32.toInt_inj.mp ((swi_val hj (by decide)).trans (by decide : (0 : Int) + ((23 : Nat) : Int) = (23 : Int32).toInt))) c24
        | 24, hj, ht => exact absurd (Int32.toInt_inj.mp ((swi_val hj (by decide)).trans (by decide : (0 : Int) + ((24 : Nat) : Int) = (24 : Int32).toInt))) c25
        | 25, hj, ht => exact absurd (Int32.toInt_inj.mp ((swi_val hj (by decide)).trans (by decide : (0 : Int) + ((25 : Nat) : Int) = (25 : Int32).toInt))) c26
        | 26, hj, ht => exact absurd (Int32.toInt_inj.mp ((swi_val hj (by decide)).trans (by decide : (0 : Int) + ((26 : Nat) : Int) = (26 : Int32).toInt))) c27
        | 27, hj, ht => exact absurd (Int32.toInt_inj.mp ((swi_val hj (by decide)).trans (by decide : (0 : Int) + ((27 : Nat) : Int) = (27 : Int32).toInt))) c28
        | 28, hj, ht => exact absurd (Int32.toInt_inj.mp ((swi_val hj (by decide)).trans (by decide : (0 : Int) + ((28 : Nat) : Int) = (28 : Int32).toInt))) c29
        | 29, hj, ht => exact absurd (Int32.toInt_inj.mp ((swi_val hj (by decide)).trans (by decide : (0 : Int) + ((29 : Nat) : Int) = (29 : Int32).toInt))) c30
        | 30, hj, ht => cases ht; rfl
        | j + 31, hj, ht => simp at ht
      subst hd
      exact hend _ _ _ hR (by omega) (by omega)
