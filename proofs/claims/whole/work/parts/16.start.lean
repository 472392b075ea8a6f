theorem nest_in : (nestW.all (fun q => decide (Cond.methodLinkNest q.1 q.2.1 q.2.2.1 q.2.2.2 ∈ lw_tbl))) = true := by decide +kernel
theorem ao_in : Cond.arrayOver (.object "OneStrokes$Image") ∈ lw_tbl ∧ Cond.arrayOver (.object "OneStrokes$Shelf") ∈ lw_tbl ∧ Cond.arrayOver (.object "OneStrokes$Word") ∈ lw_tbl := by decide +kernel
theorem ar_in : Cond.arrayClass .int ∈ lw_tbl ∧ Cond.arrayClass .boolean ∈ lw_tbl := by decide +kernel
theorem ar_get {args : Array Value} {s : State} {ty : FieldType} (hp : ty = .int ∨ ty = .boolean) (h : (Cond.arrayClass ty).before args s = true) : ∃ cA : ClassId, ArrOfT s cA ty ∧ va_RA s cA ty := by
  obtain ⟨c, k, comp, h1, h2, h3⟩ := Cond.arrayClass_spec h
  refine ⟨c, fun n z => ⟨fun q h => (by cases h), k, h2, comp, h3⟩, ?_⟩
  rcases hp with rfl | rfl
  · exact h1
  · exact h1
theorem ao_get {args : Array Value} {s : State} {C : String} (h : (Cond.arrayOver (.object C)).before args s = true) : ∃ cA : ClassId, ArrOfT s cA (.object C) ∧ va_RA s cA (.object C) := by
  obtain ⟨comp, c, k, h1, h2, h3, h4, h5⟩ := Cond.arrayOver_spec h
  exact ⟨c, fun n z => ⟨fun q h => (by cases h), k, h3, comp, h4⟩, k, comp, h3, h4, h1, h5⟩
theorem WH.zero {D : va_G} {cy : Nat → ClassId} {H : Heap} : WH H.size D cy (A00 H.size) H :=
  ⟨rfl, fun a h => absurd rfl h, fun a _ f => ⟨rfl, rfl, rfl, rfl, rfl⟩, Nat.le_refl _, fun a h => absurd rfl h⟩
set_option maxHeartbeats 4000000 in
set_option maxRecDepth 100000 in
theorem whole_open (hp : ∀ base : Nat, ∃ Rel : AH → Prop, INIT base Rel ∧ LAWOK base (base + 22) Rel) {p : Program} {e : Env} {s : State} {m : MethodId} {below : List Frame} {meth : Method} {c : Code} (l : Launch) {b L : Nat} {xs : Nat → Int32} (hL : L ≤ 2560) (C0 : lw_At p s m meth c b L xs) : W p l e room_1 s m #[Value.ref b] below meth c s.heap [] 0 0 (lw_Z below #[Value.ref b] s) (entryFrame m ([Value.ref b] : List Value).toArray 4) := by
  obtain ⟨hx, hb, hr, hml, hown, hts, hX, hbl, hlocks, hgv⟩ := id C0
  have htg : ∀ w ∈ lw_g, w.before #[Value.ref b] s = true := fun w h => hts w (List.mem_filter.mp h).1
  obtain ⟨c0, iS0, hKn0⟩ := u_known (C := RX0) (T := TX0) (N := 3) (n := 3) htg inG0 (htg _ q142)
  obtain ⟨c1, iS1, hKn1⟩ := u_known (C := RX1) (T := TX1) (N := 2) (n := 2) htg inG1 (htg _ q205)
  obtain ⟨c2, iS2, hKn2⟩ := u_known (C := RX2) (T := TX2) (N := 1) (n := 1) htg inG2 (htg _ q195)
  obtain ⟨c3, iS3, hKn3⟩ := u_known (C := RX3) (T := TX3) (N := 8) (n := 8) htg inG3 (htg _ q573)
  obtain ⟨c4, iS4, hKn4⟩ := u_known (C := RX4) (T := TX4) (N := 3) (n := 3) htg inG4 (htg _ q218)
  obtain ⟨c5, iS5, hKn5⟩ := u_known (C := RX5) (T := TX5) (N := 3) (n := 3) htg inG5 (htg _ q158)
  obtain ⟨c6, iS6, hKn6⟩ := u_known (C := RX6) (T := TX6) (N := 3) (n := 3) htg inG6 (htg _ q177)
  obtain ⟨c7, iS7, hKn7⟩ := u_known (C := RX7) (T := TX7) (N := 14) (n := 14) htg inG7 (htg _ q334)
  obtain ⟨c8, iS8, hKn8⟩ := u_known (C := RX8) (T := TX8) (N := 2) (n := 2) htg inG8 (htg _ q110)
  obtain ⟨c9, iS9, hKn9⟩ := u_known (C := RX9) (T := TX9) (N := 3) (n := 3) htg inG9 (htg _ q125)
  obtain ⟨c10, iS10, hKn10⟩ := u_known (C := RX10) (T := TX10) (N := 3) (n := 3) htg inG10 (htg _ q332)
  obtain ⟨c11, iS11, hKn11⟩ := u_known (C := RX11) (T := TX11) (N := 8) (n := 8) htg inG11 (htg _ q102)
  obtain ⟨c12, iS12, hKn12⟩ := u_known (C := RX12) (T := TX12) (N := 20) (n := 20) htg inG12 (htg _ q1018)
  obtain ⟨dC, dI, hKc⟩ : ∃ (dC : Nat → ClassId) (dI : Nat → Nat → Nat), ∀ (k : Nat) (q : vw_C), vwCl[k]? = some q → u_Kn s q.1 q.2.1 q.2.2 (dC k) (dI k) := by
    refine ⟨fun k => if k = 0 then c0 else if k = 1 then c1 else if k = 2 then c2 else if k = 3 then c3 else if k = 4 then c4 else if k = 5 then c5 else if k = 6 then c6 else if k = 7 then c7 else if k = 8 then c8 else if k = 9 then c9 else if k = 10 then c10 else if k = 11 then c11 else c12, fun k => if k = 0 then iS0 else if k = 1 then iS1 else if k = 2 then iS2 else if k = 3 then iS3 else if k = 4 then iS4 else if k = 5 then iS5 else if k = 6 then iS6 else if k = 7 then iS7 else if k = 8 then iS8 else if k = 9 then iS9 else if k = 10 then iS10 else if k = 11 then iS11 else iS12, ?_⟩
    intro k q hq
    match k, hq with
    | 0, hq => cases hq; exact hKn0
    | 1, hq => cases hq; exact hKn1
    | 2, hq => cases hq; exact hKn2
    | 3, hq => cases hq; exact hKn3
    | 4, hq => cases hq; exact hKn4
    | 5, hq => cases hq; exact hKn5
    | 6, hq => cases hq; exact hKn6
    | 7, hq => cases hq; exact hKn7
    | 8, hq => cases hq; exact hKn8
    | 9, hq => cases hq; exact hKn9
    | 10, hq => cases hq; exact hKn10
    | 11, hq => cases hq; exact hKn11
    | 12, hq => cases hq; exact hKn12
    | k + 13, hq => simp [vwCl] at hq
  obtain ⟨a14, h14⟩ := ar_get (Or.inl rfl) (hts _ ar_in.1)
  obtain ⟨a15, h15⟩ := ar_get (Or.inr rfl) (hts _ ar_in.2)
  obtain ⟨a16, h16⟩ := ao_get (hts _ ao_in.1)
  obtain ⟨a17, h17⟩ := ao_get (hts _ ao_in.2.1)
  obtain ⟨a18, h18⟩ := ao_get (hts _ ao_in.2.2)
  obtain ⟨cy, hcy⟩ : ∃ cy : Nat → ClassId, cy 14 = a14 ∧ cy 15 = a15 ∧ cy 16 = a16 ∧ cy 17 = a17 ∧ cy 18 = a18 := ⟨fun k => if k = 14 then a14 else if k = 15 then a15 else if k = 16 then a16 else if k = 17 then a17 else a18, rfl, rfl, rfl, rfl, rfl⟩
  have hK : va_K (dC, dI) vwCl (tyl cy) s := by
    refine ⟨hKc, fun k q hq => ?_⟩
    unfold tyl at hq
    rw [hcy.1, hcy.2.1, hcy.2.2.1, hcy.2.2.2.1, hcy.2.2.2.2] at hq
    match k, hq with
    | 0, hq => cases hq; exact h14
    | 1, hq => cases hq; exact h15
    | 2, hq => cases hq; exact h16
    | 3, hq => cases hq; exact h17
    | 4, hq => cases hq; exact h18
    | k + 5, hq => simp at hq
  have hN : NW s := ⟨fun q hq => va_Nw.of rfl (hts _ (of_decide_eq_true (List.all_eq_true.mp nest_in q hq))), va_AO.of (hts _ ao_in.1), va_AO.of (hts _ ao_in.2.1), va_AO.of (hts _ ao_in.2.2)⟩
  have E : EN p s m #[Value.ref b] meth c (dC, dI) cy RL code 4 (some .boolean) meth.name := ⟨hx, hb, hml, hown, htg, hK, hN, hr, hlocks, rfl⟩
  obtain ⟨Rel, ⟨A2, A4, i1, i2, i3, hR⟩, hLO⟩ := hp s.heap.size
  have hV : V p l e room_1 s m #[Value.ref b] below meth c (lw_Z below #[Value.ref b] s) s.heap.size (dC, dI) cy 4 0 [some (vR (some b)), none, none, none] [] (A00 s.heap.size) 0 0 := by
    refine nL_7 E (Nat.le_of_ble_eq_true rfl) (Nat.le_of_ble_eq_true rfl) dL_law_0 ?_
    refine v_dup E dL_law_3 rfl ?_
    refine v_callI (na := 0) (As := []) (rest := [vR (some s.heap.size)]) E gwL_9 q103 q104 q86 rfl (by decide +kernel) (kX11_init l i1).2 (Exists.elim (kX11_init l i1).1 (fun a q => ⟨a, q.1⟩)) rfl rfl dL_law_4 ⟨Nat.le_of_ble_eq_true rfl, Nat.le_of_ble_eq_true rfl⟩ ⟨Nat.le_of_ble_eq_true rfl, Nat.le_of_ble_eq_true rfl⟩ (Nat.le_of_ble_eq_true rfl) ?_
    refine v_astore_n (lv' := [some (vR (some b)), some (vR (some s.heap.size)), none, none]) E dL_law_7 (by decide) rfl ?_
    refine nL_10 E (Nat.le_of_ble_eq_true rfl) (Nat.le_of_ble_eq_true rfl) dL_law_8 ?_
    rw [i2]
    refine v_dup E dL_law_11 rfl ?_
    refine v_callI (na := 0) (As := []) (rest := [vR (some (s.heap.size + 22))]) E gwL_12 q1019 q1020 q95 rfl (by decide +kernel) (kX12_init l i3).2 (Exists.elim (kX12_init l i3).1 (fun a q => ⟨a, q.1⟩)) rfl rfl dL_law_12 ⟨Nat.le_of_ble_eq_true rfl, Nat.le_of_ble_eq_true rfl⟩ ⟨Nat.le_of_ble_eq_true rfl, Nat.le_of_ble_eq_true rfl⟩ (Nat.le_of_ble_eq_true rfl) ?_
    refine v_astore_n (lv' := [some (vR (some b)), some (vR (some s.heap.size)), some (vR (some (s.heap.size + 22))), none]) E dL_law_15 (by decide) rfl ?_
    refine v_iconst (v := 0) E dL_law_16 (by decide) ?_
    refine v_istore_n (lv' := [some (vR (some b)), some (vR (some s.heap.size)), some (vR (some (s.heap.size + 22))), some (vI 0)]) E dL_law_17 (by decide) rfl ?_
    refine v_widen (k' := 100) (n' := 3000) (Nat.le_of_ble_eq_true rfl) (Nat.le_of_ble_eq_true rfl) ?_
    exact law_loop hLO hL E rfl hX hbl 513 0 A4 100 3000 hR rfl (by omega) (by omega)
  have h := hV s.heap [] _ WH.zero ⟨fun _ _ => rfl, fun _ h => by cases h⟩ (LH.entry (vs := [vR (some b)]) (n := 4) (by rw [slS_eq]; exact Nat.le_of_ble_eq_true rfl) 3)
  rw [lg_entry_eq]
  exact h
