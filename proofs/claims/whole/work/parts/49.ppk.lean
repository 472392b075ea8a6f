/-! deeds of the reference: poke -/
def pkL (L : Nat → Nat) (k o : Nat) (tw : Bool) : Nat → List Nat
  | 0 => []
  | i + 1 => if i = k ∨ i = o then ((pkL L k o tw i ++ [L i]) ++ [if i = o ∧ tw = true then 11 else 10]) ++ [if i = o ∧ tw = true then 10 else 11] else pkL L k o tw i ++ [L i]
theorem pkL_len (L : Nat → Nat) {k o : Nat} (tw : Bool) (hko : k ≠ o) : ∀ i, (pkL L k o tw i).length = i + (if k < i then 2 else 0) + (if o < i then 2 else 0)
  | 0 => by show 0 = _; rw [if_neg (by omega), if_neg (by omega)]
  | i + 1 => by
    have ih := pkL_len L tw hko i
    show (if i = k ∨ i = o then ((pkL L k o tw i ++ [L i]) ++ [if i = o ∧ tw = true then 11 else 10]) ++ [if i = o ∧ tw = true then 10 else 11] else pkL L k o tw i ++ [L i]).length = _
    by_cases q : i = k ∨ i = o
    · rw [if_pos q, List.length_append, List.length_append, List.length_append, ih]
      show i + _ + _ + 1 + 1 + 1 = _
      rcases q with q | q
      · rw [if_neg (by omega : ¬ k < i), if_pos (by omega : k < i + 1)]
        have : (o < i + 1) = (o < i) := propext (by omega)
        simp only [this]; omega
      · rw [if_neg (by omega : ¬ o < i), if_pos (by omega : o < i + 1)]
        have : (k < i + 1) = (k < i) := propext (by omega)
        simp only [this]; omega
    · rw [if_neg q, List.length_append, ih]
      show i + _ + _ + 1 = _
      have e1 : (o < i + 1) = (o < i) := propext (by omega)
      have e2 : (k < i + 1) = (k < i) := propext (by omega)
      simp only [e1, e2]; omega
theorem pk_two (b : Prop) [Decidable b] (v : Nat) : ((if (if b then 11 else 10) = v then 1 else 0) + (if (if b then 10 else 11) = v then 1 else 0) : Nat) = if v = 10 ∨ v = 11 then 1 else 0 := by
  by_cases h : b
  · rw [if_pos h, if_pos h]; split <;> split <;> (try split) <;> omega
  · rw [if_neg h, if_neg h]; split <;> split <;> (try split) <;> omega
theorem pkL_oc (L : Nat → Nat) {k o : Nat} (tw : Bool) (v : Nat) (hko : k ≠ o) : ∀ i, oc (pkL L k o tw i) v = occ L v i + (if k < i ∧ (v = 10 ∨ v = 11) then 1 else 0) + (if o < i ∧ (v = 10 ∨ v = 11) then 1 else 0)
  | 0 => by show oc [] v = _; rw [oc_nil, if_neg (by omega), if_neg (by omega)]; rfl
  | i + 1 => by
    have ih := pkL_oc L tw v hko i
    have h2 := pk_two (i = o ∧ tw = true) v
    show oc (if i = k ∨ i = o then ((pkL L k o tw i ++ [L i]) ++ [if i = o ∧ tw = true then 11 else 10]) ++ [if i = o ∧ tw = true then 10 else 11] else pkL L k o tw i ++ [L i]) v = occ L v i + (if L i = v then 1 else 0) + _ + _
    by_cases q : i = k ∨ i = o
    · rw [if_pos q, oc_app, oc_app, oc_app, ih]
      rcases q with q | q
      · rw [if_neg (by omega : ¬ (k < i ∧ (v = 10 ∨ v = 11)))]
        have e1 : (k < i + 1 ∧ (v = 10 ∨ v = 11)) = (v = 10 ∨ v = 11) := propext (by omega)
        have e2 : (o < i + 1 ∧ (v = 10 ∨ v = 11)) = (o < i ∧ (v = 10 ∨ v = 11)) := propext (by omega)
        simp only [e1, e2]; omega
      · rw [if_neg (by omega : ¬ (o < i ∧ (v = 10 ∨ v = 11)))]
        have e1 : (o < i + 1 ∧ (v = 10 ∨ v = 11)) = (v = 10 ∨ v = 11) := propext (by omega)
        have e2 : (k < i + 1 ∧ (v = 10 ∨ v = 11)) = (k < i ∧ (v = 10 ∨ v = 11)) := propext (by omega)
        simp only [e1, e2]; omega
    · rw [if_neg q, oc_app, ih]
      have e1 : (o < i + 1 ∧ (v = 10 ∨ v = 11)) = (o < i ∧ (v = 10 ∨ v = 11)) := propext (by omega)
      have e2 : (k < i + 1 ∧ (v = 10 ∨ v = 11)) = (k < i ∧ (v = 10 ∨ v = 11)) := propext (by omega)
      simp only [e1, e2]; omega
theorem pkL_b {L : Nat → Nat} {k o : Nat} {tw : Bool} : ∀ {n : Nat}, (∀ i, i < n → L i < 1000) → ∀ v ∈ pkL L k o tw n, v < 1000
  | 0, _, v, hv => by cases hv
  | n + 1, h, v, hv => by
    have hA : ∀ v ∈ pkL L k o tw n ++ [L n], v < 1000 := by
      intro v hv
      rcases List.mem_append.mp hv with z | z
      · exact pkL_b (fun i hi => h i (by omega)) v z
      · rw [List.mem_singleton] at z; rw [z]; exact h n (by omega)
    have hv : v ∈ (if n = k ∨ n = o then ((pkL L k o tw n ++ [L n]) ++ [if n = o ∧ tw = true then 11 else 10]) ++ [if n = o ∧ tw = true then 10 else 11] else pkL L k o tw n ++ [L n]) := hv
    split at hv
    · rcases List.mem_append.mp hv with z | z
      · rcases List.mem_append.mp z with z | z
        · exact hA v z
        · rw [List.mem_singleton] at z; rw [z]; split <;> omega
      · rw [List.mem_singleton] at z; rw [z]; split <;> omega
    · exact hA v hv
def wPo (w : Wrd) (k o : Nat) (tw : Bool) : List Nat := pkL w.2.1 k o tw (2 * w.1)
theorem wPo_len {w : Wrd} {k o : Nat} {tw : Bool} (hko : k ≠ o) (hk : k < 2 * w.1) (ho : o < 2 * w.1) : (wPo w k o tw).length = 2 * w.1 + 4 := by
  unfold wPo
  rw [pkL_len _ _ hko, if_pos hk, if_pos ho]
theorem wPo_dbl {w : Wrd} (hw : WOK w) {k o : Nat} {tw : Bool} (hko : k ≠ o) (hk : k < 2 * w.1) (ho : o < 2 * w.1) : Dbl (lD (wPo w k o tw)) (wPo w k o tw).length :=
  Dbl_oc fun v => by
    unfold wPo
    have := hw.1.1
    rw [pkL_oc _ _ _ hko, VW_occ hw.1]
    split <;> split <;> split <;> omega
abbrev isSp (s : St) (x y : Int32) : Prop := 0 ≤ y.toInt ∧ y.toInt < ((max 1 (2 * ((sSh s).2 x.toInt.toNat).1) : Nat) : Int)
abbrev uPo (s : St) (x y z : Int32) : Prop := (0 ≤ x.toInt ∧ x.toInt < (sSh s).1) ∧ isSp s x y ∧ isSp s x z ∧ y.toInt ≠ z.toInt
abbrev uWy (v : Int32) : Prop := 0 ≤ v.toInt ∧ v.toInt ≤ 1
def ePk (s : St) (x y z v : Int32) : St := if (uPo s x y z ∧ uWy v) ∧ ((sSh s).2 x.toInt.toNat).1 ≤ 6 then reW s x.toInt.toNat (lD (wPo ((sSh s).2 x.toInt.toNat) y.toInt.toNat z.toInt.toNat (decide (v.toInt = 1)))) (wPo ((sSh s).2 x.toInt.toNat) y.toInt.toNat z.toInt.toNat (decide (v.toInt = 1))).length else s
def oPk (s : St) (x y z v : Int32) : Int32 := if uPo s x y z then (if uWy v then (if ((sSh s).2 x.toInt.toNat).1 ≤ 6 then I (((wPo ((sSh s).2 x.toInt.toNat) y.toInt.toNat z.toInt.toNat (decide (v.toInt = 1))).length / 2 : Nat) : Int) else -1000000004) else -1000000002) else -1000000001
section DD
variable {A : AH} {m t n : Nat} {s : St} {l : List Nat}
theorem ePk_ok (hk : StOK s) (x y z v : Int32) : StOK (ePk s x y z v) := by
  unfold ePk
  split
  · rename_i q
    obtain ⟨⟨⟨q1, q2, q3, q4⟩, q5⟩, q6⟩ := q
    have hw := hk.1.2 x.toInt.toNat (by omega)
    have h2 := hw.1.1
    have d1 : y.toInt.toNat ≠ z.toInt.toNat := by omega
    have d2 : y.toInt.toNat < 2 * ((sSh s).2 x.toInt.toNat).1 := by omega
    have d3 : z.toInt.toNat < 2 * ((sSh s).2 x.toInt.toNat).1 := by omega
    exact reW_ok hk (by rw [wPo_len d1 d2 d3]; omega) (wPo_dbl hw d1 d2 d3)
  · exact hk
theorem M_poke (h : RF A m s) (hk : StOK s) (x y z v : Int32) : ∃ r, fX12_poke A (some m) x y z v = some r ∧ r.1 = oPk s x y z v ∧ RF r.2 m (ePk s x y z v) ∧ Mm m A r.2 := by
  unfold fX12_poke oPk ePk
  rw [h.1.rc, bs, M_isW h hk x, bs]
  by_cases q : 0 ≤ x.toInt ∧ x.toInt < (sSh s).1
  rotate_left
  · rw [if_pos (bI0.mpr q), if_neg (fun z => q z.1), if_neg (fun z => q z.1.1.1)]; exact ⟨_, rfl, rfl, h, Mm.rf⟩
  obtain ⟨t, ht, t2⟩ := wz q
  have hx : x = I (t : Int) := lit_eq t2
  have hV := hk.vw ht
  have hN := hV.1
  unfold uPo isSp
  rw [if_neg (fun z => bI0.mp z q), t2, Int.toNat_natCast, hx, M_isSt h hk ht y, bs]
  by_cases q2 : 0 ≤ y.toInt ∧ y.toInt < ((max 1 (2 * ((sSh s).2 t).1) : Nat) : Int)
  rotate_left
  · rw [if_pos (bI0.mpr q2), if_neg (fun z => q2 z.2.1), if_neg (fun z => q2 z.1.1.2.1)]; exact ⟨_, rfl, rfl, h, Mm.rf⟩
  rw [if_neg (fun z => bI0.mp z q2), M_isSt h hk ht z, bs]
  by_cases q3 : 0 ≤ z.toInt ∧ z.toInt < ((max 1 (2 * ((sSh s).2 t).1) : Nat) : Int)
  rotate_left
  · rw [if_pos (bI0.mpr q3), if_neg (fun z => q3 z.2.2.1), if_neg (fun z => q3 z.1.1.2.2.1)]; exact ⟨_, rfl, rfl, h, Mm.rf⟩
  rw [if_neg (fun z => bI0.mp z q3)]
  by_cases q4 : y.toInt = z.toInt
  · rw [if_pos (Int32.toInt_inj.mp q4), if_neg (fun z => z.2.2.2 q4), if_neg (fun z => z.1.1.2.2.2 q4)]; exact ⟨_, rfl, rfl, h, Mm.rf⟩
  rw [if_neg (fun e => q4 (by rw [e])), M_in, bs, Int32.toInt_toInt64, show (0 : Int64).toInt = 0 from rfl, show (1 : Int64).toInt = 1 from rfl]
  obtain ⟨k, hk1, k2⟩ := wz q2
  have hy : y = I (k : Int) := lit_eq k2
  obtain ⟨o, ho1, o2⟩ := wz q3
  have hz : z = I (o : Int) := lit_eq o2
  have q5 : (0 ≤ (t : Int) ∧ (t : Int) < (sSh s).1) ∧ (0 ≤ (k : Int) ∧ (k : Int) < ((max 1 (2 * ((sSh s).2 t).1) : Nat) : Int)) ∧ (0 ≤ (o : Int) ∧ (o : Int) < ((max 1 (2 * ((sSh s).2 t).1) : Nat) : Int)) ∧ (k : Int) ≠ (o : Int) := ⟨by omega, by omega, by omega, by omega⟩
  rw [k2, o2, Int.toNat_natCast, Int.toNat_natCast, if_pos q5]
  by_cases q6 : 0 ≤ v.toInt ∧ v.toInt ≤ 1
  rotate_left
  · rw [if_pos (bI0.mpr q6), if_neg q6, if_neg (fun z => q6 z.1.2)]; exact ⟨_, rfl, rfl, h, Mm.rf⟩
  rw [if_neg (fun z => bI0.mp z q6), if_pos q6, M_size h.1 (h.we hk ht), bs, L_2, I_add]
  by_cases q7 : ((sSh s).2 t).1 ≤ 6
  rotate_left
  · rw [if_neg (show ¬ I _ ≤ (8 : Int32) from le_n (b := 8) (by omega)), if_neg q7, if_neg (fun z => q7 z.2)]; exact ⟨_, rfl, rfl, h, Mm.rf⟩
  obtain ⟨B, b1, b2, b3⟩ := M_minds h hk
  have hk' := stMind_ok hk
  have hWB : WE B m t ((sSh s).2 t).1 ((sSh s).2 t).2.1 := b2.we hk' (t := t) ht
  have e2 : I (2 : Int) * I (((sSh s).2 t).1 : Int) = I ((2 * ((sSh s).2 t).1 : Nat) : Int) := by rw [I_mul]; congr 1
  have hko : k ≠ o := by omega
  have hk9 : k < 2 * ((sSh s).2 t).1 := by omega
  have ho9 : o < 2 * ((sSh s).2 t).1 := by omega
  have hv1 : (v = 1) ↔ v.toInt = 1 := ⟨fun e => by rw [e]; rfl, fun e => lit_eq e⟩
  have q9 : (((0 ≤ (t : Int) ∧ (t : Int) < (sSh s).1) ∧ (0 ≤ (k : Int) ∧ (k : Int) < ((max 1 (2 * ((sSh s).2 t).1) : Nat) : Int)) ∧ (0 ≤ (o : Int) ∧ (o : Int) < ((max 1 (2 * ((sSh s).2 t).1) : Nat) : Int)) ∧ (k : Int) ≠ (o : Int)) ∧ uWy v) ∧ ((sSh s).2 t).1 ≤ 6 := ⟨⟨q5, q6⟩, q7⟩
  rw [if_pos (show I _ ≤ (8 : Int32) from le_y (b := 8) (by omega)), if_pos q7, if_pos q9, b1, bs, pI_ok b2.1.k, bs, hy, hz]
  obtain ⟨tw, htw⟩ : ∃ tw, tw = decide (v.toInt = 1) := ⟨_, rfl⟩
  rw [← htw]
  refine for_eb (2 * ((sSh s).2 t).1) (fun i u => u.1 = I i ∧ Ms m B u.2 ∧ MdL u.2 m (pkL ((sSh s).2 t).2.1 k o tw i)) (fun C => Ms m B C ∧ MdL C m (wPo ((sSh s).2 t) k o tw)) ⟨rfl, Ms.si (by omega), MdL.nil⟩ ?_ ?_ ?_
  · rintro i ⟨u1, u2⟩ hi ⟨e1, g1, g2⟩
    dsimp only at e1 g1 g2 ⊢
    subst e1
    have hlen := pkL_len ((sSh s).2 t).2.1 tw hko i
    have hlen' : (pkL ((sSh s).2 t).2.1 k o tw i).length ≤ 16 := by rw [hlen]; split <;> split <;> omega
    have hs : pkL ((sSh s).2 t).2.1 k o tw (i + 1) = if i = k ∨ i = o then ((pkL ((sSh s).2 t).2.1 k o tw i ++ [((sSh s).2 t).2.1 i]) ++ [if i = o ∧ tw = true then 11 else 10]) ++ [if i = o ∧ tw = true then 10 else 11] else pkL ((sSh s).2 t).2.1 k o tw i ++ [((sSh s).2 t).2.1 i] := rfl
    have hM' := b2.1.ms g1
    have hW := hWB.ms g1
    obtain ⟨C, c1, c2, c3⟩ := M_comesL hM' g2 (by omega) (((sSh s).2 t).2.1 i)
    have hC := hM'.ms c2.1
    obtain ⟨D, d1, d2, d3⟩ := M_comesL hC c3 (by rw [List.length_append]; show _ + 1 < 32; omega) (if i = o ∧ tw = true then 11 else 10)
    obtain ⟨E, f1, f2, f3⟩ := M_comesL (hC.ms d2.1) d3 (by rw [List.length_append, List.length_append]; show _ + 1 + 1 < 32; omega) (if i = o ∧ tw = true then 10 else 11)
    have x22 : (if I (i : Int) = I (o : Int) then (if v = 1 then (1 : Int32) else 0) else 0) = bI (i = o ∧ tw = true) := by
      by_cases z1 : i = o
      · rw [if_pos (by rw [z1])]
        by_cases z2 : v.toInt = 1
        · rw [if_pos (hv1.mpr z2)]; exact (bI1.mpr ⟨z1, by rw [htw]; exact decide_eq_true z2⟩).symm
        · rw [if_neg (fun e => z2 (hv1.mp e))]; exact (bI0.mpr (fun e => z2 (by have := e.2; rw [htw] at this; exact of_decide_eq_true this))).symm
      · rw [if_neg (eq_n (by omega))]; exact (bI0.mpr (fun e => z1 e.1)).symm
    have x25 : (if bI (i = o ∧ tw = true) = 0 then (10 : Int32) else 11) = I ((if i = o ∧ tw = true then 11 else 10 : Nat) : Int) := by
      by_cases z1 : i = o ∧ tw = true
      · rw [if_neg (fun e => bI0.mp e z1), if_pos z1]; rfl
      · rw [if_pos (bI0.mpr z1), if_neg z1]; rfl
    have x29 : (if bI (i = o ∧ tw = true) = 0 then (11 : Int32) else 10) = I ((if i = o ∧ tw = true then 10 else 11 : Nat) : Int) := by
      by_cases z1 : i = o ∧ tw = true
      · rw [if_neg (fun e => bI0.mp e z1), if_pos z1]; rfl
      · rw [if_pos (bI0.mpr z1), if_neg z1]; rfl
    rw [M_size hM' hW, bs, e2, if_neg (le_n (by omega)), M_letterAt hM' hW hi, bs, c1, bs, jp_eq, jp_eq]
    simp only [jp1_eq]
    rw [x22, x25, d1, bs, x29, f1, bs]
    by_cases z : i = k ∨ i = o
    · refine ⟨(I ((i + 1 : Nat) : Int), E), ?_, rfl, ((g1.tr c2.1).tr d2.1).tr f2.1, by dsimp only; rw [hs, if_pos z]; exact f3⟩
      rw [cst, ← I_add]
      rcases z with z | z
      · rw [if_pos (by rw [z])]; rfl
      · by_cases z3 : I (i : Int) = I (k : Int)
        · rw [if_pos z3]; rfl
        · rw [if_neg z3, if_pos (by rw [z])]; rfl
    · rw [if_neg (eq_n (by omega)), if_neg (eq_n (by omega))]
      exact ⟨_, rfl, by dsimp only; rw [L_1, I_add, ← cst], g1.tr c2.1, by dsimp only; rw [hs, if_neg z]; exact c3⟩
  · rintro ⟨u1, u2⟩ ⟨e1, g1, g2⟩
    dsimp only at e1 g1 g2 ⊢
    subst e1
    exact ⟨u2, by rw [M_size (b2.1.ms g1) (hWB.ms g1), bs, e2, if_pos (le_y (by omega))], g1, g2⟩
  · rintro C ⟨g1, g2⟩
    have h' := b2.ms g1
    have h3 := wPo_len (w := (sSh s).2 t) (tw := tw) hko hk9 ho9
    obtain ⟨r, r1, r2, r3, r4⟩ := M_laysL h' hk' (t := t) ht (by omega) (wPo_dbl (hk.1.2 t ht) hko hk9 ho9) g2 (pkL_b (fun i hi => by have := (hV.2.2 i hi).1; omega))
    rw [r1, bs]
    exact ⟨_, rfl, r2, r3, (b3.mm.tr g1.mm).tr r4.mm⟩
end DD
