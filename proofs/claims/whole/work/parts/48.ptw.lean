/-! deeds of the reference: twist -/
def twA (L : Nat → Nat) (n i : Nat) (l : List Nat) : List Nat := if i < n then l ++ [L i] else l
def twL (L : Nat → Nat) (n k : Nat) : Nat → List Nat
  | 0 => []
  | i + 1 => if i = k then (twA L n i (twL L n k i) ++ [10]) ++ [10] else twA L n i (twL L n k i)
theorem twA_len (L : Nat → Nat) (n i : Nat) (l : List Nat) : (twA L n i l).length = l.length + (if i < n then 1 else 0) := by
  unfold twA
  split
  · rw [List.length_append]; rfl
  · rfl
theorem twL_len (L : Nat → Nat) (n k : Nat) : ∀ i, (twL L n k i).length = min i n + (if k < i then 2 else 0)
  | 0 => by show 0 = _; rw [if_neg (by omega)]; omega
  | i + 1 => by
    have ih := twL_len L n k i
    show (if i = k then (twA L n i (twL L n k i) ++ [10]) ++ [10] else twA L n i (twL L n k i)).length = _
    by_cases q : i = k
    · rw [if_pos q, List.length_append, List.length_append, twA_len, ih, if_neg (by omega : ¬ k < i), if_pos (by omega : k < i + 1)]
      show min i n + 0 + (if i < n then 1 else 0) + 1 + 1 = _
      split <;> omega
    · rw [if_neg q, twA_len, ih]
      have : (k < i + 1) = (k < i) := propext (by omega)
      simp only [this]
      split <;> split <;> omega
theorem twL_oc (L : Nat → Nat) (n k v : Nat) : ∀ i, oc (twL L n k i) v = occ L v (min i n) + (if k < i ∧ v = 10 then 2 else 0)
  | 0 => by show oc [] v = _; rw [oc_nil, if_neg (by omega), show min 0 n = 0 by omega]; rfl
  | i + 1 => by
    have ih := twL_oc L n k v i
    have hA : oc (twA L n i (twL L n k i)) v = occ L v (min (i + 1) n) + (if k < i ∧ v = 10 then 2 else 0) := by
      unfold twA
      by_cases q : i < n
      · rw [if_pos q, oc_app, ih, show min i n = i by omega, show min (i + 1) n = i + 1 by omega]
        show _ = occ L v i + (if L i = v then 1 else 0) + _
        omega
      · rw [if_neg q, ih, show min i n = min (i + 1) n by omega]
    show oc (if i = k then (twA L n i (twL L n k i) ++ [10]) ++ [10] else twA L n i (twL L n k i)) v = _
    by_cases q : i = k
    · rw [if_pos q, oc_app, oc_app, hA, if_neg (by omega : ¬ (k < i ∧ v = 10))]
      by_cases z : v = 10
      · rw [if_pos z.symm, if_pos ⟨by omega, z⟩]
      · rw [if_neg (fun e => z e.symm), if_neg (fun e => z e.2)]
    · rw [if_neg q, hA]
      have : (k < i + 1 ∧ v = 10) = (k < i ∧ v = 10) := propext (by omega)
      simp only [this]
theorem twL_b {L : Nat → Nat} {n k : Nat} (h : ∀ i, i < n → L i < 1000) : ∀ i, ∀ v ∈ twL L n k i, v < 1000
  | 0, v, hv => by cases hv
  | i + 1, v, hv => by
    have hA : ∀ v ∈ twA L n i (twL L n k i), v < 1000 := by
      intro v hv
      unfold twA at hv
      split at hv
      · rename_i q
        rcases List.mem_append.mp hv with z | z
        · exact twL_b h i v z
        · rw [List.mem_singleton] at z; rw [z]; exact h i q
      · exact twL_b h i v hv
    have hv : v ∈ (if i = k then (twA L n i (twL L n k i) ++ [10]) ++ [10] else twA L n i (twL L n k i)) := hv
    split at hv
    · rcases List.mem_append.mp hv with z | z
      · rcases List.mem_append.mp z with z | z
        · exact hA v z
        · rw [List.mem_singleton] at z; omega
      · rw [List.mem_singleton] at z; omega
    · exact hA v hv
def wTw (w : Wrd) (k : Nat) : List Nat := twL w.2.1 (2 * w.1) k (max 1 (2 * w.1))
theorem wTw_len {w : Wrd} {k : Nat} (hk : k < max 1 (2 * w.1)) : (wTw w k).length = 2 * w.1 + 2 := by
  unfold wTw
  rw [twL_len, if_pos hk]
  omega
theorem wTw_dbl {w : Wrd} (hw : WOK w) (k : Nat) : Dbl (lD (wTw w k)) (wTw w k).length :=
  Dbl_oc fun v => by
    unfold wTw
    have := hw.1.1
    rw [twL_oc, show min (max 1 (2 * w.1)) (2 * w.1) = 2 * w.1 by omega, VW_occ hw.1]
    split <;> split <;> omega
abbrev uSt (s : St) (x y : Int32) : Prop := (0 ≤ x.toInt ∧ x.toInt < (sSh s).1) ∧ (0 ≤ y.toInt ∧ y.toInt < ((max 1 (2 * ((sSh s).2 x.toInt.toNat).1) : Nat) : Int))
def eTw (s : St) (x y : Int32) : St := if uSt s x y ∧ ((sSh s).2 x.toInt.toNat).1 ≠ 8 then reW s x.toInt.toNat (lD (wTw ((sSh s).2 x.toInt.toNat) y.toInt.toNat)) (wTw ((sSh s).2 x.toInt.toNat) y.toInt.toNat).length else s
def oTw (s : St) (x y : Int32) : Int32 := if uSt s x y then (if ((sSh s).2 x.toInt.toNat).1 = 8 then -1000000004 else I (((wTw ((sSh s).2 x.toInt.toNat) y.toInt.toNat).length / 2 : Nat) : Int)) else -1000000001
section DD
variable {A : AH} {m t n : Nat} {s : St} {l : List Nat}
theorem eTw_ok (hk : StOK s) (x y : Int32) : StOK (eTw s x y) := by
  unfold eTw
  split
  · rename_i q
    have hw := hk.1.2 x.toInt.toNat (by have := q.1.1; omega)
    have h2 := hw.1.1
    have h3 := wTw_len (w := (sSh s).2 x.toInt.toNat) (k := y.toInt.toNat) (by have := q.1.2; omega)
    exact reW_ok hk (by have := q.2; omega) (wTw_dbl hw _)
  · exact hk
theorem M_isSt (h : RF A m s) (hk : StOK s) (ht : t < (sSh s).1) (y : Int32) : fX12_isStep A (some m) (I t) y = some (bI (0 ≤ y.toInt ∧ y.toInt < ((max 1 (2 * ((sSh s).2 t).1) : Nat) : Int))) := by
  have e := M_isStep h.1 (h.we hk ht) (Bd_of y)
  rw [← I_of] at e
  rw [e]
theorem M_twist (h : RF A m s) (hk : StOK s) (x y : Int32) : ∃ r, fX12_twist A (some m) x y = some r ∧ r.1 = oTw s x y ∧ RF r.2 m (eTw s x y) ∧ Mm m A r.2 := by
  unfold fX12_twist oTw eTw
  rw [h.1.rc, bs, M_isW h hk x, bs]
  by_cases q : 0 ≤ x.toInt ∧ x.toInt < (sSh s).1
  rotate_left
  · rw [if_pos (bI0.mpr q), if_neg (fun z => q z.1), if_neg (fun z => q z.1.1)]; exact ⟨_, rfl, rfl, h, Mm.rf⟩
  obtain ⟨t, ht, t2⟩ := wz q
  have hx : x = I (t : Int) := lit_eq t2
  have hV := hk.vw ht
  have hN := hV.1
  unfold uSt
  rw [if_neg (fun z => bI0.mp z q), t2, Int.toNat_natCast, hx, M_isSt h hk ht y, bs]
  by_cases q2 : 0 ≤ y.toInt ∧ y.toInt < ((max 1 (2 * ((sSh s).2 t).1) : Nat) : Int)
  rotate_left
  · rw [if_pos (bI0.mpr q2), if_neg (fun z => q2 z.2), if_neg (fun z => q2 z.1.2)]; exact ⟨_, rfl, rfl, h, Mm.rf⟩
  obtain ⟨k, hk1, k2⟩ := wz q2
  have hy : y = I (k : Int) := lit_eq k2
  have q3 : (0 ≤ (t : Int) ∧ (t : Int) < (sSh s).1) ∧ (0 ≤ (k : Int) ∧ (k : Int) < ((max 1 (2 * ((sSh s).2 t).1) : Nat) : Int)) := ⟨by omega, by omega⟩
  rw [if_neg (fun z => bI0.mp z q2), k2, Int.toNat_natCast, if_pos q3, M_size h.1 (h.we hk ht), bs]
  by_cases q4 : ((sSh s).2 t).1 = 8
  · rw [if_pos (by rw [q4]; rfl), if_pos q4, if_neg (fun z => z.2 q4)]; exact ⟨_, rfl, rfl, h, Mm.rf⟩
  obtain ⟨B, b1, b2, b3⟩ := M_minds h hk
  have hk' := stMind_ok hk
  have hWB : WE B m t ((sSh s).2 t).1 ((sSh s).2 t).2.1 := b2.we hk' (t := t) ht
  have e2 : (2 : Int32) * I (((sSh s).2 t).1 : Int) = I ((2 * ((sSh s).2 t).1 : Nat) : Int) := by rw [L_2, I_mul]; congr 1
  rw [if_neg (show ¬ I (((sSh s).2 t).1 : Int) = 8 from eq_n (b := 8) (by omega)), if_neg q4, if_pos ⟨q3, q4⟩, b1, bs, M_size b2.1 hWB, bs, pI_ok b2.1.k, bs, e2, hy]
  refine for_eb (max 1 (2 * ((sSh s).2 t).1)) (fun i u => u.1 = I i ∧ Ms m B u.2 ∧ MdL u.2 m (twL ((sSh s).2 t).2.1 (2 * ((sSh s).2 t).1) k i)) (fun C => Ms m B C ∧ MdL C m (wTw ((sSh s).2 t) k)) ⟨rfl, Ms.si (by omega), MdL.nil⟩ ?_ ?_ ?_
  · rintro i ⟨u1, u2⟩ hi ⟨e1, g1, g2⟩
    dsimp only at e1 g1 g2 ⊢
    subst e1
    have hlen := twL_len ((sSh s).2 t).2.1 (2 * ((sSh s).2 t).1) k i
    have hlen' : (twL ((sSh s).2 t).2.1 (2 * ((sSh s).2 t).1) k i).length ≤ 18 := by rw [hlen]; split <;> omega
    have hlA := twA_len ((sSh s).2 t).2.1 (2 * ((sSh s).2 t).1) i (twL ((sSh s).2 t).2.1 (2 * ((sSh s).2 t).1) k i)
    have hs : twL ((sSh s).2 t).2.1 (2 * ((sSh s).2 t).1) k (i + 1) = if i = k then (twA ((sSh s).2 t).2.1 (2 * ((sSh s).2 t).1) i (twL ((sSh s).2 t).2.1 (2 * ((sSh s).2 t).1) k i) ++ [10]) ++ [10] else twA ((sSh s).2 t).2.1 (2 * ((sSh s).2 t).1) i (twL ((sSh s).2 t).2.1 (2 * ((sSh s).2 t).1) k i) := rfl
    have fin : ∀ C, Ms m B C → MdL C m (twA ((sSh s).2 t).2.1 (2 * ((sSh s).2 t).1) i (twL ((sSh s).2 t).2.1 (2 * ((sSh s).2 t).1) k i)) → ∃ s', (if I (i : Int) = I (k : Int) then (fX12_comes C (some m) 10).bind fun r20 => (fX12_comes r20 (some m) 10).bind fun r21 => (some (.inl ((I (i : Int) + 1), r21)) : Option ((Int32 × AH) ⊕ AH)) else some (.inl ((I (i : Int) + 1), C))) = some (.inl s') ∧ s'.1 = I ((i + 1 : Nat) : Int) ∧ Ms m B s'.2 ∧ MdL s'.2 m (twL ((sSh s).2 t).2.1 (2 * ((sSh s).2 t).1) k (i + 1)) := by
      intro C y1 y2
      have hC := b2.1.ms y1
      have hl2 : (twA ((sSh s).2 t).2.1 (2 * ((sSh s).2 t).1) i (twL ((sSh s).2 t).2.1 (2 * ((sSh s).2 t).1) k i)).length ≤ 19 := by rw [hlA]; split <;> omega
      by_cases z : i = k
      · obtain ⟨D, d1, d2, d3⟩ := M_comesL hC y2 (by omega) 10
        have d1 : fX12_comes C (some m) 10 = some D := d1
        obtain ⟨E, f1, f2, f3⟩ := M_comesL (hC.ms d2.1) d3 (by rw [List.length_append]; show _ + 1 < 32; omega) 10
        have f1 : fX12_comes D (some m) 10 = some E := f1
        rw [if_pos (by rw [z]), d1, bs, f1, bs]
        exact ⟨_, rfl, by dsimp only; rw [L_1, I_add, ← cst], (y1.tr d2.1).tr f2.1, by dsimp only; rw [hs, if_pos z]; exact f3⟩
      · rw [if_neg (eq_n (by omega))]
        exact ⟨_, rfl, by dsimp only; rw [L_1, I_add, ← cst], y1, by dsimp only; rw [hs, if_neg z]; exact y2⟩
    have hM' := b2.1.ms g1
    have hW := hWB.ms g1
    have mid : ∃ s', (if I ((2 * ((sSh s).2 t).1 : Nat) : Int) ≤ I (i : Int) then (if I (i : Int) = I (k : Int) then (fX12_comes u2 (some m) 10).bind fun r20 => (fX12_comes r20 (some m) 10).bind fun r21 => (some (.inl ((I (i : Int) + 1), r21)) : Option ((Int32 × AH) ⊕ AH)) else some (.inl ((I (i : Int) + 1), u2))) else (fX12_letterAt u2 (some m) (I t) (I i)).bind fun r15 => (fX12_comes u2 (some m) r15).bind fun r16 => (if I (i : Int) = I (k : Int) then (fX12_comes r16 (some m) 10).bind fun r20 => (fX12_comes r20 (some m) 10).bind fun r21 => (some (.inl ((I (i : Int) + 1), r21)) : Option ((Int32 × AH) ⊕ AH)) else some (.inl ((I (i : Int) + 1), r16)))) = some (.inl s') ∧ s'.1 = I ((i + 1 : Nat) : Int) ∧ Ms m B s'.2 ∧ MdL s'.2 m (twL ((sSh s).2 t).2.1 (2 * ((sSh s).2 t).1) k (i + 1)) := by
      by_cases z : i < 2 * ((sSh s).2 t).1
      · obtain ⟨C, c1, c2, c3⟩ := M_comesL hM' g2 (by omega) (((sSh s).2 t).2.1 i)
        rw [if_neg (le_n (by omega)), M_letterAt hM' hW z, bs, c1, bs]
        refine fin C (g1.tr c2.1) ?_
        unfold twA
        rw [if_pos z]
        exact c3
      · rw [if_pos (le_y (by omega))]
        refine fin u2 g1 ?_
        unfold twA
        rw [if_neg z]
        exact g2
    rw [jp_eq]
    by_cases z : i < 2 * ((sSh s).2 t).1
    · rw [if_pos (lt_y (by omega))]
      exact mid
    · rw [if_neg (lt_n (by omega)), if_pos (show I (i : Int) = 0 by rw [show i = 0 by omega]; rfl)]
      exact mid
  · rintro ⟨u1, u2⟩ ⟨e1, g1, g2⟩
    dsimp only at e1 g1 g2 ⊢
    subst e1
    exact ⟨u2, by rw [jp_eq, if_neg (lt_n (by omega)), if_neg (show ¬ I ((max 1 (2 * ((sSh s).2 t).1) : Nat) : Int) = 0 from eq_n (b := 0) (by omega))], g1, g2⟩
  · rintro C ⟨g1, g2⟩
    have h' := b2.ms g1
    have h3 := wTw_len (w := (sSh s).2 t) (k := k) hk1
    obtain ⟨r, r1, r2, r3, r4⟩ := M_laysL h' hk' (t := t) ht (by omega) (wTw_dbl (hk.1.2 t ht) k) g2 (twL_b (fun i hi => by have := (hV.2.2 i hi).1; omega) _)
    rw [r1, bs]
    exact ⟨_, rfl, r2, r3, (b3.mm.tr g1.mm).tr r4.mm⟩
end DD
