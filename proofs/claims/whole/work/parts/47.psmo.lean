/-! deeds of the reference: smooth -/
theorem occ_none {D : Nat → Nat} {v : Nat} : ∀ {n : Nat}, (∀ i, i < n → D i ≠ v) → occ D v n = 0
  | 0, _ => rfl
  | n + 1, h => by
    show occ D v n + (if D n = v then 1 else 0) = 0
    rw [occ_none (fun i hi => h i (by omega)), if_neg (h n (by omega))]
theorem Dbl.occ {D : Nat → Nat} {n : Nat} (h : Dbl D n) (v : Nat) : occ D v n = 0 ∨ occ D v n = 2 := by
  by_cases q : ∃ i, i < n ∧ D i = v
  · obtain ⟨i, h1, h2⟩ := q
    right; rw [← h2]; exact h i h1
  · left; exact occ_none (fun i hi e => q ⟨i, hi, e⟩)
theorem woL_dbl' {D : Nat → Nat} {n : Nat} (h : Dbl D n) (c d : Nat) : Dbl (lD (woL D c d n)) (woL D c d n).length :=
  Dbl_oc fun v => by
    rw [woL_oc]
    split
    · exact Or.inl rfl
    · exact h.occ v
/-- the row with all between p and q turned round -/
def smS (p q i : Nat) : Nat := if p ≤ i ∧ i ≤ q then p + q - i else i
theorem smS_dbl {N : Nat} {L P Q : Nat → Nat} (hV : VW N L P Q) {p q : Nat} (hq : q < 2 * N) : Dbl (fun i => L (smS p q i)) (2 * N) := by
  have inv : ∀ j, j < 2 * N → smS p q j < 2 * N ∧ smS p q (smS p q j) = j := by
    intro j hj
    unfold smS
    by_cases z : p ≤ j ∧ j ≤ q
    · rw [if_pos z, if_pos (by omega)]; omega
    · rw [if_neg z, if_neg z]; exact ⟨hj, rfl⟩
  exact Dbl_perm hV (smS p q) (smS p q) inv inv
def wSm (w : Wrd) (c : Nat) : List Nat := woL (fun i => w.2.1 (smS (wP w c) (wQ w c) i)) c c (2 * w.1)
abbrev uLt (s : St) (x y : Int32) : Prop := (0 ≤ x.toInt ∧ x.toInt < (sSh s).1) ∧ (0 ≤ y.toInt ∧ y.toInt < ((sSh s).2 x.toInt.toNat).1)
def eSmo (s : St) (x y : Int32) : St := if uLt s x y then reW s x.toInt.toNat (lD (wSm ((sSh s).2 x.toInt.toNat) y.toInt.toNat)) (wSm ((sSh s).2 x.toInt.toNat) y.toInt.toNat).length else s
def oSmo (s : St) (x y : Int32) : Int32 := if uLt s x y then I (((wSm ((sSh s).2 x.toInt.toNat) y.toInt.toNat).length / 2 : Nat) : Int) else -1000000001
section DD
variable {A : AH} {m t n : Nat} {s : St} {l : List Nat}
theorem wSm_dbl {w : Wrd} (hw : WOK w) {c : Nat} (hc : c < w.1) : Dbl (lD (wSm w c)) (wSm w c).length :=
  woL_dbl' (smS_dbl hw.1 (hw.1.2.1 c hc).2.1) c c
theorem eSmo_ok (hk : StOK s) (x y : Int32) : StOK (eSmo s x y) := by
  unfold eSmo
  split
  · rename_i q
    have hw := hk.1.2 x.toInt.toNat (by have := q.1; omega)
    have h1 := woL_len (fun i => ((sSh s).2 x.toInt.toNat).2.1 (smS (wP ((sSh s).2 x.toInt.toNat) y.toInt.toNat) (wQ ((sSh s).2 x.toInt.toNat) y.toInt.toNat) i)) y.toInt.toNat y.toInt.toNat (2 * ((sSh s).2 x.toInt.toNat).1)
    have h2 := hw.1.1
    exact reW_ok hk (by unfold wSm; omega) (wSm_dbl hw (by have := q.2; omega))
  · exact hk
theorem M_smooth (h : RF A m s) (hk : StOK s) (x y : Int32) : ∃ r, fX12_smooth A (some m) x y = some r ∧ r.1 = oSmo s x y ∧ RF r.2 m (eSmo s x y) ∧ Mm m A r.2 := by
  unfold fX12_smooth oSmo eSmo
  rw [h.1.rc, bs, M_isW h hk x, bs]
  by_cases q : 0 ≤ x.toInt ∧ x.toInt < (sSh s).1
  rotate_left
  · rw [if_pos (bI0.mpr q), if_neg (fun z => q z.1), if_neg (fun z => q z.1)]; exact ⟨_, rfl, rfl, h, Mm.rf⟩
  obtain ⟨t, ht, t2⟩ := wz q
  have hx : x = I (t : Int) := lit_eq t2
  have hV := hk.vw ht
  have hN := hV.1
  unfold uLt
  rw [if_neg (fun z => bI0.mp z q), t2, Int.toNat_natCast, hx, M_isL h hk ht y, bs]
  by_cases q2 : 0 ≤ y.toInt ∧ y.toInt < ((sSh s).2 t).1
  rotate_left
  · rw [if_pos (bI0.mpr q2), if_neg (fun z => q2 z.2), if_neg (fun z => q2 z.2)]; exact ⟨_, rfl, rfl, h, Mm.rf⟩
  obtain ⟨c, hc, c2⟩ := wz q2
  have hy : y = I (c : Int) := lit_eq c2
  have q3 : (0 ≤ (t : Int) ∧ (t : Int) < (sSh s).1) ∧ (0 ≤ (c : Int) ∧ (c : Int) < ((sSh s).2 t).1) := ⟨by omega, by omega⟩
  obtain ⟨B, b1, b2, b3⟩ := M_minds h hk
  have hk' := stMind_ok hk
  obtain ⟨a1, a2, a3, a4⟩ := hV.2.1 c hc
  have hWB := b2.we hk' (t := t) ht
  have p0 : fX12_place B (some m) (I t) (I c) 0 = some (I (wP ((sSh s).2 t) c)) := M_pl0 b2.1 hWB hV hc
  have p1 : fX12_place B (some m) (I t) (I c) 1 = some (I (wQ ((sSh s).2 t) c)) := M_pl1 b2.1 hWB hV hc
  have e2 : (2 : Int32) * I (((sSh s).2 t).1 : Int) = I ((2 * ((sSh s).2 t).1 : Nat) : Int) := by rw [L_2, I_mul]; congr 1
  rw [if_neg (fun z => bI0.mp z q2), c2, Int.toNat_natCast, if_pos q3, if_pos q3, b1, bs, hy, p0, bs, p1, bs, pI_ok b2.1.k, bs]
  refine for_eb (2 * ((sSh s).2 t).1) (fun i u => u.1 = I i ∧ Ms m B u.2 ∧ MdL u.2 m (woL (fun i => ((sSh s).2 t).2.1 (smS (wP ((sSh s).2 t) c) (wQ ((sSh s).2 t) c) i)) c c i)) (fun C => Ms m B C ∧ MdL C m (wSm ((sSh s).2 t) c)) ⟨rfl, Ms.si (by omega), MdL.nil⟩ ?_ ?_ ?_
  · rintro i ⟨u1, u2⟩ hi ⟨e1, g1, g2⟩
    dsimp only at e1 g1 g2 ⊢
    subst e1
    have h' := b2.ms g1
    have hW : WE u2 m t ((sSh s).2 t).1 ((sSh s).2 t).2.1 := h'.we hk' (t := t) ht
    have hlen := woL_len (fun i => ((sSh s).2 t).2.1 (smS (wP ((sSh s).2 t) c) (wQ ((sSh s).2 t) c) i)) c c i
    have hs : woL (fun i => ((sSh s).2 t).2.1 (smS (wP ((sSh s).2 t) c) (wQ ((sSh s).2 t) c) i)) c c (i + 1) = if ((sSh s).2 t).2.1 (smS (wP ((sSh s).2 t) c) (wQ ((sSh s).2 t) c) i) = c ∨ ((sSh s).2 t).2.1 (smS (wP ((sSh s).2 t) c) (wQ ((sSh s).2 t) c) i) = c then woL (fun i => ((sSh s).2 t).2.1 (smS (wP ((sSh s).2 t) c) (wQ ((sSh s).2 t) c) i)) c c i else woL (fun i => ((sSh s).2 t).2.1 (smS (wP ((sSh s).2 t) c) (wQ ((sSh s).2 t) c) i)) c c i ++ [((sSh s).2 t).2.1 (smS (wP ((sSh s).2 t) c) (wQ ((sSh s).2 t) c) i)] := rfl
    have hsm : smS (wP ((sSh s).2 t) c) (wQ ((sSh s).2 t) c) i < 2 * ((sSh s).2 t).1 := by unfold smS; split <;> omega
    rw [M_size h'.1 hW, bs, e2, if_neg (le_n (by omega)), jp_eq]
    by_cases z1 : i = wP ((sSh s).2 t) c
    · have : ((sSh s).2 t).2.1 (smS (wP ((sSh s).2 t) c) (wQ ((sSh s).2 t) c) i) = c := by
        unfold smS; rw [if_pos (by omega), show wP ((sSh s).2 t) c + wQ ((sSh s).2 t) c - i = wQ ((sSh s).2 t) c by omega]; exact a4
      rw [if_pos (by rw [z1])]
      exact ⟨_, rfl, by dsimp only; rw [L_1, I_add, ← cst], g1, by dsimp only; rw [hs, if_pos (Or.inl this)]; exact g2⟩
    rw [if_neg (eq_n (by omega))]
    by_cases z2 : i = wQ ((sSh s).2 t) c
    · have : ((sSh s).2 t).2.1 (smS (wP ((sSh s).2 t) c) (wQ ((sSh s).2 t) c) i) = c := by
        unfold smS; rw [if_pos (by omega), show wP ((sSh s).2 t) c + wQ ((sSh s).2 t) c - i = wP ((sSh s).2 t) c by omega]; exact a3
      rw [if_pos (by rw [z2])]
      exact ⟨_, rfl, by dsimp only; rw [L_1, I_add, ← cst], g1, by dsimp only; rw [hs, if_pos (Or.inl this)]; exact g2⟩
    rw [if_neg (eq_n (by omega)), M_in3 _ (by omega) (by omega) (by omega), bs, jp1_eq]
    have hne : ¬ ((sSh s).2 t).2.1 (smS (wP ((sSh s).2 t) c) (wQ ((sSh s).2 t) c) i) = c := fun e => by
      have := (hV.2.2 _ hsm).2
      rw [e] at this
      unfold smS at this
      split at this <;> omega
    obtain ⟨C, c1, c2', c3⟩ := M_comesL h'.1 g2 (by omega) (((sSh s).2 t).2.1 (smS (wP ((sSh s).2 t) c) (wQ ((sSh s).2 t) c) i))
    have ev : (if bI ((wP ((sSh s).2 t) c : Int) ≤ (i : Int) ∧ (i : Int) ≤ (wQ ((sSh s).2 t) c : Int)) = 0 then I (i : Int) else I ((wP ((sSh s).2 t) c : Nat) : Int) + I ((wQ ((sSh s).2 t) c : Nat) : Int) - I (i : Int)) = I ((smS (wP ((sSh s).2 t) c) (wQ ((sSh s).2 t) c) i : Nat) : Int) := by
      unfold smS
      by_cases z : wP ((sSh s).2 t) c ≤ i ∧ i ≤ wQ ((sSh s).2 t) c
      · rw [if_neg (fun y => bI0.mp y (by omega)), if_pos z, I_add, I_sub]; congr 1; omega
      · rw [if_pos (bI0.mpr (by omega)), if_neg z]
    rw [ev, M_letterAt h'.1 hW hsm, bs, c1, bs]
    exact ⟨_, rfl, by dsimp only; rw [L_1, I_add, ← cst], g1.tr c2'.1, by dsimp only; rw [hs, if_neg (fun z => z.elim hne hne)]; exact c3⟩
  · rintro ⟨u1, u2⟩ ⟨e1, g1, g2⟩
    dsimp only at e1 g1 g2 ⊢
    subst e1
    have h' := b2.ms g1
    have hW : WE u2 m t ((sSh s).2 t).1 ((sSh s).2 t).2.1 := h'.we hk' (t := t) ht
    exact ⟨u2, by rw [M_size h'.1 hW, bs, e2, if_pos (le_y (by omega))], g1, g2⟩
  · rintro C ⟨g1, g2⟩
    have h' := b2.ms g1
    have hlen := woL_len (fun i => ((sSh s).2 t).2.1 (smS (wP ((sSh s).2 t) c) (wQ ((sSh s).2 t) c) i)) c c (2 * ((sSh s).2 t).1)
    obtain ⟨r, r1, r2, r3, r4⟩ := M_laysL h' hk' (t := t) ht (by unfold wSm; omega) (wSm_dbl (hk.1.2 t ht) hc) g2 (woL_b (fun i hi => by
      have : smS (wP ((sSh s).2 t) c) (wQ ((sSh s).2 t) c) i < 2 * ((sSh s).2 t).1 := by unfold smS; split <;> omega
      have := (hV.2.2 _ this).1
      omega))
    rw [r1, bs]
    exact ⟨_, rfl, r2, r3, (b3.mm.tr g1.mm).tr r4.mm⟩
end DD
