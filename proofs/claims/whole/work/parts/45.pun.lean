/-! deeds of the reference: untwist, unpoke -/
/-- word t without letters c and d -/
def wWo (w : Wrd) (c d : Nat) : Wrd := wMade (lD (woL w.2.1 c d (2 * w.1))) (woL w.2.1 c d (2 * w.1)).length
def oWo (w : Wrd) (c d : Nat) : Int32 := I (((woL w.2.1 c d (2 * w.1)).length / 2 : Nat) : Int)
theorem wWo_ok {w : Wrd} (hw : WOK w) (c d : Nat) : WOK (wWo w c d) := by
  have := woL_len w.2.1 c d (2 * w.1)
  have := hw.1.1
  exact wMade_ok (by omega) (woL_dbl hw.1 c d)
abbrev uTw (s : St) (x y : Int32) : Prop := (0 ≤ x.toInt ∧ x.toInt < (sSh s).1) ∧ (0 ≤ y.toInt ∧ y.toInt < ((sSh s).2 x.toInt.toNat).1)
abbrev wLp (w : Wrd) (c : Nat) : Prop := bsd w.1 (wP w c) (wQ w c)
def eUntw (s : St) (x y : Int32) : St := if uTw s x y ∧ wLp ((sSh s).2 x.toInt.toNat) y.toInt.toNat then setW (stMind s) x.toInt.toNat (wWo ((sSh s).2 x.toInt.toNat) y.toInt.toNat y.toInt.toNat) else s
def oUntw (s : St) (x y : Int32) : Int32 := if uTw s x y then (if wLp ((sSh s).2 x.toInt.toNat) y.toInt.toNat then oWo ((sSh s).2 x.toInt.toNat) y.toInt.toNat y.toInt.toNat else -1000000003) else -1000000001
section DD
variable {A : AH} {m t n : Nat} {s : St} {l : List Nat}
theorem eUntw_ok (hk : StOK s) (x y : Int32) : StOK (eUntw s x y) := by
  unfold eUntw
  split
  · rename_i q
    exact setW_ok (stMind_ok hk) (wWo_ok (hk.1.2 _ (by have := q.1.1; omega)) _ _)
  · exact hk
theorem M_isL (h : RF A m s) (hk : StOK s) (ht : t < (sSh s).1) (y : Int32) : fX12_isLetter A (some m) (I t) y = some (bI (0 ≤ y.toInt ∧ y.toInt < ((sSh s).2 t).1)) := by
  have e := M_isLetter h.1 (h.we hk ht) (Bd_of y)
  rw [← I_of] at e
  exact e
theorem M_untwist (h : RF A m s) (hk : StOK s) (x y : Int32) : ∃ r, fX12_untwist A (some m) x y = some r ∧ r.1 = oUntw s x y ∧ RF r.2 m (eUntw s x y) ∧ Mm m A r.2 := by
  unfold fX12_untwist oUntw eUntw
  rw [h.1.rc, bs, M_isW h hk x, bs]
  by_cases q : 0 ≤ x.toInt ∧ x.toInt < (sSh s).1
  rotate_left
  · rw [if_pos (bI0.mpr q), if_neg (fun z => q z.1), if_neg (fun z => q z.1.1)]; exact ⟨_, rfl, rfl, h, Mm.rf⟩
  obtain ⟨t, ht, t2⟩ := wz q
  have hx : x = I (t : Int) := lit_eq t2
  have hV := hk.vw ht
  have hN := hV.1
  unfold uTw
  rw [if_neg (fun z => bI0.mp z q), t2, Int.toNat_natCast, hx, M_isL h hk ht y, bs]
  by_cases q2 : 0 ≤ y.toInt ∧ y.toInt < ((sSh s).2 t).1
  rotate_left
  · rw [if_pos (bI0.mpr q2), if_neg (fun z => q2 z.2), if_neg (fun z => q2 z.1.2)]; exact ⟨_, rfl, rfl, h, Mm.rf⟩
  obtain ⟨c, hc, c2⟩ := wz q2
  have hy : y = I (c : Int) := lit_eq c2
  have q3 : (0 ≤ (t : Int) ∧ (t : Int) < (sSh s).1) ∧ (0 ≤ y.toInt ∧ y.toInt < ((sSh s).2 t).1) := ⟨by omega, q2⟩
  rw [if_neg (fun z => bI0.mp z q2), if_pos q3, hy, M_isLoop h.1 (h.we hk ht) hV hc, bs, ← hy, c2, Int.toNat_natCast]
  by_cases q4 : wLp ((sSh s).2 t) c
  rotate_left
  · rw [if_pos (bI0.mpr q4), if_neg q4, if_neg (fun z => q4 z.2)]; exact ⟨_, rfl, rfl, h, Mm.rf⟩
  obtain ⟨B, b1, b2, b3⟩ := M_minds h hk
  obtain ⟨r, r1, r2, r3, r4⟩ := M_without b2 (stMind_ok hk) (t := t) ht (c := c) (d := c) (by omega) (by omega)
  rw [c2] at q3
  rw [if_neg (fun z => bI0.mp z q4), if_pos q4, if_pos ⟨q3, q4⟩, b1, bs, hy, r1, bs]
  exact ⟨_, rfl, r2, r3, b3.mm.tr r4⟩
abbrev wPk (w : Wrd) (c d : Nat) : Prop := (bsd w.1 (wP w c) (wP w d) ∧ bsd w.1 (wQ w c) (wQ w d)) ∨ (bsd w.1 (wP w c) (wQ w d) ∧ bsd w.1 (wQ w c) (wP w d))
abbrev uPk (s : St) (x y z : Int32) : Prop := (0 ≤ x.toInt ∧ x.toInt < (sSh s).1) ∧ (0 ≤ y.toInt ∧ y.toInt < ((sSh s).2 x.toInt.toNat).1) ∧ (0 ≤ z.toInt ∧ z.toInt < ((sSh s).2 x.toInt.toNat).1) ∧ y.toInt ≠ z.toInt
def eUnpk (s : St) (x y z : Int32) : St := if uPk s x y z ∧ wPk ((sSh s).2 x.toInt.toNat) y.toInt.toNat z.toInt.toNat then setW (stMind s) x.toInt.toNat (wWo ((sSh s).2 x.toInt.toNat) y.toInt.toNat z.toInt.toNat) else s
def oUnpk (s : St) (x y z : Int32) : Int32 := if uPk s x y z then (if wPk ((sSh s).2 x.toInt.toNat) y.toInt.toNat z.toInt.toNat then oWo ((sSh s).2 x.toInt.toNat) y.toInt.toNat z.toInt.toNat else -1000000003) else -1000000001
theorem eUnpk_ok (hk : StOK s) (x y z : Int32) : StOK (eUnpk s x y z) := by
  unfold eUnpk
  split
  · rename_i q
    exact setW_ok (stMind_ok hk) (wWo_ok (hk.1.2 _ (by have := q.1.1; omega)) _ _)
  · exact hk
theorem M_unpoke (h : RF A m s) (hk : StOK s) (x y z : Int32) : ∃ r, fX12_unpoke A (some m) x y z = some r ∧ r.1 = oUnpk s x y z ∧ RF r.2 m (eUnpk s x y z) ∧ Mm m A r.2 := by
  unfold fX12_unpoke oUnpk eUnpk
  rw [h.1.rc, bs, M_isW h hk x, bs]
  by_cases q : 0 ≤ x.toInt ∧ x.toInt < (sSh s).1
  rotate_left
  · rw [if_pos (bI0.mpr q), if_neg (fun z => q z.1), if_neg (fun z => q z.1.1)]; exact ⟨_, rfl, rfl, h, Mm.rf⟩
  obtain ⟨t, ht, t2⟩ := wz q
  have hx : x = I (t : Int) := lit_eq t2
  have hV := hk.vw ht
  have hN := hV.1
  have hW := h.we hk ht
  unfold uPk
  rw [if_neg (fun z => bI0.mp z q), t2, Int.toNat_natCast, hx, M_isL h hk ht y, bs]
  by_cases q2 : 0 ≤ y.toInt ∧ y.toInt < ((sSh s).2 t).1
  rotate_left
  · rw [if_pos (bI0.mpr q2), if_neg (fun z => q2 z.2.1), if_neg (fun z => q2 z.1.2.1)]; exact ⟨_, rfl, rfl, h, Mm.rf⟩
  rw [if_neg (fun z => bI0.mp z q2), M_isL h hk ht z, bs]
  by_cases q3 : 0 ≤ z.toInt ∧ z.toInt < ((sSh s).2 t).1
  rotate_left
  · rw [if_pos (bI0.mpr q3), if_neg (fun z => q3 z.2.2.1), if_neg (fun z => q3 z.1.2.2.1)]; exact ⟨_, rfl, rfl, h, Mm.rf⟩
  rw [if_neg (fun z => bI0.mp z q3)]
  by_cases q4 : y.toInt = z.toInt
  · rw [if_pos (Int32.toInt_inj.mp q4), if_neg (fun z => z.2.2.2 q4), if_neg (fun z => z.1.2.2.2 q4)]; exact ⟨_, rfl, rfl, h, Mm.rf⟩
  rw [if_neg (fun e => q4 (by rw [e]))]
  obtain ⟨c, hc, c2⟩ := wz q2
  have hy : y = I (c : Int) := lit_eq c2
  obtain ⟨d, hd, d2⟩ := wz q3
  have hz : z = I (d : Int) := lit_eq d2
  have q5 : (0 ≤ (t : Int) ∧ (t : Int) < (sSh s).1) ∧ (0 ≤ (c : Int) ∧ (c : Int) < ((sSh s).2 t).1) ∧ (0 ≤ (d : Int) ∧ (d : Int) < ((sSh s).2 t).1) ∧ (c : Int) ≠ (d : Int) := ⟨by omega, by omega, by omega, by omega⟩
  obtain ⟨a1, a2, a3, a4⟩ := hV.2.1 c hc
  obtain ⟨e1, e2, e3, e4⟩ := hV.2.1 d hd
  have p0 := M_pl0 h.1 hW hV hc
  have p1 := M_pl1 h.1 hW hV hc
  have p2 := M_pl0 h.1 hW hV hd
  have p3 := M_pl1 h.1 hW hV hd
  have fin : ∀ v : Int32, v = bI (wPk ((sSh s).2 t) c d) → ∃ r, (if v = 0 then some ((-1000000003 : Int32), A) else (fX12_minds A (some m)).bind fun r20 => (fX12_without r20 (some m) (I t) (I c) (I d)).bind fun r21 => some (r21.1, r21.2)) = some r ∧ r.1 = (if wPk ((sSh s).2 t) c d then oWo ((sSh s).2 t) c d else -1000000003) ∧ RF r.2 m (if ((0 ≤ (t : Int) ∧ (t : Int) < (sSh s).1) ∧ (0 ≤ (c : Int) ∧ (c : Int) < ((sSh s).2 t).1) ∧ (0 ≤ (d : Int) ∧ (d : Int) < ((sSh s).2 t).1) ∧ (c : Int) ≠ (d : Int)) ∧ wPk ((sSh s).2 t) c d then setW (stMind s) t (wWo ((sSh s).2 t) c d) else s) ∧ Mm m A r.2 := by
    intro v hv
    rw [hv]
    by_cases q6 : wPk ((sSh s).2 t) c d
    · obtain ⟨B, b1, b2, b3⟩ := M_minds h hk
      obtain ⟨r, r1, r2, r3, r4⟩ := M_without b2 (stMind_ok hk) (t := t) ht (c := c) (d := d) (by omega) (by omega)
      rw [if_neg (fun z => bI0.mp z q6), if_pos q6, if_pos ⟨q5, q6⟩, b1, bs, r1, bs]
      exact ⟨_, rfl, r2, r3, b3.mm.tr r4⟩
    · rw [if_pos (bI0.mpr q6), if_neg q6, if_neg (fun z => q6 z.2)]
      exact ⟨_, rfl, rfl, h, Mm.rf⟩
  rw [c2, d2, Int.toNat_natCast, Int.toNat_natCast, if_pos q5, hy, hz]
  have p0 : fX12_place A (some m) (I t) (I c) 0 = some (I (wP ((sSh s).2 t) c)) := p0
  have p1 : fX12_place A (some m) (I t) (I c) 1 = some (I (wQ ((sSh s).2 t) c)) := p1
  have p2 : fX12_place A (some m) (I t) (I d) 0 = some (I (wP ((sSh s).2 t) d)) := p2
  have p3 : fX12_place A (some m) (I t) (I d) 1 = some (I (wQ ((sSh s).2 t) d)) := p3
  rw [p0, bs, p1, bs, p2, bs, p3, bs, M_areBeside h.1 hW (by omega) (by omega), bs, jp_eq, jp_eq]
  by_cases f1 : bsd ((sSh s).2 t).1 (wP ((sSh s).2 t) c) (wP ((sSh s).2 t) d)
  · rw [if_neg (fun z => bI0.mp z f1), M_areBeside h.1 hW (by omega) (by omega), bs]
    by_cases f2 : bsd ((sSh s).2 t).1 (wQ ((sSh s).2 t) c) (wQ ((sSh s).2 t) d)
    · rw [if_neg (fun z => bI0.mp z f2)]
      exact fin 1 (bI1.mpr (Or.inl ⟨f1, f2⟩)).symm
    · rw [if_pos (bI0.mpr f2)]
      dsimp only
      rw [M_areBeside h.1 hW (by omega) (by omega), bs]
      by_cases f3 : bsd ((sSh s).2 t).1 (wP ((sSh s).2 t) c) (wQ ((sSh s).2 t) d)
      · rw [if_neg (fun z => bI0.mp z f3), M_areBeside h.1 hW (by omega) (by omega), bs]
        by_cases f4 : bsd ((sSh s).2 t).1 (wQ ((sSh s).2 t) c) (wP ((sSh s).2 t) d)
        · rw [if_neg (fun z => bI0.mp z f4)]
          exact fin 1 (bI1.mpr (Or.inr ⟨f3, f4⟩)).symm
        · rw [if_pos (bI0.mpr f4)]
          exact fin 0 (bI0.mpr (fun z => z.elim (fun e => f2 e.2) (fun e => f4 e.2))).symm
      · rw [if_pos (bI0.mpr f3)]
        exact fin 0 (bI0.mpr (fun z => z.elim (fun e => f2 e.2) (fun e => f3 e.1))).symm
  · rw [if_pos (bI0.mpr f1)]
    dsimp only
    rw [M_areBeside h.1 hW (by omega) (by omega), bs]
    by_cases f3 : bsd ((sSh s).2 t).1 (wP ((sSh s).2 t) c) (wQ ((sSh s).2 t) d)
    · rw [if_neg (fun z => bI0.mp z f3), M_areBeside h.1 hW (by omega) (by omega), bs]
      by_cases f4 : bsd ((sSh s).2 t).1 (wQ ((sSh s).2 t) c) (wP ((sSh s).2 t) d)
      · rw [if_neg (fun z => bI0.mp z f4)]
        exact fin 1 (bI1.mpr (Or.inr ⟨f3, f4⟩)).symm
      · rw [if_pos (bI0.mpr f4)]
        exact fin 0 (bI0.mpr (fun z => z.elim (fun e => f1 e.1) (fun e => f4 e.2))).symm
    · rw [if_pos (bI0.mpr f3)]
      exact fin 0 (bI0.mpr (fun z => z.elim (fun e => f1 e.1) (fun e => f3 e.1))).symm
end DD
