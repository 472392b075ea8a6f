/-! deeds of the reference: untwist, unpoke -/
/-- word t without letters c and d -/
def wWo (w : Wrd) (c d : Nat) : Wrd := wMade (lD (woL w.2.1 c d (2 * w.1))) (woL w.2.1 c d (2 * w.1)).length
def oWo (w : Wrd) (c d : Nat) : Int32 := I (((woL w.2.1 c d (2 * w.1)).length / 2 : Nat) : Int)
theorem wWo_ok {w : Wrd} (hw : WOK w) (c d : Nat) : WOK (wWo w c d) := by
  have := woL_len w.2.1 c d (2 * w.1)
  have := hw.1.1
  exact wMade_ok (by omega) (woL_dbl hw.1 c d)
abbrev uTw (s : St) (x y : Int32) : Prop := (0 ≤ x.toInt ∧ x.toInt < (sSh s).1) ∧ (0 ≤ y.toInt ∧ y.toInt < ((sSh s).2 x.toInt.toNat).1)
abbrev wLp (w : Wrd) (c : Nat) : Prop := bsd w.1 (wP w c) (wQ w c)
def eUntw (s : St) (x y : Int32) : St := if uTw s x y ∧ wLp ((sSh s).2 x.toInt.toNat) y.toInt.toNat then setW (stMind s) x.toInt.toNat (wWo ((sSh s).2 x.toInt.toNat) y.toInt.toNat y.toInt.toNat) else s
def oUntw (s : St) (x y : Int32) : Int32 := if uTw s x y then (if wLp ((sSh s).2 x.toInt.toNat) y.toInt.toNat then oWo ((sSh s).2 x.toInt.toNat) y.toInt.toNat y.toInt.toNat else -1000000003) else -1000000001
section DD
variable {A : AH} {m t n : Nat} {s : St} {l : List Nat}
theorem eUntw_ok (hk : StOK s) (x y : Int32) : StOK (eUntw s x y) := by
  unfold eUntw
  split
  · rename_i q
    exact setW_ok (stMind_ok hk) (wWo_ok (hk.1.2 _ (by have := q.1.1; omega)) _ _)
  · exact hk
theorem M_isL (h : RF A m s) (hk : StOK s) (ht : t < (sSh s).1) (y : Int32) : fX12_isLetter A (some m) (I t) y = some (bI (0 ≤ y.toInt ∧ y.toInt < ((sSh s).2 t).1)) := by
  have e := M_isLetter h.1 (h.we hk ht) (Bd_of y)
  rw [← I_of] at e
  exact e
theorem M_untwist (h : RF A m s) (hk : StOK s) (x y : Int32) : ∃ r, fX12_untwist A (some m) x y = some r ∧ r.1 = oUntw s x y ∧ RF r.2 m (eUntw s x y) ∧ Mm m A r.2 := by
  unfold fX12_untwist oUntw eUntw
  rw [h.1.rc, bs, M_isW h hk x, bs]
  by_cases q : 0 ≤ x.toInt ∧ x.toInt < (sSh s).1
  rotate_left
  · rw [if_pos (bI0.mpr q), if_neg (fun z => q z.1), if_neg (fun z => q z.1.1)]; exact ⟨_, rfl, rfl, h, Mm.rf⟩
  obtain ⟨t, ht, t2⟩ := wz q
  have hx : x = I (t : Int) := lit_eq t2
  have hV := hk.vw ht
  have hN := hV.1
  unfold uTw
  rw [if_neg (fun z => bI0.mp z q), t2, Int.toNat_natCast, hx, M_isL h hk ht y, bs]
  by_cases q2 : 0 ≤ y.toInt ∧ y.toInt < ((sSh s).2 t).1
  rotate_left
  · rw [if_pos (bI0.mpr q2), if_neg (fun z => q2 z.2), if_neg (fun z => q2 z.1.2)]; exact ⟨_, rfl, rfl, h, Mm.rf⟩
  obtain ⟨c, hc, c2⟩ := wz q2
  have hy : y = I (c : Int) := lit_eq c2
  have q3 : (0 ≤ (t : Int) ∧ (t : Int) < (sSh s).1) ∧ (0 ≤ y.toInt ∧ y.toInt < ((sSh s).2 t).1) := ⟨by omega, q2⟩
  rw [if_neg (fun z => bI0.mp z q2), if_pos q3, hy, M_isLoop h.1 (h.we hk ht) hV hc, bs, ← hy, c2, Int.toNat_natCast]
  by_cases q4 : wLp ((sSh s).2 t) c
  rotate_left
  · rw [if_pos (bI0.mpr q4), if_neg q4, if_neg (fun z => q4 z.2)]; exact ⟨_, rfl, rfl, h, Mm.rf⟩
  obtain ⟨B, b1, b2, b3⟩ := M_minds h hk
  obtain ⟨r, r1, r2, r3, r4⟩ := M_without b2 (stMind_ok hk) (t := t) ht (c := c) (d := c) (by omega) (by omega)
  rw [c2] at q3
  rw [if_neg (fun z => bI0.mp z q4), if_pos q4, if_pos ⟨q3, q4⟩, b1, bs, hy, r1, bs]
  exact ⟨_, rfl, r2, r3, b3.mm.tr r4⟩
end DD
