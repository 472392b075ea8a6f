/-! more questions, asked of the reference -/
noncomputable def wFc (w : Wrd) : Nat := faces w.1 w.2.1 (wP w) w.2.2
def gen2 (x : Int32) : Int32 := (dvI x 2).getD 0
theorem gen2_eq (x : Int32) : dvI x 2 = some (gen2 x) := by
  unfold gen2 dvI
  rw [if_neg (by decide)]
  rfl
noncomputable def wTr (w : Wrd) (dk : Bool) : Int := if faces w.1 w.2.1 (wP w) w.2.2 = w.1 + 2 then (trs w.1 w.2.1 (wP w) w.2.2 (fl w.1 w.2.1 (wP w) w.2.2) (ixF w.1 w.2.1 (wP w) w.2.2) dk (2 ^ w.1) : Int) else -1
noncomputable def wFz (w : Wrd) (k : Nat) : Nat := fsz w.1 (fl w.1 w.2.1 (wP w) w.2.2) k (faces w.1 w.2.1 (wP w) w.2.2)
noncomputable def qFcs (w : Wrd) (y : Int32) : Int32 := if y = 4 then I (wFc w) else if y = 5 then gen2 (I ((w.1 : Int) + 2 - wFc w)) else if y = 6 then I (dwn w.1 w.2.1 (wP w) (2 ^ w.1)) else if y = 7 then I (dws w.1 w.2.1 (wP w) (2 ^ w.1)) else if y = 9 then I (wTr w true) else if y = 10 then I (wTr w false) else I (wFz w (y.toInt - 11).toNat)
noncomputable def qWd (w : Wrd) (y : Int32) : Int32 := if y = 0 then I w.1 else if y = 1 then I (comps w.1 (ptR (wP w) (wQ w) w.1)) else if y = 2 then I (brk (wP w) (wQ w) w.1) else if y = 3 then I w.2.2 else if y = 8 then I (rings w.1 (wP w) (wQ w) 0) else if y = 11 then I (wK w) else if y = 12 then I (lps w.1 (wP w) (wQ w) w.1) else if 4 ≤ y.toInt ∧ y.toInt ≤ 14 then qFcs w y else -1000000002
section QS
variable {A : AH} {m t : Nat} {s : St}
theorem M_isW (h : RF A m s) (hk : StOK s) (x : Int32) : fX12_isWord A (some m) x = some (bI (0 ≤ x.toInt ∧ x.toInt < (sSh s).1)) := by
  have e := M_isWord h hk (Bd_of x)
  rw [← I_of] at e
  exact e
theorem M_laysF (h : RF A m s) (hk : StOK s) (ht : t < (sSh s).1) {sg : Nat} (hs : sg < 2147483648) : ∃ r, fX12_laysFaces A (some m) (I t) (I sg) = some r ∧ r.1 = I (faces ((sSh s).2 t).1 ((sSh s).2 t).2.1 (wP ((sSh s).2 t)) sg) ∧ Ms m A r.2 := by
  obtain ⟨r, g1, g2, g3, -, -⟩ := M_laysFaces h.1 (h.we hk ht) (hk.vw ht) hs
  exact ⟨r, g1, g2, (Ms.si (by omega)).tr g3.1⟩
theorem StOK.sl (hk : StOK s) (ht : t < (sSh s).1) : ((sSh s).2 t).2.2 < 256 := by
  have h3 := (hk.1.2 t ht).2
  have h4 := p2_lt (hk.1.2 t ht).1.1
  omega
theorem M_ofFaces (h : RF A m s) (hk : StOK s) (ht : t < (sSh s).1) {y : Int32} (hy : y = 4 ∨ y = 5 ∨ y = 6 ∨ y = 7 ∨ y = 9 ∨ y = 10 ∨ y = 13 ∨ y = 14) : ∃ r, fX12_ofFaces A (some m) (I t) y = some r ∧ r.1 = qFcs ((sSh s).2 t) y ∧ Ms m A r.2 := by
  have ht6 : t < 6 := by have := hk.1.1; omega
  have hV := hk.vw ht
  have hN := hV.1
  have hW := h.we hk ht
  have hS := h.sg hk ht
  have hsl := hk.sl ht
  obtain ⟨r, g1, g2, g3⟩ := M_laysF h hk ht (sg := ((sSh s).2 t).2.2) (by omega)
  unfold fX12_ofFaces
  rw [h.1.rc, bs, jp_eq]
  rcases hy with rfl | rfl | rfl | rfl | rfl | rfl | rfl | rfl
  · rw [if_pos rfl, M_signsOf h.1 ht6 hS, bs, g1, bs]
    exact ⟨_, rfl, g2, g3⟩
  · rw [if_neg (by decide), if_pos rfl, M_size h.1 hW, bs, M_signsOf h.1 ht6 hS, bs, g1, bs, gen2_eq, bs]
    refine ⟨_, rfl, ?_, g3⟩
    dsimp only
    rw [g2, L_2, I_add, I_sub]
    rfl
  · obtain ⟨r, q1, q2, q3⟩ := M_drawn h.1 hW hV
    rw [if_neg (by decide), if_neg (by decide), if_pos rfl, q1, bs]
    exact ⟨_, rfl, q2, q3⟩
  · obtain ⟨r, q1, q2, q3⟩ := M_drawings h.1 hW hV
    rw [if_neg (by decide), if_neg (by decide), if_neg (by decide), if_pos rfl, q1, bs]
    exact ⟨_, rfl, q2, q3⟩
  · obtain ⟨r, q1, q2, q3⟩ := M_trees h.1 hW hV hS true
    have q1 : fX12_trees A (some m) (I t) 1 = some r := q1
    rw [if_neg (by decide), if_neg (by decide), if_neg (by decide), if_neg (by decide), if_pos rfl, q1, bs]
    exact ⟨_, rfl, q2, q3⟩
  · obtain ⟨r, q1, q2, q3⟩ := M_trees h.1 hW hV hS false
    have q1 : fX12_trees A (some m) (I t) 0 = some r := q1
    rw [if_neg (by decide), if_neg (by decide), if_neg (by decide), if_neg (by decide), if_neg (by decide), if_pos rfl, q1, bs]
    exact ⟨_, rfl, q2, q3⟩
  · obtain ⟨r, q1, q2, q3⟩ := M_facesOfSize h.1 hW hV hS (x := 2) (by omega)
    have q1 : fX12_facesOfSize A (some m) (I t) (13 - 11) = some r := q1
    rw [if_neg (by decide), if_neg (by decide), if_neg (by decide), if_neg (by decide), if_neg (by decide), if_neg (by decide), q1, bs]
    exact ⟨_, rfl, q2, q3⟩
  · obtain ⟨r, q1, q2, q3⟩ := M_facesOfSize h.1 hW hV hS (x := 3) (by omega)
    have q1 : fX12_facesOfSize A (some m) (I t) (14 - 11) = some r := q1
    rw [if_neg (by decide), if_neg (by decide), if_neg (by decide), if_neg (by decide), if_neg (by decide), if_neg (by decide), q1, bs]
    exact ⟨_, rfl, q2, q3⟩
theorem lit_ne {y : Int32} {k : Int} (h : y ≠ I k) : y.toInt ≠ k := fun q => h (by rw [← q]; exact I_of y)
theorem lit_eq {y : Int32} {k : Int} (h : y.toInt = k) : y = I k := by rw [← h]; exact I_of y
noncomputable def qWord (s : St) (x y : Int32) : Int32 := if 0 ≤ x.toInt ∧ x.toInt < (sSh s).1 then qWd ((sSh s).2 x.toInt.toNat) y else -1000000001
theorem M_word (h : RF A m s) (hk : StOK s) (x y : Int32) : ∃ r, fX12_word A (some m) x y = some r ∧ r.1 = qWord s x y ∧ Ms m A r.2 := by
  unfold fX12_word qWord
  rw [h.1.rc, bs, M_isW h hk x, bs]
  by_cases q : 0 ≤ x.toInt ∧ x.toInt < (sSh s).1
  rotate_left
  · rw [if_pos (bI0.mpr q), if_neg q]; exact ⟨_, rfl, rfl, Ms.rf⟩
  obtain ⟨t, ht, t2⟩ := wz q
  have hx : x = I (t : Int) := lit_eq t2
  rw [if_neg (fun z => bI0.mp z q), if_pos q, t2, Int.toNat_natCast, hx, jp_eq]
  have ht6 : t < 6 := by have := hk.1.1; omega
  have hV := hk.vw ht
  have hN := hV.1
  have hW := h.we hk ht
  have hS := h.sg hk ht
  unfold qWd
  by_cases h0 : y = 0
  · rw [if_pos h0, if_pos h0, M_size h.1 hW, bs]; exact ⟨_, rfl, rfl, Ms.rf⟩
  rw [if_neg h0, if_neg h0]
  by_cases h1 : y = 1
  · obtain ⟨r, q1, q2, q3⟩ := M_parts h.1 hW hV
    rw [if_pos h1, if_pos h1, q1, bs]; exact ⟨_, rfl, q2, q3⟩
  rw [if_neg h1, if_neg h1]
  by_cases h2 : y = 2
  · rw [if_pos h2, if_pos h2, M_broken h.1 hW hV, bs]; exact ⟨_, rfl, rfl, Ms.rf⟩
  rw [if_neg h2, if_neg h2]
  by_cases h3 : y = 3
  · rw [if_pos h3, if_pos h3, M_signsOf h.1 ht6 hS, bs]; exact ⟨_, rfl, rfl, Ms.rf⟩
  rw [if_neg h3, if_neg h3]
  by_cases h8 : y = 8
  · obtain ⟨r, q1, q2, q3⟩ := M_ringsOf h.1 hW hV (s := 0) (by omega)
    have q1 : fX12_ringsOf A (some m) (I t) 0 = some r := q1
    rw [if_pos h8, if_pos h8, q1, bs]; exact ⟨_, rfl, q2, q3⟩
  rw [if_neg h8, if_neg h8]
  by_cases h11 : y = 11
  · obtain ⟨r, q1, q2, q3⟩ := M_kinOf h hk ht
    rw [if_pos h11, if_pos h11, q1, bs]; exact ⟨_, rfl, q2, q3⟩
  rw [if_neg h11, if_neg h11]
  by_cases h12 : y = 12
  · rw [if_pos h12, if_pos h12, M_loops h.1 hW hV, bs]; exact ⟨_, rfl, rfl, Ms.rf⟩
  rw [if_neg h12, if_neg h12, M_in, bs, Int32.toInt_toInt64, show (4 : Int64).toInt = 4 from rfl, show (14 : Int64).toInt = 14 from rfl]
  by_cases qr : 4 ≤ y.toInt ∧ y.toInt ≤ 14
  · have h8 := lit_ne (k := 8) h8
    have h11 := lit_ne (k := 11) h11
    have h12 := lit_ne (k := 12) h12
    have hy : y = 4 ∨ y = 5 ∨ y = 6 ∨ y = 7 ∨ y = 9 ∨ y = 10 ∨ y = 13 ∨ y = 14 := by
      have : y.toInt = 4 ∨ y.toInt = 5 ∨ y.toInt = 6 ∨ y.toInt = 7 ∨ y.toInt = 9 ∨ y.toInt = 10 ∨ y.toInt = 13 ∨ y.toInt = 14 := by omega
      rcases this with e | e | e | e | e | e | e | e
      · exact Or.inl (lit_eq e)
      · exact Or.inr (Or.inl (lit_eq e))
      · exact Or.inr (Or.inr (Or.inl (lit_eq e)))
      · exact Or.inr (Or.inr (Or.inr (Or.inl (lit_eq e))))
      · exact Or.inr (Or.inr (Or.inr (Or.inr (Or.inl (lit_eq e)))))
      · exact Or.inr (Or.inr (Or.inr (Or.inr (Or.inr (Or.inl (lit_eq e))))))
      · exact Or.inr (Or.inr (Or.inr (Or.inr (Or.inr (Or.inr (Or.inl (lit_eq e)))))))
      · exact Or.inr (Or.inr (Or.inr (Or.inr (Or.inr (Or.inr (Or.inr (lit_eq e)))))))
    obtain ⟨r, q1, q2, q3⟩ := M_ofFaces h hk ht hy
    rw [if_neg (fun z => bI0.mp z qr), if_pos qr, q1, bs]
    exact ⟨_, rfl, q2, q3⟩
  · rw [if_pos (bI0.mpr qr), if_neg qr]
    exact ⟨_, rfl, rfl, Ms.rf⟩
/-- the law's small questions -/
noncomputable def qRings (s : St) (x y : Int32) : Int32 := if 0 ≤ x.toInt ∧ x.toInt < (sSh s).1 ∧ 0 ≤ y.toInt ∧ y.toInt < ((2 ^ ((sSh s).2 x.toInt.toNat).1 : Nat) : Int) then I (rings ((sSh s).2 x.toInt.toNat).1 (wP ((sSh s).2 x.toInt.toNat)) (wQ ((sSh s).2 x.toInt.toNat)) y.toInt.toNat) else -1000000001
theorem M_rings (h : RF A m s) (hk : StOK s) (x y : Int32) : ∃ r, fX12_rings A (some m) x y = some r ∧ r.1 = qRings s x y ∧ Ms m A r.2 := by
  unfold fX12_rings qRings
  rw [h.1.rc, bs]
  by_cases q : 0 ≤ x.toInt ∧ x.toInt < (sSh s).1
  rotate_left
  · have := M_isSet0 h hk (y := y.toInt) (Bd_of x) q
    rw [← I_of, ← I_of] at this
    rw [this, bs, if_pos rfl, if_neg (fun z => q ⟨z.1, z.2.1⟩)]
    exact ⟨_, rfl, rfl, Ms.rf⟩
  obtain ⟨t, ht, t2⟩ := wz q
  have hx : x = I (t : Int) := lit_eq t2
  have e := M_isSet h hk ht (Bd_of y)
  rw [← I_of] at e
  rw [t2, Int.toNat_natCast, hx, e, bs]
  have h4 := p2_lt (hk.vw ht).1
  by_cases q2 : 0 ≤ y.toInt ∧ y.toInt < ((2 ^ ((sSh s).2 t).1 : Nat) : Int)
  · rw [if_neg (fun z => bI0.mp z q2), if_pos ⟨by omega, by omega, q2.1, q2.2⟩]
    obtain ⟨k, k1, k2⟩ := wz q2
    have hy : y = I (k : Int) := lit_eq k2
    obtain ⟨r, g1, g2, g3⟩ := M_ringsOf h.1 (h.we hk ht) (hk.vw ht) (s := k) (by omega)
    rw [k2, Int.toNat_natCast, hy, g1, bs]
    exact ⟨_, rfl, g2, g3⟩
  · rw [if_pos (bI0.mpr q2), if_neg (fun z => q2 ⟨z.2.2.1, z.2.2.2⟩)]
    exact ⟨_, rfl, rfl, Ms.rf⟩
noncomputable def qStates (s : St) (x y : Int32) : Int32 := if 0 ≤ x.toInt ∧ x.toInt < (sSh s).1 then (if 1 ≤ y.toInt ∧ y.toInt ≤ 9 then I (wSts ((sSh s).2 x.toInt.toNat) y.toInt) else -1000000002) else -1000000001
theorem M_states (h : RF A m s) (hk : StOK s) (x y : Int32) : ∃ r, fX12_states A (some m) x y = some r ∧ r.1 = qStates s x y ∧ Ms m A r.2 := by
  unfold fX12_states qStates
  rw [h.1.rc, bs, M_isW h hk x, bs]
  by_cases q : 0 ≤ x.toInt ∧ x.toInt < (sSh s).1
  rotate_left
  · rw [if_pos (bI0.mpr q), if_neg q]; exact ⟨_, rfl, rfl, Ms.rf⟩
  obtain ⟨t, ht, t2⟩ := wz q
  have hx : x = I (t : Int) := lit_eq t2
  rw [if_neg (fun z => bI0.mp z q), if_pos q, t2, Int.toNat_natCast, hx, M_in, bs, Int32.toInt_toInt64, show (1 : Int64).toInt = 1 from rfl, show (9 : Int64).toInt = 9 from rfl]
  by_cases q2 : 1 ≤ y.toInt ∧ y.toInt ≤ 9
  · obtain ⟨r, g1, g2, g3⟩ := M_statesOf h.1 (h.we hk ht) (hk.vw ht) (k := y.toInt) (by omega)
    rw [← I_of] at g1
    rw [if_neg (fun z => bI0.mp z q2), if_pos q2, g1, bs]
    exact ⟨_, rfl, g2, g3⟩
  · rw [if_pos (bI0.mpr q2), if_neg q2]; exact ⟨_, rfl, rfl, Ms.rf⟩
noncomputable def qSame (s : St) (x y : Int32) : Int32 := if (0 ≤ x.toInt ∧ x.toInt < (sSh s).1) ∧ (0 ≤ y.toInt ∧ y.toInt < (sSh s).1) then bI (wSame ((sSh s).2 x.toInt.toNat) ((sSh s).2 y.toInt.toNat)) else -1000000001
theorem M_same (h : RF A m s) (hk : StOK s) (x y : Int32) : ∃ r, fX12_same A (some m) x y = some r ∧ r.1 = qSame s x y ∧ Ms m A r.2 := by
  unfold fX12_same qSame
  rw [h.1.rc, bs, M_isW h hk x, bs]
  by_cases q : 0 ≤ x.toInt ∧ x.toInt < (sSh s).1
  rotate_left
  · rw [if_pos (bI0.mpr q), if_neg (fun z => q z.1)]; exact ⟨_, rfl, rfl, Ms.rf⟩
  rw [if_neg (fun z => bI0.mp z q), M_isW h hk y, bs]
  by_cases q2 : 0 ≤ y.toInt ∧ y.toInt < (sSh s).1
  rotate_left
  · rw [if_pos (bI0.mpr q2), if_neg (fun z => q2 z.2)]; exact ⟨_, rfl, rfl, Ms.rf⟩
  rw [if_neg (fun z => bI0.mp z q2), if_pos ⟨q, q2⟩]
  obtain ⟨t, ht, t2⟩ := wz q
  have hx : x = I (t : Int) := lit_eq t2
  obtain ⟨u, hu, u2⟩ := wz q2
  have hy : y = I (u : Int) := lit_eq u2
  obtain ⟨r, g1, g2, g3⟩ := M_isSame h hk ht hu
  rw [t2, u2, hx, hy, g1, bs, Int.toNat_natCast, Int.toNat_natCast, g2]
  by_cases q3 : wSame ((sSh s).2 t) ((sSh s).2 u)
  · rw [if_neg (fun z => bI0.mp z q3)]; exact ⟨_, rfl, (bI1.mpr q3).symm, g3⟩
  · rw [if_pos (bI0.mpr q3)]; exact ⟨_, rfl, (bI0.mpr q3).symm, g3⟩
end QS
