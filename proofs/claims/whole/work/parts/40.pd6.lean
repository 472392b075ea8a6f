/-! deeds of the reference: signs, draw, take -/
section DD
variable {A : AH} {m t n : Nat} {s : St} {D : Nat → Nat}
theorem stMind_sh (s : St) : sSh (stMind s) = sSh s := rfl
/-- word t by other signs -/
def reS (s : St) (t v : Nat) : St := setW (stMind s) t (((sSh s).2 t).1, ((sSh s).2 t).2.1, v)
theorem reS_ok (hk : StOK s) (ht : t < (sSh s).1) {v : Nat} (hv : v < 2 ^ ((sSh s).2 t).1) : StOK (reS s t v) :=
  setW_ok (stMind_ok hk) ⟨(hk.1.2 t ht).1, hv⟩
noncomputable def oSigns (s : St) (x y : Int32) : Int32 := if 0 ≤ x.toInt ∧ x.toInt < (sSh s).1 ∧ 0 ≤ y.toInt ∧ y.toInt < ((2 ^ ((sSh s).2 x.toInt.toNat).1 : Nat) : Int) then I (faces ((sSh s).2 x.toInt.toNat).1 ((sSh s).2 x.toInt.toNat).2.1 (wP ((sSh s).2 x.toInt.toNat)) y.toInt.toNat) else -1000000001
def eSigns (s : St) (x y : Int32) : St := if 0 ≤ x.toInt ∧ x.toInt < (sSh s).1 ∧ 0 ≤ y.toInt ∧ y.toInt < ((2 ^ ((sSh s).2 x.toInt.toNat).1 : Nat) : Int) then reS s x.toInt.toNat y.toInt.toNat else s
theorem eSigns_ok (hk : StOK s) (x y : Int32) : StOK (eSigns s x y) := by
  unfold eSigns
  split
  · rename_i q
    refine reS_ok hk (by omega) ?_
    obtain ⟨-, -, q3, q4⟩ := q
    generalize 2 ^ ((sSh s).2 x.toInt.toNat).1 = K at q4 ⊢
    omega
  · exact hk
theorem M_signs (h : RF A m s) (hk : StOK s) (x y : Int32) : ∃ r, fX12_signs A (some m) x y = some r ∧ r.1 = oSigns s x y ∧ RF r.2 m (eSigns s x y) ∧ Mm m A r.2 := by
  unfold fX12_signs oSigns eSigns
  rw [h.1.rc, bs]
  by_cases q : 0 ≤ x.toInt ∧ x.toInt < (sSh s).1
  rotate_left
  · have := M_isSet0 h hk (y := y.toInt) (Bd_of x) q
    rw [← I_of, ← I_of] at this
    rw [this, bs, if_pos rfl, if_neg (fun z => q ⟨z.1, z.2.1⟩), if_neg (fun z => q ⟨z.1, z.2.1⟩)]
    exact ⟨_, rfl, rfl, h, Mm.rf⟩
  obtain ⟨t, ht, t2⟩ := wz q
  have hx : x = I (t : Int) := lit_eq t2
  have e := M_isSet h hk ht (Bd_of y)
  rw [← I_of] at e
  rw [t2, Int.toNat_natCast, hx, e, bs]
  have h4 := p2_lt (hk.vw ht).1
  have hK := hk.1.1
  by_cases q2 : 0 ≤ y.toInt ∧ y.toInt < ((2 ^ ((sSh s).2 t).1 : Nat) : Int)
  rotate_left
  · rw [if_pos (bI0.mpr q2), if_neg (fun z => q2 ⟨z.2.2.1, z.2.2.2⟩), if_neg (fun z => q2 ⟨z.2.2.1, z.2.2.2⟩)]
    exact ⟨_, rfl, rfl, h, Mm.rf⟩
  have q4 : 0 ≤ (t : Int) ∧ (t : Int) < (sSh s).1 ∧ 0 ≤ y.toInt ∧ y.toInt < ((2 ^ ((sSh s).2 t).1 : Nat) : Int) := ⟨by omega, by omega, q2.1, q2.2⟩
  rw [if_neg (fun z => bI0.mp z q2), if_pos q4, if_pos q4]
  obtain ⟨k, k1, k2⟩ := wz q2
  have hy : y = I (k : Int) := lit_eq k2
  obtain ⟨B, b1, b2, b3⟩ := M_minds h hk
  have x1 : (1 : Int32) + 18 * I (t : Int) + 1 = I ((1 + 18 * t + 1 : Nat) : Int) := by rw [L_1, show (18 : Int32) = I 18 from rfl, I_mul, I_add, I_add]; congr 1
  have h2 := b2.sgs (stMind_ok hk) ht (v := k)
  have hok : StOK (reS s t k) := reS_ok hk ht k1
  have h2 : RF (se B (m + 1) (1 + 18 * t + 1) (I (k : Int))) m (reS s t k) := h2
  obtain ⟨r, r1, r2, r3⟩ := M_laysF h2 hok (t := t) ht (sg := k) (by omega)
  rw [k2, Int.toNat_natCast, hy, b1, bs, b2.1.w, bs, x1, b2.1.w_s (by omega) (by omega), bs, Int.toNat_natCast, r1, bs]
  have hw : (sSh (reS s t k)).2 t = (((sSh s).2 t).1, ((sSh s).2 t).2.1, k) := if_pos rfl
  refine ⟨_, rfl, ?_, h2.ms r3, (b3.mm.tr (Mm.se (j := 1) (by omega))).tr r3.mm⟩
  rw [r2, hw]
  rfl
noncomputable def eDraw (s : St) (x : Int32) : St := if (0 ≤ x.toInt ∧ x.toInt < (sSh s).1) ∧ dwn ((sSh s).2 x.toInt.toNat).1 ((sSh s).2 x.toInt.toNat).2.1 (wP ((sSh s).2 x.toInt.toNat)) (2 ^ ((sSh s).2 x.toInt.toNat).1) ≠ -1 then reS s x.toInt.toNat (dwn ((sSh s).2 x.toInt.toNat).1 ((sSh s).2 x.toInt.toNat).2.1 (wP ((sSh s).2 x.toInt.toNat)) (2 ^ ((sSh s).2 x.toInt.toNat).1)).toNat else s
noncomputable def oDraw (s : St) (x : Int32) : Int32 := if 0 ≤ x.toInt ∧ x.toInt < (sSh s).1 then (if dwn ((sSh s).2 x.toInt.toNat).1 ((sSh s).2 x.toInt.toNat).2.1 (wP ((sSh s).2 x.toInt.toNat)) (2 ^ ((sSh s).2 x.toInt.toNat).1) = -1 then -1000000003 else I (dwn ((sSh s).2 x.toInt.toNat).1 ((sSh s).2 x.toInt.toNat).2.1 (wP ((sSh s).2 x.toInt.toNat)) (2 ^ ((sSh s).2 x.toInt.toNat).1))) else -1000000001
end DD
