/-! letter and face, asked of the reference -/
noncomputable def wFl (w : Wrd) : Nat → Nat := fl w.1 w.2.1 (wP w) w.2.2
noncomputable def wIx (w : Wrd) : Nat → Int32 := ixF w.1 w.2.1 (wP w) w.2.2
noncomputable def qLt (w : Wrd) (c z : Nat) : Int32 := if 3 ≤ z then (if 7 ≤ z then (if wFc w = w.1 + 2 then mid (wFl w) (wIx w) c + 100 else -1) else I (fno (wFl w) (4 * c + z - 3))) else if z = 2 then I (bset (wP w) (wQ w) c w.1) else if z = 0 then I (wP w c) else I (wQ w c)
noncomputable def qLetter (s : St) (x y z : Int32) : Int32 := if 0 ≤ x.toInt ∧ x.toInt < (sSh s).1 then (if 0 ≤ y.toInt ∧ y.toInt < ((sSh s).2 x.toInt.toNat).1 then (if 0 ≤ z.toInt ∧ z.toInt ≤ 7 then qLt ((sSh s).2 x.toInt.toNat) y.toInt.toNat z.toInt.toNat else -1000000002) else -1000000001) else -1000000001
noncomputable def qFt (w : Wrd) (f z : Nat) : Int32 := if z = 0 then I (hit (fno (wFl w)) f (4 * w.1)) else if wFc w = w.1 + 2 then (if z = 1 then bI (drk w.1 w.2.1 (wP w) w.2.2 (wFl w) (wIx w) f) else if z = 2 then wIx w f + 100 else trn w.1 (wFl w) (wIx w) f + 100) else -1
noncomputable def qFace (s : St) (x y z : Int32) : Int32 := if 0 ≤ x.toInt ∧ x.toInt < (sSh s).1 then (if 0 ≤ y.toInt ∧ y.toInt < wFc ((sSh s).2 x.toInt.toNat) then (if 0 ≤ z.toInt ∧ z.toInt ≤ 3 then qFt ((sSh s).2 x.toInt.toNat) y.toInt.toNat z.toInt.toNat else -1000000002) else -1000000001) else -1000000001
section QS
variable {A : AH} {m t : Nat} {s : St}
theorem M_letter (h : RF A m s) (hk : StOK s) (hF : ∀ t, t < (sSh s).1 → wFc ((sSh s).2 t) ≤ 10) (x y z : Int32) : ∃ r, fX12_letter A (some m) x y z = some r ∧ r.1 = qLetter s x y z ∧ Ms m A r.2 := by
  unfold fX12_letter qLetter
  rw [h.1.rc, bs, M_isW h hk x, bs]
  by_cases q : 0 ≤ x.toInt ∧ x.toInt < (sSh s).1
  rotate_left
  · rw [if_pos (bI0.mpr q), if_neg q]; exact ⟨_, rfl, rfl, Ms.rf⟩
  obtain ⟨t, ht, t2⟩ := wz q
  have hx : x = I (t : Int) := lit_eq t2
  have ht6 : t < 6 := by have := hk.1.1; omega
  have hV := hk.vw ht
  have hN := hV.1
  have hW := h.we hk ht
  have hS := h.sg hk ht
  have hsl := hk.sl ht
  have e := M_isLetter h.1 hW (Bd_of y)
  rw [← I_of] at e
  rw [if_neg (fun z => bI0.mp z q), if_pos q, t2, Int.toNat_natCast, hx, e, bs]
  by_cases q2 : 0 ≤ y.toInt ∧ y.toInt < ((sSh s).2 t).1
  rotate_left
  · rw [if_pos (bI0.mpr q2), if_neg q2]; exact ⟨_, rfl, rfl, Ms.rf⟩
  obtain ⟨c, hc, c2⟩ := wz q2
  have hy : y = I (c : Int) := lit_eq c2
  rw [if_neg (fun z => bI0.mp z q2), if_pos q2, c2, Int.toNat_natCast, hy, M_in, bs, Int32.toInt_toInt64, show (0 : Int64).toInt = 0 from rfl, show (7 : Int64).toInt = 7 from rfl]
  by_cases q3 : 0 ≤ z.toInt ∧ z.toInt ≤ 7
  rotate_left
  · rw [if_pos (bI0.mpr q3), if_neg q3]; exact ⟨_, rfl, rfl, Ms.rf⟩
  obtain ⟨k, hk7, k2⟩ : ∃ k : Nat, k ≤ 7 ∧ z.toInt = k := ⟨z.toInt.toNat, by omega, by omega⟩
  have hz : z = I (k : Int) := lit_eq k2
  rw [if_neg (fun z => bI0.mp z q3), if_pos q3, k2, Int.toNat_natCast, hz]
  unfold qLt
  by_cases k3 : 3 ≤ k
  · obtain ⟨r, g1, g2, g3, g4, g5⟩ := M_isPlane h.1 hW hV (sg := ((sSh s).2 t).2.2) (by omega)
    have g : Ms m A r.2 := (Ms.si (by omega)).tr g3.1
    rw [if_pos (show (3 : Int32) ≤ I (k : Int) from le_y (a := 3) (by omega)), if_pos k3, M_signsOf h.1 ht6 hS, bs, g1, bs, g2]
    by_cases k7 : 7 ≤ k
    · rw [if_pos (show (7 : Int32) ≤ I (k : Int) from le_y (a := 7) (by omega)), if_pos k7]
      have hF' := hF t ht
      obtain ⟨B, b1, b2, b3, b4, b5, b6⟩ := M_laysIndices (h.1.ms g) (hW.ms g) hV (hS.ms g) hF'
      rw [b1, bs]
      by_cases hp : faces ((sSh s).2 t).1 ((sSh s).2 t).2.1 (wP ((sSh s).2 t)) ((sSh s).2 t).2.2 = ((sSh s).2 t).1 + 2
      · have hX := XI.mk (h.1.ms (g.tr b2)) (hW.ms (g.tr b2)) hV b3 hsl hF' b4 b5 b6
        rw [if_neg (fun z => bI0.mp z hp), M_middle hX hV hc, bs]
        refine ⟨_, rfl, ?_, g.tr b2⟩
        rw [if_pos (show wFc ((sSh s).2 t) = ((sSh s).2 t).1 + 2 from hp)]
        rfl
      · rw [if_pos (bI0.mpr hp)]
        refine ⟨_, rfl, ?_, g.tr b2⟩
        rw [if_neg (show ¬ wFc ((sSh s).2 t) = ((sSh s).2 t).1 + 2 from hp)]
    · rw [if_neg (show ¬ (7 : Int32) ≤ I (k : Int) from le_n (a := 7) (by omega)), if_neg k7]
      have e3 : (4 : Int32) * I (c : Int) + I (k : Int) - 3 = I ((4 * c + k - 3 : Nat) : Int) := by
        rw [L_4, L_3, I_mul, I_add, I_sub]; congr 1; omega
      rw [e3, M_faceOf (h.1.ms g) (n := 4 * ((sSh s).2 t).1) (by omega) g5 g4 (c := 4 * c + k - 3) (by omega), bs]
      exact ⟨_, rfl, rfl, g⟩
  · rw [if_neg (show ¬ (3 : Int32) ≤ I (k : Int) from le_n (a := 3) (by omega)), if_neg k3]
    by_cases e2 : k = 2
    · rw [if_pos (by rw [e2]; rfl), if_pos e2, M_betweenSet h.1 hW hV hc, bs]
      exact ⟨_, rfl, rfl, Ms.rf⟩
    · rw [if_neg (show ¬ I (k : Int) = 2 from eq_n (b := 2) (by omega)), if_neg e2]
      by_cases e0 : k = 0
      · have := M_pl0 h.1 hW hV hc
        rw [if_pos e0, e0, show (((0 : Nat) : Int)) = 0 from rfl, this, bs]
        exact ⟨_, rfl, rfl, Ms.rf⟩
      · have e1 : k = 1 := by omega
        have := M_pl1 h.1 hW hV hc
        rw [if_neg e0, e1, show (((1 : Nat) : Int)) = 1 from rfl, this, bs]
        exact ⟨_, rfl, rfl, Ms.rf⟩
theorem M_face (h : RF A m s) (hk : StOK s) (x y z : Int32) : ∃ r, fX12_face A (some m) x y z = some r ∧ r.1 = qFace s x y z ∧ Ms m A r.2 := by
  unfold fX12_face qFace
  rw [h.1.rc, bs, M_isW h hk x, bs]
  by_cases q : 0 ≤ x.toInt ∧ x.toInt < (sSh s).1
  rotate_left
  · rw [if_pos (bI0.mpr q), if_neg q]; exact ⟨_, rfl, rfl, Ms.rf⟩
  obtain ⟨t, ht, t2⟩ := wz q
  have hx : x = I (t : Int) := lit_eq t2
  have ht6 : t < 6 := by have := hk.1.1; omega
  have hV := hk.vw ht
  have hN := hV.1
  have hW := h.we hk ht
  have hS := h.sg hk ht
  have hsl := hk.sl ht
  obtain ⟨r, g1, g2, g3, g4, g5⟩ := M_laysFaces h.1 hW hV (sg := ((sSh s).2 t).2.2) (by omega)
  have g : Ms m A r.2 := (Ms.si (by omega)).tr g3.1
  have hfl := faces_le ((sSh s).2 t).1 ((sSh s).2 t).2.1 (wP ((sSh s).2 t)) ((sSh s).2 t).2.2
  rw [if_neg (fun z => bI0.mp z q), if_pos q, t2, Int.toNat_natCast, hx, M_signsOf h.1 ht6 hS, bs, g1, bs, g2, L_1, I_sub]
  have e := M_in0 r.2 (Bd_of y) (c := (faces ((sSh s).2 t).1 ((sSh s).2 t).2.1 (wP ((sSh s).2 t)) ((sSh s).2 t).2.2 : Int) - 1) (by omega)
  rw [← I_of] at e
  rw [e, bs]
  by_cases q2 : 0 ≤ y.toInt ∧ y.toInt < wFc ((sSh s).2 t)
  rotate_left
  · rw [if_pos (bI0.mpr (fun z => q2 ⟨z.1, by unfold wFc; omega⟩)), if_neg q2]; exact ⟨_, rfl, rfl, g⟩
  obtain ⟨f, hf, f2⟩ := wz q2
  have hf' : f < faces ((sSh s).2 t).1 ((sSh s).2 t).2.1 (wP ((sSh s).2 t)) ((sSh s).2 t).2.2 := hf
  have hy : y = I (f : Int) := lit_eq f2
  rw [if_neg (fun z => bI0.mp z ⟨by omega, by omega⟩), if_pos q2, f2, Int.toNat_natCast, hy, M_in, bs, Int32.toInt_toInt64, show (0 : Int64).toInt = 0 from rfl, show (3 : Int64).toInt = 3 from rfl]
  by_cases q3 : 0 ≤ z.toInt ∧ z.toInt ≤ 3
  rotate_left
  · rw [if_pos (bI0.mpr q3), if_neg q3]; exact ⟨_, rfl, rfl, g⟩
  obtain ⟨k, hk3, k2⟩ : ∃ k : Nat, k ≤ 3 ∧ z.toInt = k := ⟨z.toInt.toNat, by omega, by omega⟩
  have hz : z = I (k : Int) := lit_eq k2
  rw [if_neg (fun z => bI0.mp z q3), if_pos q3, k2, Int.toNat_natCast, hz]
  unfold qFt
  by_cases k0 : k = 0
  · rw [if_pos (by rw [k0]; rfl), if_pos k0, M_sizeF (h.1.ms g) (hW.ms g) g5 g4 (by omega), bs]
    exact ⟨_, rfl, rfl, g⟩
  · have h' := h.ms g
    obtain ⟨r', p1, p2, p3, p4, p5⟩ := M_isPlane h'.1 (hW.ms g) hV (sg := ((sSh s).2 t).2.2) (by omega)
    have g' : Ms m A r'.2 := g.tr ((Ms.si (by omega)).tr p3.1)
    rw [if_neg (show ¬ I (k : Int) = 0 from eq_n (b := 0) (by omega)), if_neg k0, M_signsOf h'.1 ht6 (hS.ms g), bs, p1, bs, p2]
    by_cases hp : faces ((sSh s).2 t).1 ((sSh s).2 t).2.1 (wP ((sSh s).2 t)) ((sSh s).2 t).2.2 = ((sSh s).2 t).1 + 2
    · obtain ⟨B, b1, b2, b3, b4, b5, b6⟩ := M_laysIndices (h.1.ms g') (hW.ms g') hV (hS.ms g') (by omega)
      have hX := XI.mk (h.1.ms (g'.tr b2)) (hW.ms (g'.tr b2)) hV b3 hsl (by omega) b4 b5 b6
      rw [if_neg (fun z => bI0.mp z hp), b1, bs, if_pos (show wFc ((sSh s).2 t) = ((sSh s).2 t).1 + 2 from hp)]
      by_cases k1 : k = 1
      · rw [if_pos (by rw [k1]; rfl), if_pos k1, M_isDark hX hV hf', bs]
        by_cases hd : drk ((sSh s).2 t).1 ((sSh s).2 t).2.1 (wP ((sSh s).2 t)) ((sSh s).2 t).2.2 (fl ((sSh s).2 t).1 ((sSh s).2 t).2.1 (wP ((sSh s).2 t)) ((sSh s).2 t).2.2) (ixF ((sSh s).2 t).1 ((sSh s).2 t).2.1 (wP ((sSh s).2 t)) ((sSh s).2 t).2.2) f
        · rw [if_neg (fun z => bI0.mp z hd)]; exact ⟨_, rfl, (bI1.mpr hd).symm, g'.tr b2⟩
        · rw [if_pos (bI0.mpr hd)]; exact ⟨_, rfl, (bI0.mpr hd).symm, g'.tr b2⟩
      · rw [if_neg (show ¬ I (k : Int) = I 1 from eq_n (by omega)), if_neg k1]
        by_cases k2' : k = 2
        · rw [if_pos (by rw [k2']; rfl), if_pos k2', hX.1.ix, bs, hX.1.ix_l (by omega) (by omega), bs, Int.toNat_natCast, b6 f hf']
          exact ⟨_, rfl, rfl, g'.tr b2⟩
        · rw [if_neg (show ¬ I (k : Int) = 2 from eq_n (b := 2) (by omega)), if_neg k2', M_turns hX hV hp hf', bs]
          exact ⟨_, rfl, rfl, g'.tr b2⟩
    · rw [if_pos (bI0.mpr hp), if_neg (show ¬ wFc ((sSh s).2 t) = ((sSh s).2 t).1 + 2 from hp)]
      exact ⟨_, rfl, rfl, g'⟩
end QS
