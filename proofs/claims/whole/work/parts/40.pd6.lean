/-! deeds of the reference: signs, draw, take -/
section DD
variable {A : AH} {m t n : Nat} {s : St} {D : Nat → Nat}
theorem stMind_sh (s : St) : sSh (stMind s) = sSh s := rfl
/-- word t by other signs -/
def reS (s : St) (t v : Nat) : St := setW (stMind s) t (((sSh s).2 t).1, ((sSh s).2 t).2.1, v)
theorem reS_ok (hk : StOK s) (ht : t < (sSh s).1) {v : Nat} (hv : v < 2 ^ ((sSh s).2 t).1) : StOK (reS s t v) :=
  setW_ok (stMind_ok hk) ⟨(hk.1.2 t ht).1, hv⟩
noncomputable def oSigns (s : St) (x y : Int32) : Int32 := if 0 ≤ x.toInt ∧ x.toInt < (sSh s).1 ∧ 0 ≤ y.toInt ∧ y.toInt < ((2 ^ ((sSh s).2 x.toInt.toNat).1 : Nat) : Int) then I (faces ((sSh s).2 x.toInt.toNat).1 ((sSh s).2 x.toInt.toNat).2.1 (wP ((sSh s).2 x.toInt.toNat)) y.toInt.toNat) else -1000000001
def eSigns (s : St) (x y : Int32) : St := if 0 ≤ x.toInt ∧ x.toInt < (sSh s).1 ∧ 0 ≤ y.toInt ∧ y.toInt < ((2 ^ ((sSh s).2 x.toInt.toNat).1 : Nat) : Int) then reS s x.toInt.toNat y.toInt.toNat else s
theorem eSigns_ok (hk : StOK s) (x y : Int32) : StOK (eSigns s x y) := by
  unfold eSigns
  split
  · rename_i q
    refine reS_ok hk (by omega) ?_
    obtain ⟨-, -, q3, q4⟩ := q
    generalize 2 ^ ((sSh s).2 x.toInt.toNat).1 = K at q4 ⊢
    omega
  · exact hk
theorem M_signs (h : RF A m s) (hk : StOK s) (x y : Int32) : ∃ r, fX12_signs A (some m) x y = some r ∧ r.1 = oSigns s x y ∧ RF r.2 m (eSigns s x y) ∧ Mm m A r.2 := by
  unfold fX12_signs oSigns eSigns
  rw [h.1.rc, bs]
  by_cases q : 0 ≤ x.toInt ∧ x.toInt < (sSh s).1
  rotate_left
  · have := M_isSet0 h hk (y := y.toInt) (Bd_of x) q
    rw [← I_of, ← I_of] at this
    rw [this, bs, if_pos rfl, if_neg (fun z => q ⟨z.1, z.2.1⟩), if_neg (fun z => q ⟨z.1, z.2.1⟩)]
    exact ⟨_, rfl, rfl, h, Mm.rf⟩
  obtain ⟨t, ht, t2⟩ := wz q
  have hx : x = I (t : Int) := lit_eq t2
  have e := M_isSet h hk ht (Bd_of y)
  rw [← I_of] at e
  rw [t2, Int.toNat_natCast, hx, e, bs]
  have h4 := p2_lt (hk.vw ht).1
  have hK := hk.1.1
  by_cases q2 : 0 ≤ y.toInt ∧ y.toInt < ((2 ^ ((sSh s).2 t).1 : Nat) : Int)
  rotate_left
  · rw [if_pos (bI0.mpr q2), if_neg (fun z => q2 ⟨z.2.2.1, z.2.2.2⟩), if_neg (fun z => q2 ⟨z.2.2.1, z.2.2.2⟩)]
    exact ⟨_, rfl, rfl, h, Mm.rf⟩
  have q4 : 0 ≤ (t : Int) ∧ (t : Int) < (sSh s).1 ∧ 0 ≤ y.toInt ∧ y.toInt < ((2 ^ ((sSh s).2 t).1 : Nat) : Int) := ⟨by omega, by omega, q2.1, q2.2⟩
  rw [if_neg (fun z => bI0.mp z q2), if_pos q4, if_pos q4]
  obtain ⟨k, k1, k2⟩ := wz q2
  have hy : y = I (k : Int) := lit_eq k2
  obtain ⟨B, b1, b2, b3⟩ := M_minds h hk
  have x1 : (1 : Int32) + 18 * I (t : Int) + 1 = I ((1 + 18 * t + 1 : Nat) : Int) := by rw [L_1, show (18 : Int32) = I 18 from rfl, I_mul, I_add, I_add]; congr 1
  have h2 := b2.sgs (stMind_ok hk) ht (v := k)
  have hok : StOK (reS s t k) := reS_ok hk ht k1
  have h2 : RF (se B (m + 1) (1 + 18 * t + 1) (I (k : Int))) m (reS s t k) := h2
  obtain ⟨r, r1, r2, r3⟩ := M_laysF h2 hok (t := t) ht (sg := k) (by omega)
  rw [k2, Int.toNat_natCast, hy, b1, bs, b2.1.w, bs, x1, b2.1.w_s (by omega) (by omega), bs, Int.toNat_natCast, r1, bs]
  have hw : (sSh (reS s t k)).2 t = (((sSh s).2 t).1, ((sSh s).2 t).2.1, k) := if_pos rfl
  refine ⟨_, rfl, ?_, h2.ms r3, (b3.mm.tr (Mm.se (j := 1) (by omega))).tr r3.mm⟩
  rw [r2, hw]
  rfl
noncomputable def eDraw (s : St) (x : Int32) : St := if (0 ≤ x.toInt ∧ x.toInt < (sSh s).1) ∧ dwn ((sSh s).2 x.toInt.toNat).1 ((sSh s).2 x.toInt.toNat).2.1 (wP ((sSh s).2 x.toInt.toNat)) (2 ^ ((sSh s).2 x.toInt.toNat).1) ≠ -1 then reS s x.toInt.toNat (dwn ((sSh s).2 x.toInt.toNat).1 ((sSh s).2 x.toInt.toNat).2.1 (wP ((sSh s).2 x.toInt.toNat)) (2 ^ ((sSh s).2 x.toInt.toNat).1)).toNat else s
noncomputable def oDraw (s : St) (x : Int32) : Int32 := if 0 ≤ x.toInt ∧ x.toInt < (sSh s).1 then (if dwn ((sSh s).2 x.toInt.toNat).1 ((sSh s).2 x.toInt.toNat).2.1 (wP ((sSh s).2 x.toInt.toNat)) (2 ^ ((sSh s).2 x.toInt.toNat).1) = -1 then -1000000003 else I (dwn ((sSh s).2 x.toInt.toNat).1 ((sSh s).2 x.toInt.toNat).2.1 (wP ((sSh s).2 x.toInt.toNat)) (2 ^ ((sSh s).2 x.toInt.toNat).1))) else -1000000001
theorem dwn_b (N : Nat) (L P : Nat → Nat) : ∀ n, -1 ≤ dwn N L P n ∧ dwn N L P n < n
  | 0 => ⟨by show (-1 : Int) ≤ -1; omega, by show (-1 : Int) < 0; omega⟩
  | n + 1 => by
    have := dwn_b N L P n
    unfold dwn
    split <;> omega
theorem eDraw_ok (hk : StOK s) (x : Int32) : StOK (eDraw s x) := by
  unfold eDraw
  split
  · rename_i q
    refine reS_ok hk (by omega) ?_
    have := dwn_b ((sSh s).2 x.toInt.toNat).1 ((sSh s).2 x.toInt.toNat).2.1 (wP ((sSh s).2 x.toInt.toNat)) (2 ^ ((sSh s).2 x.toInt.toNat).1)
    have q2 := q.2
    generalize dwn ((sSh s).2 x.toInt.toNat).1 ((sSh s).2 x.toInt.toNat).2.1 (wP ((sSh s).2 x.toInt.toNat)) (2 ^ ((sSh s).2 x.toInt.toNat).1) = d at this q2 ⊢
    generalize 2 ^ ((sSh s).2 x.toInt.toNat).1 = K at this ⊢
    omega
  · exact hk
theorem M_draw (h : RF A m s) (hk : StOK s) (x : Int32) : ∃ r, fX12_draw A (some m) x = some r ∧ r.1 = oDraw s x ∧ RF r.2 m (eDraw s x) ∧ Mm m A r.2 := by
  unfold fX12_draw oDraw eDraw
  rw [h.1.rc, bs, M_isW h hk x, bs]
  by_cases q : 0 ≤ x.toInt ∧ x.toInt < (sSh s).1
  rotate_left
  · rw [if_pos (bI0.mpr q), if_neg q, if_neg (fun z => q z.1)]; exact ⟨_, rfl, rfl, h, Mm.rf⟩
  obtain ⟨t, ht, t2⟩ := wz q
  have hx : x = I (t : Int) := lit_eq t2
  have h4 := p2_lt (hk.vw ht).1
  have hK := hk.1.1
  obtain ⟨r, r1, r2, r3⟩ := M_drawn h.1 (h.we hk ht) (hk.vw ht)
  rw [if_neg (fun z => bI0.mp z q), if_pos q, t2, Int.toNat_natCast, hx, r1, bs, r2]
  have hd := dwn_b ((sSh s).2 t).1 ((sSh s).2 t).2.1 (wP ((sSh s).2 t)) (2 ^ ((sSh s).2 t).1)
  generalize dwn ((sSh s).2 t).1 ((sSh s).2 t).2.1 (wP ((sSh s).2 t)) (2 ^ ((sSh s).2 t).1) = d at hd ⊢
  generalize 2 ^ ((sSh s).2 t).1 = K at hd h4
  by_cases q2 : d = -1
  · rw [if_pos (by rw [q2]; rfl), if_pos q2, if_neg (fun z => z.2 q2)]; exact ⟨_, rfl, rfl, h.ms r3, r3.mm⟩
  have h' := h.ms r3
  obtain ⟨B, b1, b2, b3⟩ := M_minds h' hk
  have x1 : (1 : Int32) + 18 * I (t : Int) + 1 = I ((1 + 18 * t + 1 : Nat) : Int) := by rw [L_1, show (18 : Int32) = I 18 from rfl, I_mul, I_add, I_add]; congr 1
  have h2 := b2.sgs (stMind_ok hk) ht (v := d.toNat)
  have hdn : ((d.toNat : Nat) : Int) = d := by omega
  rw [hdn] at h2
  rw [if_neg (show ¬ I d = -1 from eq_n (b := -1) (by omega)), if_neg q2, if_pos ⟨by omega, q2⟩, b1, bs, b2.1.w, bs, x1, b2.1.w_s (by omega) (by omega), bs, Int.toNat_natCast]
  exact ⟨_, rfl, rfl, h2, (r3.mm.tr b3.mm).tr (Mm.se (j := 1) (by omega))⟩
/-- without word t -/
def outW (s : St) (t : Nat) : St := ((s.1.1 - 1, fun u => if u < t then s.1.2 u else s.1.2 (u + 1)), s.2)
def eTake (s : St) (x : Int32) : St := if 0 ≤ x.toInt ∧ x.toInt < (sSh s).1 then outW (stMind s) x.toInt.toNat else s
def oTake (s : St) (x : Int32) : Int32 := if 0 ≤ x.toInt ∧ x.toInt < (sSh s).1 then I (((sSh s).1 - 1 : Nat) : Int) else -1000000001
theorem eTake_ok (hk : StOK s) (x : Int32) : StOK (eTake s x) := by
  unfold eTake
  split
  · have hk' := stMind_ok hk
    refine ⟨⟨by show s.1.1 - 1 ≤ 6; have : s.1.1 ≤ 6 := hk.1.1; omega, fun u hu => ?_⟩, hk'.2⟩
    have hu' : u < s.1.1 - 1 := hu
    show WOK (if u < x.toInt.toNat then s.1.2 u else s.1.2 (u + 1))
    split
    · exact hk.1.2 u (by show u < s.1.1; omega)
    · exact hk.1.2 (u + 1) (by show u + 1 < s.1.1; omega)
  · exact hk
theorem SLt.mv {A A' : AH} {m a b : Nat} {w : Wrd} (h : SLt A m a w) (hN : w.1 ≤ 8) (g : ∀ j, j < 18 → He A' (m + 1) (b + j) = He A (m + 1) (a + j)) : SLt A' m b w := by
  refine ⟨?_, ?_, fun i hi => ?_⟩
  · have : He A' (m + 1) b = He A (m + 1) a := g 0 (by omega)
    rw [this]; exact h.1
  · rw [g 1 (by omega)]; exact h.2.1
  · have := g (2 + i) (by omega)
    rw [show b + 2 + i = b + (2 + i) by omega, this, show a + (2 + i) = a + 2 + i by omega]; exact h.2.2 i hi
theorem M_take (h : RF A m s) (hk : StOK s) (x : Int32) : ∃ r, fX12_take A (some m) x = some r ∧ r.1 = oTake s x ∧ RF r.2 m (eTake s x) ∧ Mm m A r.2 := by
  unfold fX12_take oTake eTake
  rw [h.1.rc, bs, M_isW h hk x, bs]
  by_cases q : 0 ≤ x.toInt ∧ x.toInt < (sSh s).1
  rotate_left
  · rw [if_pos (bI0.mpr q), if_neg q, if_neg q]; exact ⟨_, rfl, rfl, h, Mm.rf⟩
  obtain ⟨t, ht, t2⟩ := wz q
  have hx : x = I (t : Int) := lit_eq t2
  have hK := hk.1.1
  obtain ⟨B, b1, b2, b3⟩ := M_minds h hk
  have hk' := stMind_ok hk
  have hB := b2.1
  have bk0 : aI B 14 (some (m + 1)) 0 = some (I (sSh s).1) := b2.k0
  have b0 : He B (m + 1) 0 = I (sSh s).1 := b2.2.1.1
  have s0 : sI B 14 (some (m + 1)) 0 (I ((sSh s).1 : Int) - 1) = some (se B (m + 1) 0 (I (((sSh s).1 - 1 : Nat) : Int))) := by
    rw [L_0, hB.w_s (by omega) (by omega), L_1, I_sub, show ((sSh s).1 : Int) - 1 = (((sSh s).1 - 1 : Nat) : Int) by omega]; rfl
  have x0 : (18 : Int32) * I (t : Int) = I ((18 * t : Nat) : Int) := by rw [show (18 : Int32) = I 18 from rfl, I_mul]; congr 1
  have x9 : (18 : Int32) * I (((sSh s).1 - 1 : Nat) : Int) = I ((18 * ((sSh s).1 - 1) : Nat) : Int) := by rw [show (18 : Int32) = I 18 from rfl, I_mul]; congr 1
  rw [if_neg (fun z => bI0.mp z q), if_pos q, if_pos q, t2, Int.toNat_natCast, hx, b1, bs, hB.w, bs, bk0, bs, s0, bs, x0]
  refine for_eb (18 * ((sSh s).1 - 1 - t)) (fun k u => u.1 = I ((18 * t + k : Nat) : Int) ∧ Mw m B u.2 ∧ Hi u.2 = Hi B ∧ He u.2 (m + 1) 0 = I (((sSh s).1 - 1 : Nat) : Int) ∧ ∀ j, 0 < j → He u.2 (m + 1) j = if 1 + 18 * t ≤ j ∧ j < 1 + 18 * t + k then He B (m + 1) (18 + j) else He B (m + 1) j) (fun C => Mw m B C ∧ Hi C = Hi B ∧ He C (m + 1) 0 = I (((sSh s).1 - 1 : Nat) : Int) ∧ ∀ j, 0 < j → He C (m + 1) j = if 1 + 18 * t ≤ j ∧ j < 1 + 18 * t + 18 * ((sSh s).1 - 1 - t) then He B (m + 1) (18 + j) else He B (m + 1) j) ⟨rfl, Mw.se, rfl, by dsimp only; rw [he_se, if_pos rfl], fun j hj => by dsimp only; rw [he_se, if_neg (by omega), if_neg (by omega)]⟩ ?_ ?_ ?_
  · rintro k ⟨u1, u2⟩ hk ⟨e1, e2, e3, e4, e5⟩
    dsimp only at e1 e2 e3 e4 e5 ⊢
    subst e1
    have hM' := hB.mw e2
    have k0 : aI u2 14 (some (m + 1)) 0 = some (I (((sSh s).1 - 1 : Nat) : Int)) := by
      rw [L_0, hM'.w_l (by omega) (by omega), show (0 : Int).toNat = 0 from rfl, e4]
    have y1 : (19 : Int32) + I ((18 * t + k : Nat) : Int) = I ((19 + (18 * t + k) : Nat) : Int) := by rw [show (19 : Int32) = I 19 from rfl, I_add]; congr 1
    have y2 : (1 : Int32) + I ((18 * t + k : Nat) : Int) = I ((1 + (18 * t + k) : Nat) : Int) := by rw [L_1, I_add]; congr 1
    rw [hM'.w, bs, k0, bs, x9, if_neg (le_n (by omega)), bs, bs, y1, y2, hM'.w_l (by omega) (by omega), bs, hM'.w_s (by omega) (by omega), bs, Int.toNat_natCast, Int.toNat_natCast]
    refine ⟨_, rfl, by dsimp only; rw [L_1, I_add]; congr 1, e2.tr Mw.se, e3, ?_, fun j hj => ?_⟩
    · dsimp only; rw [he_se, if_neg (by omega), e4]
    · dsimp only
      rw [he_se]
      by_cases z : j = 1 + (18 * t + k)
      · rw [if_pos z, if_pos (by omega), e5 _ (by omega), if_neg (by omega)]
        congr 1; omega
      · rw [if_neg z, e5 j hj]
        by_cases z2 : 1 + 18 * t ≤ j ∧ j < 1 + 18 * t + k
        · rw [if_pos z2, if_pos (by omega)]
        · rw [if_neg z2, if_neg (by omega)]
  · rintro ⟨u1, u2⟩ ⟨e1, e2, e3, e4, e5⟩
    dsimp only at e1 e2 e3 e4 e5 ⊢
    subst e1
    have hM' := hB.mw e2
    have k0 : aI u2 14 (some (m + 1)) 0 = some (I (((sSh s).1 - 1 : Nat) : Int)) := by
      rw [L_0, hM'.w_l (by omega) (by omega), show (0 : Int).toNat = 0 from rfl, e4]
    exact ⟨u2, by rw [hM'.w, bs, k0, bs, x9, if_pos (le_y (by omega))], e2, e3, e4, e5⟩
  · rintro C ⟨e2, e3, e4, e5⟩
    have hM' := hB.mw e2
    have k0 : aI C 14 (some (m + 1)) 0 = some (I (((sSh s).1 - 1 : Nat) : Int)) := by
      rw [L_0, hM'.w_l (by omega) (by omega), show (0 : Int).toNat = 0 from rfl, e4]
    rw [hM'.w, bs, k0, bs]
    refine ⟨_, rfl, rfl, ?_, b3.mm.tr e2.mm⟩
    refine b2.sh hk' e2 (by rw [e3]) (fun j hj => ?_) ⟨e4, fun u hu => ?_⟩
    · rw [e5 j (by omega), if_neg (by omega)]
    · have hu' : u < (sSh s).1 - 1 := hu
      show SLt C m (0 + 1 + 18 * u) (if u < t then s.1.2 u else s.1.2 (u + 1))
      split
      · rename_i z
        have hu2 : u < (sSh (stMind s)).1 := by show u < (sSh s).1; omega
        exact (b2.2.1.2 u hu2).mv (hk'.1.2 u hu2).1.1 (fun j hj => by rw [e5 _ (by omega), if_neg (by omega)])
      · rename_i z
        have hu2 : u + 1 < (sSh (stMind s)).1 := by show u + 1 < (sSh s).1; omega
        exact (b2.2.1.2 (u + 1) hu2).mv (hk'.1.2 (u + 1) hu2).1.1 (fun j hj => by rw [e5 _ (by omega), if_pos (by omega)]; congr 1; omega)
end DD
