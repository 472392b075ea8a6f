/-! more questions, asked of the class -/
section
variable {A B C : AH} {x r w a : Nat} {G : Gm} {wd : Wrd} {s : St} {sh : Sh}
theorem F_count (h : FO A x a r wd.1 wd.2.1 (wP wd) wd.2.2) : fX3_count A (some a) = some (I (wFc wd)) := C_fcount h
theorem W_word (h : CF A x G s) (hk : StOK s) (v z : Int32) : ∃ y, fX11_word A (some x) v z = some y ∧ y.1 = qWord s v z ∧ CF y.2 x G s ∧ Kp x A y.2 := by
  unfold fX11_word qWord
  rw [rcv_ok h.c0, bs, h.1.1.sh, bs]
  rcases W_get h hk v with ⟨q, w, w1, w2⟩ | ⟨q, w1⟩
  rotate_left
  · rw [w1, bs, if_pos rfl, if_neg q]
    exact ⟨_, rfl, rfl, h, Kp.rf⟩
  obtain ⟨r, r1, r2, r3, r4, r5, r6, r7, r8, r9, r10⟩ := G_row h.1 w2
  have hN := r7.1
  have hp := p2_lt hN
  rw [w1, bs, if_neg some_ne, if_pos q, r1, bs, h.1.1.hp]
  show ∃ y : Int32 × AH, _ = some y ∧ y.1 = qWd (sW s v) z ∧ _
  unfold qWd
  by_cases c0 : z = 0
  · rw [if_pos c0, if_pos c0, C_lc r8, bs]; exact ⟨_, rfl, rfl, h, Kp.rf⟩
  rw [if_neg c0, if_neg c0]
  by_cases c1 : z = 1
  · obtain ⟨y, y1, y2, y3, y4⟩ := G_parts h.1 r2
    rw [if_pos c1, if_pos c1, bs, y1, bs]
    exact ⟨_, rfl, by dsimp only; rw [y2, r5, r6, r3], h.qt y4 y3, y4.kp h.1.1⟩
  rw [if_neg c1, if_neg c1]
  by_cases c2 : z = 2
  · obtain ⟨y, y1, y2, y3, y4⟩ := G_broken h.1 r2
    rw [if_pos c2, if_pos c2, bs, y1, bs]
    exact ⟨_, rfl, by dsimp only; rw [y2, r5, r6, r3], h.qt y4 y3, y4.kp h.1.1⟩
  rw [if_neg c2, if_neg c2]
  by_cases c3 : z = 3
  · rw [if_pos c3, if_pos c3, G_signSet w2, bs]; exact ⟨_, rfl, rfl, h, Kp.rf⟩
  rw [if_neg c3, if_neg c3]
  have fac : ∀ (P : Option Nat × AH → Option (Int32 × AH)) (ans : Int32), (∀ f r B, FO B x f r (sW s v).1 (sW s v).2.1 (wP (sW s v)) (sW s v).2.2 → RD B x r (sW s v).1 (sW s v).2.1 (wP (sW s v)) (wQ (sW s v)) → IV B x G → ∃ y, P (some f, B) = some y ∧ y.1 = ans ∧ IV y.2 x G ∧ Qt x B y.2) → ∃ y, (fX10_faces A (some w) (some (x + 20))).bind P = some y ∧ y.1 = ans ∧ CF y.2 x G s ∧ Kp x A y.2 := by
    intro P ans hP
    obtain ⟨f, r', B, b1, b2, b3, b4, b5, b6, b7⟩ := G_faces h.1 w2
    obtain ⟨y, y1, y2, y3, y4⟩ := hP f r' B b4 b5 b2
    rw [b1, bs, y1]
    exact ⟨y, rfl, y2, h.qt (b3.tr y4) y3, (b3.tr y4).kp h.1.1⟩
  by_cases c4 : z = 4
  · rw [if_pos c4, bs]
    have e : (if z = 8 then I ((rings (sW s v).1 (wP (sW s v)) (wQ (sW s v)) 0 : Nat) : Int) else if z = 11 then I ((wK (sW s v) : Nat) : Int) else if z = 12 then I ((lps (sW s v).1 (wP (sW s v)) (wQ (sW s v)) (sW s v).1 : Nat) : Int) else if 4 ≤ z.toInt ∧ z.toInt ≤ 14 then qFcs (sW s v) z else -1000000002) = I (wFc (sW s v)) := by
      subst c4
      rw [if_neg (by decide), if_neg (by decide), if_neg (by decide), if_pos (by decide)]
      unfold qFcs
      rw [if_pos rfl]
    rw [e]
    refine fac _ _ (fun f r B f1 f2 f3 => ?_)
    dsimp only
    rw [F_count f1, bs]
    exact ⟨_, rfl, rfl, f3, Qt.rf⟩
  rw [if_neg c4]
  by_cases c5 : z = 5
  · rw [if_pos c5, bs]
    have e : (if z = 8 then I ((rings (sW s v).1 (wP (sW s v)) (wQ (sW s v)) 0 : Nat) : Int) else if z = 11 then I ((wK (sW s v) : Nat) : Int) else if z = 12 then I ((lps (sW s v).1 (wP (sW s v)) (wQ (sW s v)) (sW s v).1 : Nat) : Int) else if 4 ≤ z.toInt ∧ z.toInt ≤ 14 then qFcs (sW s v) z else -1000000002) = gen2 (I (((sW s v).1 : Int) + 2 - wFc (sW s v))) := by
      subst c5
      rw [if_neg (by decide), if_neg (by decide), if_neg (by decide), if_pos (by decide)]
      unfold qFcs
      rw [if_neg (by decide), if_pos rfl]
    rw [e]
    refine fac _ _ (fun f r B f1 f2 f3 => ?_)
    dsimp only
    rw [C_handles f1 f2, bs]
    exact ⟨_, rfl, rfl, f3, Qt.rf⟩
  rw [if_neg c5]
  by_cases c6 : z = 6
  · obtain ⟨y, y1, y2, y3, y4⟩ := G_drawn h.1 r2
    rw [if_pos c6, bs, y1, bs]
    refine ⟨_, rfl, ?_, h.qt y4 y3, y4.kp h.1.1⟩
    subst c6
    dsimp only
    rw [if_neg (by decide), if_neg (by decide), if_neg (by decide), if_pos (by decide), y2]
    unfold qFcs
    rw [if_neg (by decide), if_neg (by decide), if_pos rfl, r3, r4, r5]
  rw [if_neg c6]
  by_cases c7 : z = 7
  · obtain ⟨y, y1, y2, y3, y4⟩ := G_drawings h.1 r2
    rw [if_pos c7, bs, y1, bs]
    refine ⟨_, rfl, ?_, h.qt y4 y3, y4.kp h.1.1⟩
    subst c7
    dsimp only
    rw [if_neg (by decide), if_neg (by decide), if_neg (by decide), if_pos (by decide), y2]
    unfold qFcs
    rw [if_neg (by decide), if_neg (by decide), if_neg (by decide), if_pos rfl, r3, r4, r5]
  rw [if_neg c7]
  by_cases c8 : z = 8
  · obtain ⟨y, y1, y2, y3, y4⟩ := G_rings h.1 r2 (s := 0) (by omega)
    have y1 : fX7_ringsOf A (some r) 0 (some (x + 20)) = some y := y1
    rw [if_pos c8, if_pos c8, bs, y1, bs]
    exact ⟨_, rfl, by dsimp only; rw [y2, r5, r6, r3], h.qt y4 y3, y4.kp h.1.1⟩
  rw [if_neg c8, if_neg c8]
  have tre : ∀ (dk : Bool) (d : Int32), d = bI (dk = true) → ∃ y, ((some (some (x + 20))).bind fun v32 => (fX10_faces A (some w) v32).bind fun r33 => (gR r33.2 12 359 (some x)).bind fun v34 => (fX3_trees r33.2 r33.1 d v34).bind fun r35 => some (r35.1, r35.2)) = some y ∧ y.1 = I (wTr (sW s v) dk) ∧ CF y.2 x G s ∧ Kp x A y.2 := by
    intro dk d hd
    rw [bs]
    refine fac _ _ (fun f r B f1 f2 f3 => ?_)
    dsimp only
    obtain ⟨y, y1, y2, y3⟩ := C_trees f3.1 f1 f2 r7 dk
    rw [f3.1.hp, bs, hd, y1, bs]
    obtain ⟨i1, i2⟩ := GI.hp f3 y3 (fun a q => hS_d q)
    exact ⟨_, rfl, y2, i1, i2⟩
  by_cases c9 : z = 9
  · rw [if_pos c9]
    have e : (if z = 11 then I ((wK (sW s v) : Nat) : Int) else if z = 12 then I ((lps (sW s v).1 (wP (sW s v)) (wQ (sW s v)) (sW s v).1 : Nat) : Int) else if 4 ≤ z.toInt ∧ z.toInt ≤ 14 then qFcs (sW s v) z else -1000000002) = I (wTr (sW s v) true) := by
      subst c9
      rw [if_neg (by decide), if_neg (by decide), if_pos (by decide)]
      unfold qFcs
      rw [if_neg (by decide), if_neg (by decide), if_neg (by decide), if_neg (by decide), if_pos rfl]
    rw [e]
    exact tre true 1 rfl
  rw [if_neg c9]
  by_cases c10 : z = 10
  · rw [if_pos c10]
    have e : (if z = 11 then I ((wK (sW s v) : Nat) : Int) else if z = 12 then I ((lps (sW s v).1 (wP (sW s v)) (wQ (sW s v)) (sW s v).1 : Nat) : Int) else if 4 ≤ z.toInt ∧ z.toInt ≤ 14 then qFcs (sW s v) z else -1000000002) = I (wTr (sW s v) false) := by
      subst c10
      rw [if_neg (by decide), if_neg (by decide), if_pos (by decide)]
      unfold qFcs
      rw [if_neg (by decide), if_neg (by decide), if_neg (by decide), if_neg (by decide), if_neg (by decide), if_pos rfl]
    rw [e]
    exact tre false 0 rfl
  rw [if_neg c10]
  by_cases c11 : z = 11
  · obtain ⟨y, y1, y2, y3, y4⟩ := G_kin h.1 r2
    rw [if_pos c11, if_pos c11, y1, bs]
    exact ⟨_, rfl, by dsimp only; rw [y2, r10], h.qt y4 y3, y4.kp h.1.1⟩
  rw [if_neg c11, if_neg c11]
  by_cases c12 : z = 12
  · rw [if_pos c12, if_pos c12, C_loops r8 r7, bs]; exact ⟨_, rfl, rfl, h, Kp.rf⟩
  rw [if_neg c12, if_neg c12]
  by_cases c13 : z = 13
  · rw [if_pos c13, bs]
    have e : (if 4 ≤ z.toInt ∧ z.toInt ≤ 14 then qFcs (sW s v) z else -1000000002) = I (wFz (sW s v) 2) := by
      subst c13
      rw [if_pos (by decide)]
      unfold qFcs
      rw [if_neg (by decide), if_neg (by decide), if_neg (by decide), if_neg (by decide), if_neg (by decide), if_neg (by decide)]
      rfl
    rw [e]
    refine fac _ _ (fun f r B f1 f2 f3 => ?_)
    dsimp only
    have e2 : fX3_countOfSize B (some f) 2 = some (I (wFz (sW s v) 2)) := C_countOfSize f1 hN (k := 2) (by omega)
    rw [e2, bs]
    exact ⟨_, rfl, rfl, f3, Qt.rf⟩
  rw [if_neg c13]
  by_cases c14 : z = 14
  · rw [if_pos c14, bs]
    have e : (if 4 ≤ z.toInt ∧ z.toInt ≤ 14 then qFcs (sW s v) z else -1000000002) = I (wFz (sW s v) 3) := by
      subst c14
      rw [if_pos (by decide)]
      unfold qFcs
      rw [if_neg (by decide), if_neg (by decide), if_neg (by decide), if_neg (by decide), if_neg (by decide), if_neg (by decide)]
      rfl
    rw [e]
    refine fac _ _ (fun f r B f1 f2 f3 => ?_)
    dsimp only
    have e2 : fX3_countOfSize B (some f) 3 = some (I (wFz (sW s v) 3)) := C_countOfSize f1 hN (k := 3) (by omega)
    rw [e2, bs]
    exact ⟨_, rfl, rfl, f3, Qt.rf⟩
  rw [if_neg c14, if_neg]
  · exact ⟨_, rfl, rfl, h, Kp.rf⟩
  · rintro ⟨e1, e2⟩
    have d4 := lit_ne (k := 4) c4
    have d5 := lit_ne (k := 5) c5
    have d6 := lit_ne (k := 6) c6
    have d7 := lit_ne (k := 7) c7
    have d8 := lit_ne (k := 8) c8
    have d9 := lit_ne (k := 9) c9
    have d10 := lit_ne (k := 10) c10
    have d11 := lit_ne (k := 11) c11
    have d12 := lit_ne (k := 12) c12
    have d13 := lit_ne (k := 13) c13
    have d14 := lit_ne (k := 14) c14
    omega
theorem W_letter (h : CF A x G s) (hk : StOK s) (v c z : Int32) : ∃ y, fX11_letter A (some x) v c z = some y ∧ y.1 = qLetter s v c z ∧ CF y.2 x G s ∧ Kp x A y.2 := by
  unfold fX11_letter qLetter
  rw [rcv_ok h.c0, bs, h.1.1.sh, bs]
  rcases W_get h hk v with ⟨q, w, w1, w2⟩ | ⟨q, w1⟩
  rotate_left
  · rw [w1, bs, if_pos rfl, if_neg q]
    exact ⟨_, rfl, rfl, h, Kp.rf⟩
  obtain ⟨r, r1, r2, r3, r4, r5, r6, r7, r8, r9, r10⟩ := G_row h.1 w2
  have hN := r7.1
  have e := C_hasLetter r8 hN (Bd_of c)
  rw [← I_of] at e
  rw [w1, bs, if_neg some_ne, if_pos q, r1, bs, e, bs]
  by_cases q2 : 0 ≤ c.toInt ∧ c.toInt < (sW s v).1
  rotate_left
  · rw [if_pos (bI0.mpr q2), if_neg q2]; exact ⟨_, rfl, rfl, h, Kp.rf⟩
  obtain ⟨k, hk1, k2⟩ := wz q2
  have hc : c = I (k : Int) := lit_eq k2
  rw [if_neg (fun z => bI0.mp z q2), if_pos q2, jp_eq, h.1.1.hp]
  have fac : ∀ (P : Option Nat × AH → Option (Int32 × AH)) (ans : Int32), (∀ f r B, Hr B 322 w = some f → WD B x G w (sW s v) → FO B x f r (sW s v).1 (sW s v).2.1 (wP (sW s v)) (sW s v).2.2 → RD B x r (sW s v).1 (sW s v).2.1 (wP (sW s v)) (wQ (sW s v)) → IV B x G → ∃ y, P (some f, B) = some y ∧ y.1 = ans ∧ IV y.2 x G ∧ Qt x B y.2) → ∃ y, (fX10_faces A (some w) (some (x + 20))).bind P = some y ∧ y.1 = ans ∧ CF y.2 x G s ∧ Kp x A y.2 := by
    intro P ans hP
    obtain ⟨f, r', B, b1, b2, b3, b4, b5, b6, b7⟩ := G_faces h.1 w2
    obtain ⟨y, y1, y2, y3, y4⟩ := hP f r' B b7 (w2.qt b3) b4 b5 b2
    rw [b1, bs, y1]
    exact ⟨y, rfl, y2, h.qt (b3.tr y4) y3, (b3.tr y4).kp h.1.1⟩
  by_cases qz : 0 ≤ z.toInt ∧ z.toInt ≤ 7
  rotate_left
  · have d : ∀ j : Int, 0 ≤ j → j ≤ 7 → z ≠ I j := fun j j0 j7 e => qz (by rw [e, I_toInt ⟨by omega, by omega⟩]; exact ⟨j0, j7⟩)
    rw [if_neg qz, if_neg (show ¬ z = 0 from d 0 (by omega) (by omega)), if_neg (show ¬ z = 1 from d 1 (by omega) (by omega)), if_neg (show ¬ z = 2 from d 2 (by omega) (by omega)), if_neg (show ¬ z = 3 from d 3 (by omega) (by omega)), if_neg (show ¬ z = 4 from d 4 (by omega) (by omega)), if_neg (show ¬ z = 5 from d 5 (by omega) (by omega)), if_neg (show ¬ z = 6 from d 6 (by omega) (by omega)), if_neg (show ¬ z = 7 from d 7 (by omega) (by omega))]
    exact ⟨_, rfl, rfl, h, Kp.rf⟩
  obtain ⟨j, j1, j2⟩ : ∃ j : Nat, j ≤ 7 ∧ z.toInt = j := ⟨z.toInt.toNat, by omega, by omega⟩
  have hz : z = I (j : Int) := lit_eq j2
  rw [if_pos qz, k2, j2, Int.toNat_natCast, Int.toNat_natCast]
  show ∃ y : Int32 × AH, _ = some y ∧ y.1 = qLt (sW s v) k j ∧ _
  have e0 : fX7_placeOf A (some r) c 0 = some (I (wP (sW s v) k)) := by rw [hc]; exact C_placeOf r8 hN hk1 (b := 0) (by omega)
  have e1 : fX7_placeOf A (some r) c 1 = some (I (wQ (sW s v) k)) := by rw [hc]; exact C_placeOf r8 hN hk1 (b := 1) (by omega)
  have mid4 : 3 ≤ j → j ≤ 6 → ∃ y, ((some (some (x + 20))).bind fun v28 => (fX10_faces A (some w) v28).bind fun r29 => (fX3_faceOf r29.2 r29.1 c (z - 3)).bind fun r30 => some (r30, r29.2)) = some y ∧ y.1 = qLt (sW s v) k j ∧ CF y.2 x G s ∧ Kp x A y.2 := by
    intro j3 j6
    rw [bs]
    refine fac _ _ (fun f r B f0 f0' f1 f2 f3 => ?_)
    have e3 : z - 3 = I ((j - 3 : Nat) : Int) := by rw [hz, L_3, I_sub]; congr 1; omega
    dsimp only
    rw [e3, hc, C_fo f1 hN hk1 (by omega), bs]
    refine ⟨_, rfl, ?_, f3, Qt.rf⟩
    unfold qLt wFl
    rw [if_pos j3, if_neg (by omega)]
    dsimp only
    congr 3
    omega
  have zz : j = 0 ∨ j = 1 ∨ j = 2 ∨ j = 3 ∨ j = 4 ∨ j = 5 ∨ j = 6 ∨ j = 7 := by omega
  rcases zz with rfl | rfl | rfl | rfl | rfl | rfl | rfl | rfl
  · rw [if_pos (show z = 0 from hz), bs, e0, bs]
    exact ⟨_, rfl, rfl, h, Kp.rf⟩
  · rw [if_neg (by rw [hz]; decide), if_pos (show z = 1 from hz), bs, e1, bs]
    exact ⟨_, rfl, rfl, h, Kp.rf⟩
  · rw [if_neg (by rw [hz]; decide), if_neg (by rw [hz]; decide), if_pos (show z = 2 from hz), bs, hc, C_betweenSet r8 hN hk1, bs]
    exact ⟨_, rfl, rfl, h, Kp.rf⟩
  · rw [if_neg (by rw [hz]; decide), if_neg (by rw [hz]; decide), if_neg (by rw [hz]; decide), if_pos (show z = 3 from hz)]
    exact mid4 (by omega) (by omega)
  · rw [if_neg (by rw [hz]; decide), if_neg (by rw [hz]; decide), if_neg (by rw [hz]; decide), if_neg (by rw [hz]; decide), if_pos (show z = 4 from hz)]
    exact mid4 (by omega) (by omega)
  · rw [if_neg (by rw [hz]; decide), if_neg (by rw [hz]; decide), if_neg (by rw [hz]; decide), if_neg (by rw [hz]; decide), if_neg (by rw [hz]; decide), if_pos (show z = 5 from hz)]
    exact mid4 (by omega) (by omega)
  · rw [if_neg (by rw [hz]; decide), if_neg (by rw [hz]; decide), if_neg (by rw [hz]; decide), if_neg (by rw [hz]; decide), if_neg (by rw [hz]; decide), if_neg (by rw [hz]; decide), if_pos (show z = 6 from hz)]
    exact mid4 (by omega) (by omega)
  · rw [if_neg (by rw [hz]; decide), if_neg (by rw [hz]; decide), if_neg (by rw [hz]; decide), if_neg (by rw [hz]; decide), if_neg (by rw [hz]; decide), if_neg (by rw [hz]; decide), if_neg (by rw [hz]; decide), if_pos (show z = 7 from hz), bs]
    refine fac _ _ (fun f r B f0 f0' f1 f2 f3 => ?_)
    dsimp only
    unfold qLt
    rw [if_pos (by omega), if_pos (by omega), C_isPlane f1, bs]
    by_cases pl : faces (sW s v).1 (sW s v).2.1 (wP (sW s v)) (sW s v).2.2 = (sW s v).1 + 2
    · have pl' : wFc (sW s v) = (sW s v).1 + 2 := pl
      obtain ⟨f', r', C, b1, b2, b3, b4, b5, b6, b7⟩ := G_faces f3 f0'
      rw [if_neg (fun z => bI0.mp z pl), if_pos pl', f3.1.hp, bs, b1, bs]
      dsimp only
      rw [hc, C_middle b4 r7 pl hk1, bs]
      exact ⟨_, rfl, rfl, b2, b3⟩
    · have pl' : ¬ wFc (sW s v) = (sW s v).1 + 2 := pl
      rw [if_pos (bI0.mpr pl), if_neg pl']
      exact ⟨_, rfl, rfl, f3, Qt.rf⟩
theorem W_face (h : CF A x G s) (hk : StOK s) (v c z : Int32) : ∃ y, fX11_face A (some x) v c z = some y ∧ y.1 = qFace s v c z ∧ CF y.2 x G s ∧ Kp x A y.2 := by
  have hbz := Bd_of z
  unfold fX11_face qFace
  rw [rcv_ok h.c0, bs, h.1.1.sh, bs]
  rcases W_get h hk v with ⟨q, w, w1, w2⟩ | ⟨q, w1⟩
  rotate_left
  · rw [w1, bs, if_pos rfl, if_neg q]
    exact ⟨_, rfl, rfl, h, Kp.rf⟩
  obtain ⟨f, r, B, b1, b2, b3, b4, b5, b6, b7⟩ := G_faces h.1 w2
  have hN := b6.1
  have e := C_hasFace b4 hN (Bd_of c)
  rw [← I_of] at e
  have hB := h.qt b3 b2
  rw [w1, bs, if_neg some_ne, if_pos q, h.1.1.hp, bs, b1, bs]
  dsimp only
  rw [e, bs]
  by_cases q2 : 0 ≤ c.toInt ∧ c.toInt < faces (sW s v).1 (sW s v).2.1 (wP (sW s v)) (sW s v).2.2
  rotate_left
  · rw [if_pos (bI0.mpr q2), if_neg (show ¬ (0 ≤ c.toInt ∧ c.toInt < wFc (sW s v)) from q2)]; exact ⟨_, rfl, rfl, hB, b3.kp h.1.1⟩
  obtain ⟨k, hk1, k2⟩ := wz q2
  have hc : c = I (k : Int) := lit_eq k2
  rw [if_neg (fun z => bI0.mp z q2), if_pos (show 0 ≤ c.toInt ∧ c.toInt < wFc (sW s v) from q2)]
  by_cases q3 : 0 ≤ z.toInt
  rotate_left
  · rw [if_pos (show z < 0 by rw [I_of z]; exact lt_y (b := 0) (by omega)), if_neg (fun y => q3 y.1)]
    exact ⟨_, rfl, rfl, hB, b3.kp h.1.1⟩
  rw [if_neg (show ¬ z < 0 by rw [I_of z]; exact lt_n (b := 0) (by omega))]
  by_cases q4 : z.toInt ≤ 3
  rotate_left
  · rw [if_neg (show ¬ z ≤ 3 by rw [I_of z]; exact le_n (b := 3) (by omega)), if_neg (fun y => q4 y.2)]
    exact ⟨_, rfl, rfl, hB, b3.kp h.1.1⟩
  obtain ⟨f', r', C, d1, d2, d3, d4, d5, d6, d7⟩ := G_faces b2 (w2.qt b3)
  have hC := h.qt (b3.tr d3) d2
  have hkp := (b3.tr d3).kp h.1.1
  obtain ⟨j, j1, j2⟩ : ∃ j : Nat, j ≤ 3 ∧ z.toInt = j := ⟨z.toInt.toNat, by omega, by omega⟩
  have hz : z = I (j : Int) := lit_eq j2
  rw [if_pos (show z ≤ 3 by rw [I_of z]; exact le_y (b := 3) (by omega)), if_pos ⟨q3, q4⟩, b2.1.hp, bs, d1, bs, k2, j2, Int.toNat_natCast, Int.toNat_natCast]
  dsimp only
  show ∃ y : Int32 × AH, _ = some y ∧ y.1 = qFt (sW s v) k j ∧ _
  unfold qFt
  by_cases j0 : j = 0
  · rw [if_pos (by rw [hz, j0]; rfl), if_pos j0, hc, C_sizeOf d4 hN hk1, bs]
    exact ⟨_, rfl, rfl, hC, hkp⟩
  rw [if_neg (show ¬ z = 0 by rw [hz]; exact eq_n (b := 0) (by omega)), if_neg j0, C_isPlane d4, bs]
  by_cases pl : faces (sW s v).1 (sW s v).2.1 (wP (sW s v)) (sW s v).2.2 = (sW s v).1 + 2
  rotate_left
  · have pl' : ¬ wFc (sW s v) = (sW s v).1 + 2 := pl
    rw [if_pos (bI0.mpr pl), if_neg pl']
    exact ⟨_, rfl, rfl, hC, hkp⟩
  have pl' : wFc (sW s v) = (sW s v).1 + 2 := pl
  rw [if_neg (fun z => bI0.mp z pl), if_pos pl', jp_eq]
  by_cases j3 : j = 1
  · rw [if_pos (by rw [hz, j3]; rfl), if_pos j3, hc, C_isDark d4 b6 pl hk1, bs]
    unfold wFl wIx
    by_cases dk : drk (sW s v).1 (sW s v).2.1 (wP (sW s v)) (sW s v).2.2 (fl (sW s v).1 (sW s v).2.1 (wP (sW s v)) (sW s v).2.2) (ixF (sW s v).1 (sW s v).2.1 (wP (sW s v)) (sW s v).2.2) k
    · rw [if_neg (fun z => bI0.mp z dk)]; exact ⟨_, rfl, (bI1.mpr dk).symm, hC, hkp⟩
    · rw [if_pos (bI0.mpr dk)]; exact ⟨_, rfl, (bI0.mpr dk).symm, hC, hkp⟩
  rw [if_neg (show ¬ z = 1 by rw [hz]; exact eq_n (b := 1) (by omega)), if_neg j3]
  by_cases j4 : j = 2
  · rw [if_pos (by rw [hz, j4]; rfl), if_pos j4, hc, C_indexOf d4 hN pl hk1, bs]
    exact ⟨_, rfl, rfl, hC, hkp⟩
  · rw [if_neg (show ¬ z = 2 by rw [hz]; exact eq_n (b := 2) (by omega)), if_neg j4, hc, C_turnsAround d4 d5 b6 pl hk1, bs]
    exact ⟨_, rfl, rfl, hC, hkp⟩
theorem W_like (h : CF A x G s) (hk : StOK s) {t : Nat} (ht : t < (sSh s).1) : ∃ y, fX8_hasLikeAhead A (some (x + 1)) (I t) = some y ∧ y.1 = bI (anyB (fun u => decide (wSame ((sSh s).2 t) ((sSh s).2 u))) t = true) ∧ CF y.2 x G s ∧ Qt x A y.2 := by
  have h6 := hk.1.1
  unfold fX8_hasLikeAhead
  obtain ⟨w, w1, w2⟩ := C_getN h.1.1.s1 h.2.1 h6 ht
  rw [rcv_ok h.1.1.k1, bs, w1, bs]
  refine srch_ebF t 6 (by omega) (fun j u => u.1 = I j ∧ CF u.2 x G s ∧ Qt x A u.2 ∧ anyB (fun u => decide (wSame ((sSh s).2 t) ((sSh s).2 u))) j = false) (fun u => (∃ B, u = .inl B ∧ CF B x G s ∧ Qt x A B ∧ anyB (fun u => decide (wSame ((sSh s).2 t) ((sSh s).2 u))) t = false) ∨ (∃ B, u = .inr (1, B) ∧ CF B x G s ∧ Qt x A B ∧ anyB (fun u => decide (wSame ((sSh s).2 t) ((sSh s).2 u))) t = true)) ⟨rfl, h, Qt.rf, rfl⟩ ?_ ?_ ?_
  · rintro j ⟨u1, u2⟩ hj ⟨e1, e2, e3, e4⟩
    dsimp only at e1 e2 e3 e4 ⊢
    subst e1
    obtain ⟨p, p1, p2⟩ := C_getN e2.1.1.s1 e2.2.1 h6 (show j < (sSh s).1 by omega)
    have w2' := w2.qt e3
    obtain ⟨r, r1, r2, r3, r4, r5, r6, r7, r8, r9, r10⟩ := G_row e2.1 w2'
    obtain ⟨q, q1, q2, q3, q4, q5, q6, q7, q8, q9, q10⟩ := G_row e2.1 p2
    obtain ⟨y, y1, y2, y3, y4⟩ := G_isLike e2.1 r2 q2
    rw [← r3, ← q3, ← r4, ← q4] at y2
    have y2 : y.1 = bI (wSame ((sSh s).2 t) ((sSh s).2 j)) := y2
    rw [if_neg (le_n (by omega)), p1, bs, jp_eq, if_neg some_ne, if_neg some_ne, r1, bs, q1, bs, y1, bs, y2]
    have ea : anyB (fun u => decide (wSame ((sSh s).2 t) ((sSh s).2 u))) (j + 1) = (anyB (fun u => decide (wSame ((sSh s).2 t) ((sSh s).2 u))) j || decide (wSame ((sSh s).2 t) ((sSh s).2 j))) := rfl
    by_cases e : wSame ((sSh s).2 t) ((sSh s).2 j)
    · right
      rw [if_neg (fun z => bI0.mp z e)]
      exact ⟨_, rfl, Or.inr ⟨_, rfl, e2.qt y4 y3, e3.tr y4, anyB_to hj (decide_eq_true e)⟩⟩
    · left
      rw [if_pos (bI0.mpr e)]
      exact ⟨_, rfl, by dsimp only; rw [L_1, I_add, ← cst], e2.qt y4 y3, e3.tr y4, by rw [ea, e4, decide_eq_false e]; rfl⟩
  · rintro ⟨u1, u2⟩ ⟨e1, e2, e3, e4⟩
    dsimp only at e1 e2 e3 e4 ⊢
    subst e1
    exact ⟨_, by rw [if_pos (le_y (by omega))], Or.inl ⟨_, rfl, e2, e3, e4⟩⟩
  · rintro u (⟨B, rfl, e2, e3, e4⟩ | ⟨B, rfl, e2, e3, e4⟩)
    · exact ⟨_, rfl, (bI0.mpr (by rw [e4]; decide)).symm, e2, e3⟩
    · exact ⟨_, rfl, (bI1.mpr e4).symm, e2, e3⟩
theorem W_unlike (h : CF A x G s) (hk : StOK s) : ∃ y, fX8_unlike A (some (x + 1)) = some y ∧ y.1 = I (uni (sSh s).2 (sSh s).1) ∧ CF y.2 x G s ∧ Qt x A y.2 := by
  have h6 := hk.1.1
  unfold fX8_unlike
  rw [rcv_ok h.1.1.k1, bs]
  refine srch_ebF (sSh s).1 7 (by omega) (fun j u => u.1 = I (uni (sSh s).2 j) ∧ u.2.1 = I j ∧ CF u.2.2 x G s ∧ Qt x A u.2.2) (fun u => u.1 = I (uni (sSh s).2 (sSh s).1) ∧ CF u.2 x G s ∧ Qt x A u.2) ⟨rfl, rfl, h, Qt.rf⟩ ?_ ?_ (fun u hu => ⟨_, rfl, hu⟩)
  · rintro j ⟨u1, u2, u3⟩ hj ⟨e1, e2, e3, e4⟩
    dsimp only at e1 e2 e3 e4 ⊢
    subst e1; subst e2
    left
    obtain ⟨y, y1, y2, y3, y4⟩ := W_like e3 hk hj
    have hs : uni (sSh s).2 (j + 1) = uni (sSh s).2 j + (if anyB (fun u => decide (wSame ((sSh s).2 j) ((sSh s).2 u))) j = false then 1 else 0) := rfl
    rw [gI_ok e3.1.1.k1, bs, e3.2.1.1, if_neg (le_n (by omega)), y1, bs, y2, jp_eq, hs]
    cases e : anyB (fun u => decide (wSame ((sSh s).2 j) ((sSh s).2 u))) j with
    | true =>
      rw [if_neg (by decide), if_neg (by decide)]
      exact ⟨_, rfl, rfl, by dsimp only; rw [L_1, I_add, ← cst], y3, e4.tr y4⟩
    | false =>
      rw [if_pos (by decide), if_pos rfl]
      exact ⟨_, rfl, by dsimp only; rw [L_1, I_add, ← cst], by dsimp only; rw [L_1, I_add, ← cst], y3, e4.tr y4⟩
  · rintro ⟨u1, u2, u3⟩ ⟨e1, e2, e3, e4⟩
    dsimp only at e1 e2 e3 e4 ⊢
    subst e1; subst e2
    exact ⟨_, by rw [gI_ok e3.1.1.k1, bs, e3.2.1.1, if_pos (le_y (by omega))], rfl, e3, e4⟩
theorem W_wrong (h : CF A x G s) (hk : StOK s) : ∃ y, fX0_firstWrong A (some (x + 5)) (some (x + 1)) (some (x + 20)) = some y ∧ y.1 = I (frst (wrI s) (sEn s)) ∧ CF y.2 x G s ∧ Qt x A y.2 := by
  have h6 := hk.1.1
  have hE := hk.2.2.2.2.2.2.1
  unfold fX0_firstWrong
  rw [rcv_ok h.1.1.k5, bs]
  refine srch_eb (sEn s) (fun e u => u.1 = I e ∧ CF u.2 x G s ∧ Qt x A u.2 ∧ anyB (wrI s) e = false) (fun u => ∃ v B, CF B x G s ∧ Qt x A B ∧ v = I (frst (wrI s) (sEn s)) ∧ ((u = .inl B ∧ v = -1) ∨ u = .inr (v, B))) ⟨rfl, h, Qt.rf, rfl⟩ ?_ ?_ ?_
  · rintro e ⟨u1, u2⟩ he ⟨e1, e2, e3, e4⟩
    dsimp only at e1 e2 e3 e4 ⊢
    subst e1
    have hb := hk.2.2.2.2.2.2.2 e he
    obtain ⟨b1, b2⟩ := e2.2.2.2.2.2.1.2 e he
    have hfin : wrI s e = true → I (e : Int) = I (frst (wrI s) (sEn s)) := fun q => by
      have := frst_y e4 q (sEn s - (e + 1))
      rw [show e + 1 + (sEn s - (e + 1)) = sEn s by omega] at this
      rw [this]
    rw [gI_ok e2.1.1.k5, bs, e2.2.2.2.2.2.1.1, if_neg (le_n (by omega)), e2.1.1.bk2, bs, aI_at e2.1.1.k6 (by omega) (by omega), bs, b1]
    by_cases q : sBw s e < (sSh s).1
    · obtain ⟨p, p1, p2⟩ := C_getN e2.1.1.s1 e2.2.1 h6 q
      obtain ⟨r, r1, r2, r3, r4, r5, r6, r7, r8, r9, r10⟩ := G_row e2.1 p2
      obtain ⟨y, y1, y2, y3, y4⟩ := G_sets e2.1 r2 (k := 1) (by omega)
      have y1 : fX7_setsWithRings u2 (some r) 1 (some (x + 20)) = some y := y1
      have y2 : y.1 = I ((wSts ((sSh s).2 (sBw s e)) 1 : Nat) : Int) := by
        rw [y2]; unfold wSts; rw [← r3, ← r5, ← r6]; rfl
      have e5 := e2.qt y4 y3
      rw [p1, bs, if_neg some_ne, r1, bs, y1, bs, e5.1.1.bk3, bs, aI_at e5.1.1.k7 (by omega) (by omega), bs, (e5.2.2.2.2.2.1.2 e he).2, y2]
      by_cases q2 : I ((wSts ((sSh s).2 (sBw s e)) 1 : Nat) : Int) = sBm s e
      · left
        rw [if_pos q2]
        refine ⟨_, rfl, by dsimp only; rw [L_1, I_add, ← cst], e5, e3.tr y4, ?_⟩
        show (anyB (wrI s) e || wrI s e) = false
        rw [e4]
        unfold wrI
        rw [decide_eq_true q, decide_eq_true q2]
        rfl
      · right
        rw [if_neg q2]
        refine ⟨_, rfl, _, _, e5, e3.tr y4, hfin ?_, Or.inr rfl⟩
        unfold wrI
        rw [decide_eq_false q2, Bool.and_false]
        rfl
    · right
      have hn : fX8_get u2 (some (x + 1)) (I (sBw s e : Int)) = some none := by
        rcases C_get e2.1.1.s1 e2.2.1 h6 (I (sBw s e : Int)) with ⟨-, z, -⟩ | ⟨-, z⟩
        · rw [I_toInt (by omega)] at z; omega
        · exact z
      rw [hn, bs, if_pos rfl]
      refine ⟨_, rfl, _, _, e2, e3, hfin ?_, Or.inr rfl⟩
      unfold wrI
      rw [decide_eq_false q]
      rfl
  · rintro ⟨u1, u2⟩ ⟨e1, e2, e3, e4⟩
    dsimp only at e1 e2 e3 e4 ⊢
    subst e1
    refine ⟨_, by rw [gI_ok e2.1.1.k5, bs, e2.2.2.2.2.2.1.1, if_pos (le_y (by omega))], -1, u2, e2, e3, ?_, Or.inl ⟨rfl, rfl⟩⟩
    rw [frst_n e4]; rfl
  · rintro u ⟨v, B, h1, h2, h3, (⟨rfl, h4⟩ | rfl)⟩
    · exact ⟨_, rfl, by dsimp only; rw [← h3, h4], h1, h2⟩
    · exact ⟨_, rfl, h3, h1, h2⟩
theorem W_told (h : CF A x G s) (hk : StOK s) (z : Int32) : ∃ y, fX11_told A (some x) z = some y ∧ y.1 = qTold s z ∧ CF y.2 x G s ∧ Kp x A y.2 := by
  unfold fX11_told qTold
  rw [rcv_ok h.c0, bs]
  by_cases h0 : z = 0
  · rw [if_pos h0, if_pos h0, h.1.1.sh, bs, C_scount h.1.1.s1 h.2.1, bs]; exact ⟨_, rfl, rfl, h, Kp.rf⟩
  rw [if_neg h0, if_neg h0]
  by_cases h1 : z = 1
  · obtain ⟨y, y1, y2, y3, y4⟩ := W_unlike h hk
    rw [if_pos h1, if_pos h1, h.1.1.sh, bs, y1, bs]; exact ⟨_, rfl, y2, y3, y4.kp h.1.1⟩
  rw [if_neg h1, if_neg h1]
  by_cases h2 : z = 2
  · unfold fX9_length
    rw [if_pos h2, if_pos h2, h.1.1.tx, bs, rcv_ok h.1.1.k3, bs, gI_ok h.1.1.k3, bs, bs]; exact ⟨_, rfl, h.2.2.2.2.1.1, h, Kp.rf⟩
  rw [if_neg h2, if_neg h2]
  by_cases h3 : z = 3
  · unfold fX0_count
    rw [if_pos h3, if_pos h3, h.1.1.bk, bs, rcv_ok h.1.1.k5, bs, gI_ok h.1.1.k5, bs, bs]; exact ⟨_, rfl, h.2.2.2.2.2.1.1, h, Kp.rf⟩
  rw [if_neg h3, if_neg h3]
  by_cases h4 : z = 4
  · obtain ⟨y, y1, y2, y3, y4⟩ := W_wrong h hk
    rw [if_pos h4, if_pos h4, h.1.1.bk, bs, h.1.1.sh, bs, h.1.1.hp, bs, y1, bs]; exact ⟨_, rfl, y2, y3, y4.kp h.1.1⟩
  rw [if_neg h4, if_neg h4]
  by_cases h5 : z = 5
  · obtain ⟨lt, -, -, e, -⟩ := h.2.2.1
    unfold fX5_count
    rw [if_pos h5, if_pos h5, h.1.1.hi, bs, rcv_ok h.1.1.k8, bs, gI_ok h.1.1.k8, bs, bs]; exact ⟨_, rfl, e, h, Kp.rf⟩
  rw [if_neg h5, if_neg h5]
  by_cases h6 : z = 6
  · unfold fX2_current
    rw [if_pos h6, if_pos h6, h.1.1.dw, bs, rcv_ok h.1.1.k17, bs, gI_ok h.1.1.k17, bs, bs]; exact ⟨_, rfl, h.2.2.2.2.2.2, h, Kp.rf⟩
  rw [if_neg h6, if_neg h6]
  exact ⟨_, rfl, rfl, h, Kp.rf⟩
end
