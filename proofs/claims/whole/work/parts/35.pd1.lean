/-! deeds of the reference: copies, what may be undone -/
/-- a step that writes the row w and the number of undos alone -/
def Mw (m : Nat) (A A' : AH) : Prop := Hk A' = Hk A ∧ Hj A' = Hj A ∧ Hr A' = Hr A ∧ Hn A' = Hn A ∧ Hq A' = Hq A ∧ Hs A' = Hs A ∧ (∀ a, a ≠ m + 1 → He A' a = He A a) ∧ ∀ f a, ¬ (a = m ∧ f = 387) → Hi A' f a = Hi A f a
theorem Mw.rf {m : Nat} {A : AH} : Mw m A A := ⟨rfl, rfl, rfl, rfl, rfl, rfl, fun _ _ => rfl, fun _ _ _ => rfl⟩
theorem Mw.tr {m : Nat} {A B C : AH} (h : Mw m A B) (g : Mw m B C) : Mw m A C := by
  obtain ⟨h1, h2, h3, h4, h5, h6, h7, h8⟩ := h
  obtain ⟨g1, g2, g3, g4, g5, g6, g7, g8⟩ := g
  exact ⟨g1.trans h1, g2.trans h2, g3.trans h3, g4.trans h4, g5.trans h5, g6.trans h6, fun a ha => (g7 a ha).trans (h7 a ha), fun f a ha => (g8 f a ha).trans (h8 f a ha)⟩
theorem Mw.se {m i : Nat} {A : AH} {v : Int32} : Mw m A (se A (m + 1) i v) :=
  ⟨rfl, rfl, rfl, rfl, rfl, rfl, fun a ha => he_se_ne ha, fun _ _ _ => rfl⟩
theorem Mw.si {m : Nat} {A : AH} {v : Int32} : Mw m A (si A 387 m v) :=
  ⟨rfl, rfl, rfl, rfl, rfl, rfl, fun _ _ => rfl, fun g a hg => up2_ne (fun q => hg ⟨q.2, q.1⟩)⟩
theorem MI.mw {A A' : AH} {m : Nat} (h : MI A m) (g : Mw m A A') : MI A' m := by
  unfold MI
  rw [g.1, g.2.2.1, g.2.2.2.1]
  exact h
theorem BK.cp {A A' : AH} {m o o' : Nat} {s : Sh} (h : BK A m o s) (hs : ShOK s) (g : ∀ k, k < 109 → He A' (m + 1) (o' + k) = He A (m + 1) (o + k)) : BK A' m o' s := by
  refine ⟨?_, fun t ht => ?_⟩
  · have : He A' (m + 1) o' = He A (m + 1) o := g 0 (by omega)
    rw [this]; exact h.1
  · obtain ⟨h1, h2, h3⟩ := h.2 t ht
    have hK := hs.1
    have hN := (hs.2 t ht).1.1
    refine ⟨?_, ?_, fun i hi => ?_⟩
    · have := g (1 + 18 * t) (by omega)
      rw [show o' + 1 + 18 * t = o' + (1 + 18 * t) by omega, this, show o + (1 + 18 * t) = o + 1 + 18 * t by omega]; exact h1
    · have := g (1 + 18 * t + 1) (by omega)
      rw [show o' + 1 + 18 * t + 1 = o' + (1 + 18 * t + 1) by omega, this, show o + (1 + 18 * t + 1) = o + 1 + 18 * t + 1 by omega]; exact h2
    · have := g (1 + 18 * t + 2 + i) (by omega)
      rw [show o' + 1 + 18 * t + 2 + i = o' + (1 + 18 * t + 2 + i) by omega, this, show o + (1 + 18 * t + 2 + i) = o + 1 + 18 * t + 2 + i by omega]; exact h3 i hi
section DD
variable {A : AH} {m t : Nat} {s : St}
theorem M_copy (hM : MI A m) {a b : Nat} (ha : a + 109 ≤ 2071) (hb : b + 109 ≤ 2071) (hd : a + 109 ≤ b ∨ b + 109 ≤ a) : ∃ A', fX12_copy A (some m) (I a) (I b) = some A' ∧ Mw m A A' ∧ Hi A' = Hi A ∧ ∀ j, He A' (m + 1) j = if b ≤ j ∧ j < b + 109 then He A (m + 1) (a + (j - b)) else He A (m + 1) j := by
  unfold fX12_copy
  rw [hM.rc, bs]
  refine for_eb 109 (fun k u => u.1 = I k ∧ Mw m A u.2 ∧ Hi u.2 = Hi A ∧ ∀ j, He u.2 (m + 1) j = if b ≤ j ∧ j < b + k then He A (m + 1) (a + (j - b)) else He A (m + 1) j) (fun B => Mw m A B ∧ Hi B = Hi A ∧ ∀ j, He B (m + 1) j = if b ≤ j ∧ j < b + 109 then He A (m + 1) (a + (j - b)) else He A (m + 1) j) ⟨rfl, Mw.rf, rfl, fun j => by rw [if_neg (by omega)]⟩ ?_ ?_ (fun B hB => ⟨B, rfl, hB⟩)
  · rintro k ⟨u1, u2⟩ hk ⟨e1, e2, e3, e4⟩
    dsimp only at e1 e2 e3 e4 ⊢
    subst e1
    have hM' := hM.mw e2
    rw [if_neg (show ¬ (109 : Int32) ≤ I (k : Int) from le_n (a := 109) (by omega)), hM'.w, bs, bs, I_add, I_add, hM'.w_l (by omega) (by omega), bs, hM'.w_s (by omega) (by omega), bs]
    refine ⟨_, rfl, by dsimp only; rw [L_1, I_add, ← cst], e2.tr Mw.se, e3, fun j => ?_⟩
    dsimp only
    rw [he_se, show ((b : Int) + (k : Int)).toNat = b + k by omega, show ((a : Int) + (k : Int)).toNat = a + k by omega]
    by_cases q : j = b + k
    · rw [if_pos q, if_pos (by omega), e4, if_neg (by omega), show a + (j - b) = a + k by omega]
    · rw [if_neg q, e4]
      by_cases q2 : b ≤ j ∧ j < b + k
      · rw [if_pos q2, if_pos (by omega)]
      · rw [if_neg q2, if_neg (by omega)]
  · rintro ⟨u1, u2⟩ ⟨e1, e2, e3, e4⟩
    dsimp only at e1 e2 e3 e4 ⊢
    subst e1
    exact ⟨u2, by rw [if_pos (show (109 : Int32) ≤ I ((109 : Nat) : Int) from le_y (a := 109) (by omega))], e2, e3, e4⟩
/-- the shelf is minded -/
def stMind (s : St) : St := (s.1, (if sU s = 16 then (16, fun j => if j < 15 then sH s (j + 1) else sSh s) else (sU s + 1, fun j => if j < sU s then sH s j else sSh s)), s.2.2)
theorem stMind_ok (hk : StOK s) : StOK (stMind s) := by
  obtain ⟨h1, ⟨h2, h3⟩, h4⟩ := hk
  refine ⟨h1, ?_, h4⟩
  unfold stMind sU sH
  dsimp only
  by_cases q : s.2.1.1 = 16
  · rw [if_pos q]
    refine ⟨Nat.le_refl _, fun j hj => ?_⟩
    dsimp only at hj ⊢
    split
    · exact h3 (j + 1) (by show j + 1 < s.2.1.1; omega)
    · exact h1
  · rw [if_neg q]
    refine ⟨by have : s.2.1.1 ≤ 16 := h2; show s.2.1.1 + 1 ≤ 16; omega, fun j hj => ?_⟩
    dsimp only at hj ⊢
    split
    · rename_i z; exact h3 j z
    · exact h1
theorem RF.mw {A' : AH} (h : RF A m s) (hk : StOK s) (g : Mw m A A') (hl : ∀ j, j < 327 → He A' (m + 1) j = He A (m + 1) j) {U : Nat} {H : Nat → Sh} (hU : Hi A' 387 m = I U) (hH : ∀ j, j < U → BK A' m (327 + 109 * j) (H j)) : RF A' m (s.1, (U, H), s.2.2) := by
  obtain ⟨h1, h2, ⟨h3, h4⟩, h5, h6, ⟨h7, h8⟩, h9, h10, h11⟩ := h
  have g7 := g.2.2.2.2.2.2.1
  have g8 := g.2.2.2.2.2.2.2
  refine ⟨h1.mw g, h2.cp hk.1 (fun k hk => hl _ (by omega)), ⟨hU, hH⟩, fun i hi => ?_, ?_, ⟨?_, fun i hi => ?_⟩, ?_, ?_, fun i hi => ?_⟩
  · rw [g7 _ (by omega), g7 _ (by omega)]
    exact ⟨(h5 i hi).1, fun q => ⟨((h5 i hi).2 q).1.cp (hk.2.2.1 i hi q).1 (fun k hk => hl _ (by omega)), ((h5 i hi).2 q).2⟩⟩
  · rw [g8 _ _ (by omega)]; exact h6
  · rw [g8 _ _ (by omega)]; exact h7
  · rw [g7 _ (by omega)]; exact h8 i hi
  · rw [g8 _ _ (by omega)]; exact h9
  · rw [g8 _ _ (by omega)]; exact h10
  · rw [g7 _ (by omega), g7 _ (by omega)]; exact h11 i hi
theorem M_minds (h : RF A m s) (hk : StOK s) : ∃ A', fX12_minds A (some m) = some A' ∧ RF A' m (stMind s) ∧ Mw m A A' := by
  have hM := h.1
  have hU := hk.2.1.1
  have e387 := h.2.2.1.1
  unfold fX12_minds
  rw [hM.rc, bs, gI_ok hM.k, bs, e387, jp_eq]
  by_cases q : sU s = 16
  · rw [if_pos (by rw [q]; rfl)]
    refine for_eb 1635 (fun k u => u.1 = I k ∧ Mw m A u.2 ∧ Hi u.2 = Hi A ∧ ∀ j, He u.2 (m + 1) j = if 327 ≤ j ∧ j < 327 + k then He A (m + 1) (109 + j) else He A (m + 1) j) (fun B => Mw m A B ∧ Hi B = Hi A ∧ ∀ j, He B (m + 1) j = if 327 ≤ j ∧ j < 327 + 1635 then He A (m + 1) (109 + j) else He A (m + 1) j) ⟨rfl, Mw.rf, rfl, fun j => by rw [if_neg (by omega)]⟩ ?_ ?_ ?_
    · rintro k ⟨u1, u2⟩ hk ⟨e1, e2, e3, e4⟩
      dsimp only at e1 e2 e3 e4 ⊢
      subst e1
      have hM' := hM.mw e2
      have x1 : (436 : Int32) + I (k : Int) = I ((436 : Int) + k) := by rw [show (436 : Int32) = I 436 from rfl, I_add]
      have x2 : (327 : Int32) + I (k : Int) = I ((327 : Int) + k) := by rw [show (327 : Int32) = I 327 from rfl, I_add]
      rw [if_neg (show ¬ (1635 : Int32) ≤ I (k : Int) from le_n (a := 1635) (by omega)), hM'.w, bs, bs, x1, x2, hM'.w_l (by omega) (by omega), bs, hM'.w_s (by omega) (by omega), bs]
      refine ⟨_, rfl, by dsimp only; rw [L_1, I_add, ← cst], e2.tr Mw.se, e3, fun j => ?_⟩
      dsimp only
      rw [he_se, show ((327 : Int) + (k : Int)).toNat = 327 + k by omega, show ((436 : Int) + (k : Int)).toNat = 436 + k by omega]
      by_cases q : j = 327 + k
      · rw [if_pos q, if_pos (by omega), e4, if_neg (by omega), show 109 + j = 436 + k by omega]
      · rw [if_neg q, e4]
        by_cases q2 : 327 ≤ j ∧ j < 327 + k
        · rw [if_pos q2, if_pos (by omega)]
        · rw [if_neg q2, if_neg (by omega)]
    · rintro ⟨u1, u2⟩ ⟨e1, e2, e3, e4⟩
      dsimp only at e1 e2 e3 e4 ⊢
      subst e1
      exact ⟨u2, by rw [if_pos (show (1635 : Int32) ≤ I ((1635 : Nat) : Int) from le_y (a := 1635) (by omega))], e2, e3, e4⟩
    · rintro B ⟨b1, b2, b3⟩
      have hB := hM.mw b1
      have v15 : (16 : Int32) - 1 = I ((15 : Nat) : Int) := rfl
      have hB2 : MI (si B 387 m (I ((15 : Nat) : Int))) m := hB
      have y : (327 : Int32) + 109 * I ((15 : Nat) : Int) = I ((1962 : Nat) : Int) := rfl
      obtain ⟨C, c1, c2, c3, c4⟩ := M_copy hB2 (a := 0) (b := 1962) (by omega) (by omega) (by omega)
      have c1 : fX12_copy (si B 387 m (I ((15 : Nat) : Int))) (some m) 0 (I ((1962 : Nat) : Int)) = some C := c1
      have hC := hB2.mw c2
      have z1 : Hi C 387 m = I ((15 : Nat) : Int) := by rw [c3, hi_si]
      rw [gI_ok hB.k, bs, b2, e387, q, show I ((16 : Nat) : Int) - 1 = I ((15 : Nat) : Int) from rfl, pI_ok hB.k, bs]
      dsimp only
      rw [gI_ok hB2.k, bs, hi_si, y, c1, bs, gI_ok hC.k, bs, z1, pI_ok hC.k, bs, show I ((15 : Nat) : Int) + 1 = I ((16 : Nat) : Int) from rfl]
      have gw : Mw m A (si C 387 m (I ((16 : Nat) : Int))) := ((b1.tr Mw.si).tr c2).tr Mw.si
      refine ⟨_, rfl, ?_, gw⟩
      have hm : stMind s = (s.1, (16, fun j => if j < 15 then sH s (j + 1) else sSh s), s.2.2) := by
        unfold stMind
        rw [if_pos q]
      rw [hm]
      refine h.mw hk gw (fun j hj => ?_) hi_si (fun j hj => ?_)
      · rw [he_si, c4, if_neg (by omega), he_si, b3, if_neg (by omega)]
      · split
        · rename_i hj2
          refine (h.2.2.1.2 (j + 1) (by omega)).cp (hk.2.1.2 (j + 1) (by omega)) (fun k hk => ?_)
          rw [he_si, c4, if_neg (by omega), he_si, b3, if_pos (by omega), show 109 + (327 + 109 * j + k) = 327 + 109 * (j + 1) + k by omega]
        · rename_i hj2
          refine h.2.1.cp hk.1 (fun k hk => ?_)
          rw [he_si, c4, if_pos (by omega), he_si, b3, if_neg (by omega), show 0 + (327 + 109 * j + k - 1962) = 0 + k by omega]
  · have y : (327 : Int32) + 109 * I (sU s : Int) = I ((327 + 109 * sU s : Nat) : Int) := by
      rw [show (327 : Int32) = I 327 from rfl, show (109 : Int32) = I 109 from rfl, I_mul, I_add]; congr 1
    obtain ⟨C, c1, c2, c3, c4⟩ := M_copy hM (a := 0) (b := 327 + 109 * sU s) (by omega) (by omega) (by omega)
    have c1 : fX12_copy A (some m) 0 (I ((327 + 109 * sU s : Nat) : Int)) = some C := c1
    have hC := hM.mw c2
    have z1 : Hi C 387 m = I (sU s) := by rw [c3]; exact e387
    rw [if_neg (show ¬ I (sU s : Int) = 16 from eq_n (b := 16) (by omega))]
    dsimp only
    rw [gI_ok hM.k, bs, e387, y, c1, bs, gI_ok hC.k, bs, z1, pI_ok hC.k, bs, L_1, I_add, ← cst]
    have gw : Mw m A (si C 387 m (I ((sU s + 1 : Nat) : Int))) := c2.tr Mw.si
    refine ⟨_, rfl, ?_, gw⟩
    have hm : stMind s = (s.1, (sU s + 1, fun j => if j < sU s then sH s j else sSh s), s.2.2) := by
      unfold stMind
      rw [if_neg q]
    rw [hm]
    refine h.mw hk gw (fun j hj => ?_) hi_si (fun j hj => ?_)
    · rw [he_si, c4, if_neg (by omega)]
    · split
      · rename_i hj2
        refine (h.2.2.1.2 j hj2).cp (hk.2.1.2 j hj2) (fun k hk => ?_)
        rw [he_si, c4, if_neg (by omega)]
      · rename_i hj2
        refine h.2.1.cp hk.1 (fun k hk => ?_)
        rw [he_si, c4, if_pos (by omega), show 0 + (327 + 109 * j + k - (327 + 109 * sU s)) = 0 + k by omega]
end DD
