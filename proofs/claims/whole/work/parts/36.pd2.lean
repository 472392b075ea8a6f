/-! deeds of the reference: a row becomes a word's -/
section DD
variable {A : AH} {m t n : Nat} {s : St} {D : Nat → Nat}
/-- the word that a made row gives -/
def wMade (D : Nat → Nat) (n : Nat) : Wrd := (n / 2, fun i => nn D (D i) i, 0)
theorem MdS.mw {A' : AH} (h : MdS A m n D) (g : Mw m A A') : MdS A' m n D := fun k hk => by rw [g.2.2.2.2.2.2.1 _ (by omega)]; exact h k hk
theorem M_lays (hM : MI A m) (ht : t < 6) (hn : n ≤ 16) (hc : Hi A 396 m = I n) (hD : MdS A m n D) (hb : ∀ k, k < n → D k < 1000) : ∃ r, fX12_lays A (some m) (I t) = some r ∧ r.1 = I ((n / 2 : Nat) : Int) ∧ Mw m A r.2 ∧ Hi r.2 = Hi A ∧ He r.2 (m + 1) (1 + 18 * t) = I ((n / 2 : Nat) : Int) ∧ He r.2 (m + 1) (1 + 18 * t + 1) = I ((0 : Nat) : Int) ∧ (∀ i, i < n → He r.2 (m + 1) (1 + 18 * t + 2 + i) = I ((nn D (D i) i : Nat) : Int)) ∧ ∀ j, ¬ (1 + 18 * t ≤ j ∧ j < 19 + 18 * t) → He r.2 (m + 1) j = He A (m + 1) j := by
  have d2 : dvI (I (n : Int)) 2 = some (I ((n / 2 : Nat) : Int)) := by rw [L_2, I_div (by omega) (by omega) (by omega) (by omega)]; rfl
  have x1 : (1 : Int32) + 18 * I (t : Int) = I ((1 + 18 * t : Nat) : Int) := by rw [L_1, show (18 : Int32) = I 18 from rfl, I_mul, I_add]; congr 1
  have x2 : I ((1 + 18 * t : Nat) : Int) + 1 = I ((1 + 18 * t + 1 : Nat) : Int) := by rw [L_1, I_add]; congr 1
  have x3 : I ((1 + 18 * t : Nat) : Int) + 2 = I ((1 + 18 * t + 2 : Nat) : Int) := by rw [L_2, I_add]; congr 1
  unfold fX12_lays
  rw [hM.rc, bs, hM.w, bs, gI_ok hM.k, bs, hc, d2, bs, x1, hM.w_s (by omega) (by omega), bs, (hM.se).w, bs, x2, (hM.se).w_s (by omega) (by omega), bs, x3, Int.toNat_natCast, Int.toNat_natCast]
  refine for_eb n (fun k u => u.1 = I k ∧ Mw m A u.2 ∧ Hi u.2 = Hi A ∧ He u.2 (m + 1) (1 + 18 * t) = I ((n / 2 : Nat) : Int) ∧ He u.2 (m + 1) (1 + 18 * t + 1) = I ((0 : Nat) : Int) ∧ (∀ i, i < k → He u.2 (m + 1) (1 + 18 * t + 2 + i) = I ((nn D (D i) i : Nat) : Int)) ∧ ∀ j, ¬ (1 + 18 * t ≤ j ∧ j < 19 + 18 * t) → He u.2 (m + 1) j = He A (m + 1) j) (fun B => Mw m A B ∧ Hi B = Hi A ∧ He B (m + 1) (1 + 18 * t) = I ((n / 2 : Nat) : Int) ∧ He B (m + 1) (1 + 18 * t + 1) = I ((0 : Nat) : Int) ∧ (∀ i, i < n → He B (m + 1) (1 + 18 * t + 2 + i) = I ((nn D (D i) i : Nat) : Int)) ∧ ∀ j, ¬ (1 + 18 * t ≤ j ∧ j < 19 + 18 * t) → He B (m + 1) j = He A (m + 1) j) ⟨rfl, Mw.se.tr Mw.se, rfl, ?_, ?_, fun i hi => by omega, fun j hj => ?_⟩ ?_ ?_ ?_
  · dsimp only
    rw [he_se, if_neg (by omega), he_se, if_pos rfl]
  · dsimp only
    rw [he_se, if_pos rfl]; rfl
  · dsimp only
    rw [he_se, if_neg (by omega), he_se, if_neg (by omega)]
  · rintro k ⟨u1, u2⟩ hk ⟨e1, e2, e3, e4, e5, e6, e7⟩
    dsimp only at e1 e2 e3 e4 e5 e6 e7 ⊢
    subst e1
    have hM' := hM.mw e2
    have hc' : Hi u2 396 m = I n := by rw [e3]; exact hc
    rw [gI_ok hM'.k, bs, hc', if_neg (le_n (by omega)), hM'.w, bs, M_numberOf hM' (by omega) (hD.mw e2) hb hk, bs, I_add, hM'.w_s (by omega) (by omega), bs]
    refine ⟨_, rfl, by dsimp only; rw [L_1, I_add, ← cst], e2.tr Mw.se, e3, ?_, ?_, fun i hi => ?_, fun j hj => ?_⟩
    · dsimp only; rw [he_se, if_neg (by omega), e4]
    · dsimp only; rw [he_se, if_neg (by omega), e5]
    · dsimp only
      rw [he_se]
      by_cases q : i = k
      · rw [if_pos (by omega), q]
      · rw [if_neg (by omega), e6 i (by omega)]
    · dsimp only; rw [he_se, if_neg (by omega), e7 j hj]
  · rintro ⟨u1, u2⟩ ⟨e1, e2, e3, e4, e5, e6, e7⟩
    dsimp only at e1 e2 e3 e4 e5 e6 e7 ⊢
    subst e1
    have hM' := hM.mw e2
    have hc' : Hi u2 396 m = I n := by rw [e3]; exact hc
    exact ⟨u2, by rw [gI_ok hM'.k, bs, hc', if_pos (le_y (by omega))], e2, e3, e4, e5, e6, e7⟩
  · rintro B ⟨e2, e3, e4⟩
    have hM' := hM.mw e2
    have hc' : Hi B 396 m = I n := by rw [e3]; exact hc
    rw [gI_ok hM'.k, bs, hc', d2, bs]
    exact ⟨_, rfl, rfl, e2, e3, e4⟩
def setW (s : St) (t : Nat) (w : Wrd) : St := ((s.1.1, fun u => if u = t then w else s.1.2 u), s.2)
def addW (s : St) (w : Wrd) : St := ((s.1.1 + 1, fun u => if u = s.1.1 then w else s.1.2 u), s.2)
theorem setW_ok (hk : StOK s) {w : Wrd} (hw : WOK w) : StOK (setW s t w) := by
  refine ⟨⟨hk.1.1, fun u hu => ?_⟩, hk.2⟩
  show WOK (if u = t then w else s.1.2 u)
  split
  · exact hw
  · exact hk.1.2 u hu
theorem addW_ok (hk : StOK s) {w : Wrd} (hw : WOK w) (h6 : (sSh s).1 < 6) : StOK (addW s w) := by
  refine ⟨⟨by show s.1.1 + 1 ≤ 6; exact h6, fun u hu => ?_⟩, hk.2⟩
  show WOK (if u = s.1.1 then w else s.1.2 u)
  split
  · exact hw
  · rename_i q
    have : u < s.1.1 + 1 := hu
    exact hk.1.2 u (by show u < s.1.1; omega)
/-- what lies beyond the shelf stays -/
theorem RF.sh {A' : AH} (h : RF A m s) (hk : StOK s) (g : Mw m A A') (h387 : Hi A' 387 m = Hi A 387 m) (hl : ∀ j, 109 ≤ j → He A' (m + 1) j = He A (m + 1) j) {sh : Sh} (hs : BK A' m 0 sh) : RF A' m (sh, s.2) := by
  obtain ⟨h1, h2, ⟨h3, h4⟩, h5, h6, ⟨h7, h8⟩, h9, h10, h11⟩ := h
  have g7 := g.2.2.2.2.2.2.1
  have g8 := g.2.2.2.2.2.2.2
  refine ⟨h1.mw g, hs, ⟨?_, fun j hj => (h4 j hj).cp (hk.2.1.2 j hj) (fun k hk => hl _ (by omega))⟩, fun i hi => ?_, ?_, ⟨?_, fun i hi => ?_⟩, ?_, ?_, fun i hi => ?_⟩
  · rw [h387]; exact h3
  · rw [g7 _ (by omega), g7 _ (by omega)]
    exact ⟨(h5 i hi).1, fun q => ⟨((h5 i hi).2 q).1.cp (hk.2.2.1 i hi q).1 (fun k hk => hl _ (by omega)), ((h5 i hi).2 q).2⟩⟩
  · rw [g8 _ _ (by omega)]; exact h6
  · rw [g8 _ _ (by omega)]; exact h7
  · rw [g7 _ (by omega)]; exact h8 i hi
  · rw [g8 _ _ (by omega)]; exact h9
  · rw [g8 _ _ (by omega)]; exact h10
  · rw [g7 _ (by omega), g7 _ (by omega)]; exact h11 i hi
theorem SLt.cp {A A' : AH} {m a : Nat} {w : Wrd} (h : SLt A m a w) (hN : w.1 ≤ 8) (g : ∀ j, a ≤ j → j < a + 18 → He A' (m + 1) j = He A (m + 1) j) : SLt A' m a w := by
  refine ⟨?_, ?_, fun i hi => ?_⟩
  · rw [g a (by omega) (by omega)]; exact h.1
  · rw [g (a + 1) (by omega) (by omega)]; exact h.2.1
  · rw [g (a + 2 + i) (by omega) (by omega)]; exact h.2.2 i hi
theorem M_laysW (h : RF A m s) (hk : StOK s) (ht : t < (sSh s).1) (hn : n ≤ 16) (he : n % 2 = 0) (hc : Hi A 396 m = I n) (hD : MdS A m n D) (hb : ∀ k, k < n → D k < 1000) : ∃ r, fX12_lays A (some m) (I t) = some r ∧ r.1 = I ((n / 2 : Nat) : Int) ∧ RF r.2 m (setW s t (wMade D n)) ∧ Mw m A r.2 := by
  have hK := hk.1.1
  obtain ⟨r, r1, r2, r3, r4, r5, r6, r7, r8⟩ := M_lays h.1 (t := t) (by omega) hn hc hD hb
  refine ⟨r, r1, r2, h.sh hk r3 (by rw [r4]) (fun j hj => r8 j (by omega)) ⟨?_, fun u hu => ?_⟩, r3⟩
  · rw [r8 0 (by omega)]; exact h.2.1.1
  · show SLt r.2 m (0 + 1 + 18 * u) (if u = t then wMade D n else s.1.2 u)
    have hu' : u < (sSh s).1 := hu
    split
    · rename_i q
      subst q
      rw [Nat.zero_add]
      exact ⟨r5, r6, fun i hi => r7 i (by have : i < 2 * (n / 2) := hi; omega)⟩
    · rename_i q
      exact (h.2.1.2 u hu).cp (hk.1.2 u hu).1.1 (fun j j1 j2 => r8 j (by omega))
end DD
