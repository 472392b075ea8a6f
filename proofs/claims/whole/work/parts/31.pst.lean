/-! the state that both sides stand for, and how it lies in the reference's rows -/
/-- a word: letters, their row, signs -/
abbrev Wrd := Nat × (Nat → Nat) × Nat
def wP (w : Wrd) (c : Nat) : Nat := (fpl w.2.1 c (2 * w.1)).toNat
def wQ (w : Wrd) (c : Nat) : Nat := (lpl w.2.1 c (2 * w.1)).toNat
def WOK (w : Wrd) : Prop := VW w.1 w.2.1 (wP w) (wQ w) ∧ w.2.2 < 2 ^ w.1
/-- a shelf: how many words, and them -/
abbrev Sh := Nat × (Nat → Wrd)
def ShOK (s : Sh) : Prop := s.1 ≤ 6 ∧ ∀ t, t < s.1 → WOK (s.2 t)
def SLt (A : AH) (m a : Nat) (w : Wrd) : Prop := He A (m + 1) a = I w.1 ∧ He A (m + 1) (a + 1) = I w.2.2 ∧ ∀ i, i < 2 * w.1 → He A (m + 1) (a + 2 + i) = I (w.2.1 i)
def BK (A : AH) (m o : Nat) (s : Sh) : Prop := He A (m + 1) o = I s.1 ∧ ∀ t, t < s.1 → SLt A m (o + 1 + 18 * t) (s.2 t)
/-- shelf; undos and what they lead to; images: kept, shelf, seed; seed; text; fault; book -/
abbrev St := Sh × (Nat × (Nat → Sh)) × ((Nat → Bool) × (Nat → Sh) × (Nat → Nat)) × Nat × (Nat × (Nat → Nat)) × Int × (Nat × (Nat → Nat) × (Nat → Int32))
def sSh (s : St) : Sh := s.1
def sU (s : St) : Nat := s.2.1.1
def sH (s : St) : Nat → Sh := s.2.1.2
def sKe (s : St) : Nat → Bool := s.2.2.1.1
def sIm (s : St) : Nat → Sh := s.2.2.1.2.1
def sIs (s : St) : Nat → Nat := s.2.2.1.2.2
def sSd (s : St) : Nat := s.2.2.2.1
def sTn (s : St) : Nat := s.2.2.2.2.1.1
def sT (s : St) : Nat → Nat := s.2.2.2.2.1.2
def sFt (s : St) : Int := s.2.2.2.2.2.1
def sEn (s : St) : Nat := s.2.2.2.2.2.2.1
def sBw (s : St) : Nat → Nat := s.2.2.2.2.2.2.2.1
def sBm (s : St) : Nat → Int32 := s.2.2.2.2.2.2.2.2
def StOK (s : St) : Prop := ShOK (sSh s) ∧ (sU s ≤ 16 ∧ ∀ j, j < sU s → ShOK (sH s j)) ∧ (∀ i, i < 2 → sKe s i = true → ShOK (sIm s i) ∧ sIs s i < 2147483648) ∧ sSd s < 2147483648 ∧ (sTn s ≤ 20 ∧ ∀ i, i < sTn s → sT s i < 256) ∧ (-1 ≤ sFt s ∧ sFt s ≤ 20) ∧ sEn s ≤ 20 ∧ ∀ i, i < sEn s → sBw s i < 6
def RF (A : AH) (m : Nat) (s : St) : Prop := MI A m ∧ BK A m 0 (sSh s) ∧ (Hi A 387 m = I (sU s) ∧ ∀ j, j < sU s → BK A m (327 + 109 * j) (sH s j)) ∧ (∀ i, i < 2 → He A (m + 3) i = bI (sKe s i = true) ∧ (sKe s i = true → BK A m (109 + 109 * i) (sIm s i) ∧ He A (m + 2) i = I (sIs s i))) ∧ Hi A 388 m = I (sSd s) ∧ (Hi A 390 m = I (sTn s) ∧ ∀ i, i < sTn s → He A (m + 4) i = I (sT s i)) ∧ Hi A 391 m = I (sFt s) ∧ Hi A 392 m = I (sEn s) ∧ ∀ i, i < sEn s → He A (m + 5) i = I (sBw s i) ∧ He A (m + 6) i = sBm s i
theorem BK.he {A A' : AH} {m o : Nat} {s : Sh} (h : BK A m o s) (g : He A' (m + 1) = He A (m + 1)) : BK A' m o s := by
  unfold BK SLt
  rw [g]
  exact h
theorem RF.ms {A A' : AH} {m : Nat} {s : St} (h : RF A m s) (g : Ms m A A') : RF A' m s := by
  obtain ⟨h1, h2, ⟨h3, h4⟩, h5, h6, ⟨h7, h8⟩, h9, h10, h11⟩ := h
  have g7 := g.2.2.2.2.2.2.1
  have g8 := g.2.2.2.2.2.2.2
  have e := g7 (m + 1) (by omega)
  refine ⟨h1.ms g, h2.he e, ⟨?_, fun j hj => (h4 j hj).he e⟩, fun i hi => ?_, ?_, ⟨?_, fun i hi => ?_⟩, ?_, ?_, fun i hi => ?_⟩
  · rw [g8 _ _ (by omega)]; exact h3
  · rw [g7 _ (by omega), g7 _ (by omega)]
    exact ⟨(h5 i hi).1, fun q => ⟨((h5 i hi).2 q).1.he e, ((h5 i hi).2 q).2⟩⟩
  · rw [g8 _ _ (by omega)]; exact h6
  · rw [g8 _ _ (by omega)]; exact h7
  · rw [g7 _ (by omega)]; exact h8 i hi
  · rw [g8 _ _ (by omega)]; exact h9
  · rw [g8 _ _ (by omega)]; exact h10
  · rw [g7 _ (by omega), g7 _ (by omega)]; exact h11 i hi
section QS
variable {A : AH} {m t : Nat} {s : St}
theorem RF.we (h : RF A m s) (hk : StOK s) (ht : t < (sSh s).1) : WE A m t ((sSh s).2 t).1 ((sSh s).2 t).2.1 := by
  have h1 := (h.2.1.2 t ht)
  have h2 := hk.1.1
  have h3 := (hk.1.2 t ht).1.1
  refine ⟨by omega, h3, ?_, fun i hi => ?_⟩
  · have := h1.1; rw [show 0 + 1 + 18 * t = 1 + 18 * t by omega] at this; exact this
  · have := h1.2.2 i hi; rw [show 0 + 1 + 18 * t = 1 + 18 * t by omega] at this; exact this
theorem RF.sg (h : RF A m s) (hk : StOK s) (ht : t < (sSh s).1) : SG A m t ((sSh s).2 t).2.2 := by
  have h1 := (h.2.1.2 t ht)
  have h3 := (hk.1.2 t ht).2
  have h4 := p2_lt (hk.1.2 t ht).1.1
  refine ⟨?_, by omega⟩
  have := h1.2.1; rw [show 0 + 1 + 18 * t = 1 + 18 * t by omega] at this; exact this
theorem StOK.vw (hk : StOK s) (ht : t < (sSh s).1) : VW ((sSh s).2 t).1 ((sSh s).2 t).2.1 (wP ((sSh s).2 t)) (wQ ((sSh s).2 t)) := (hk.1.2 t ht).1
theorem M_isWord (h : RF A m s) (hk : StOK s) {z : Int} (hz : Bd z) : fX12_isWord A (some m) (I z) = some (bI (0 ≤ z ∧ z < (sSh s).1)) := by
  have hM := h.1
  have h0 := h.2.1.1
  have h1 := hk.1.1
  unfold fX12_isWord
  rw [hM.rc, bs, hM.w, bs, L_0, hM.w_l (by omega) (by omega), bs, show (0 : Int).toNat = 0 from rfl, h0, L_1, I_sub, M_in0 A hz (by omega), bs, rz_bI, bs]
  exact congrArg some (bIc (by omega))
theorem M_isSet (h : RF A m s) (hk : StOK s) (ht : t < (sSh s).1) {z : Int} (hz : Bd z) : fX12_isSet A (some m) (I t) (I z) = some (bI (0 ≤ z ∧ z < ((2 ^ ((sSh s).2 t).1 : Nat) : Int))) := by
  have hM := h.1
  have hN := (hk.vw ht).1
  have h2 := p2_lt hN
  have h1 := hk.1.1
  unfold fX12_isSet
  rw [hM.rc, bs, M_isWord h hk (by omega), bs, if_neg (fun q => bI0.mp q (by omega)), M_size hM (h.we hk ht), bs, I_shl1 (by omega), L_1, I_sub]
  generalize 2 ^ ((sSh s).2 t).1 = K at h2 ⊢
  rw [M_in0 A hz (by omega), bs]
  by_cases q : 0 ≤ z ∧ z ≤ (K : Int) - 1
  · rw [if_neg (fun e => bI0.mp e q)]
    exact congrArg some (bI1.mpr (by omega)).symm
  · rw [if_pos (bI0.mpr q)]
    exact congrArg some (bI0.mpr (by omega)).symm
theorem M_isSet0 (h : RF A m s) (hk : StOK s) {z y : Int} (hz : Bd z) (hn : ¬ (0 ≤ z ∧ z < (sSh s).1)) : fX12_isSet A (some m) (I z) (I y) = some 0 := by
  unfold fX12_isSet
  rw [h.1.rc, bs, M_isWord h hk hz, bs, if_pos (bI0.mpr hn)]
def wC (w : Wrd) : Int64 := mnC w.1 w.2.1 (4 * w.1)
def wK (w : Wrd) : Nat := knC w.1 w.2.1 (4 * w.1)
abbrev wSame (v w : Wrd) : Prop := v.1 = w.1 ∧ wC v = wC w
theorem M_codeW (h : RF A m s) (hk : StOK s) (ht : t < (sSh s).1) : ∃ r, fX12_codeOf A (some m) (I t) = some r ∧ r.1 = wC ((sSh s).2 t) ∧ Hi r.2 403 m = I (wK ((sSh s).2 t)) ∧ Ms m A r.2 :=
  M_codeOf h.1 (h.we hk ht) (hk.vw ht)
theorem M_kinOf (h : RF A m s) (hk : StOK s) (ht : t < (sSh s).1) : ∃ r, fX12_kinOf A (some m) (I t) = some r ∧ r.1 = I (wK ((sSh s).2 t)) ∧ Ms m A r.2 := by
  obtain ⟨r, h1, h2, h3, h4⟩ := M_codeW h hk ht
  unfold fX12_kinOf
  rw [h.1.rc, bs, h1, bs, gI_ok (h.1.ms h4).k, bs]
  exact ⟨_, rfl, h3, h4⟩
theorem lgc_eq {x y : Int64} : lg_cmp x y = 0 ↔ x = y := by
  have h1 := lgc_lt (x := x) (y := y)
  have h2 := lgc_gt (x := x) (y := y)
  constructor
  · intro e
    rw [e] at h1 h2
    have a1 : ¬ x.toInt < y.toInt := fun q => absurd (h1.mpr q) (by decide)
    have a2 : ¬ y.toInt < x.toInt := fun q => absurd (h2.mpr q) (by decide)
    exact Int64.toInt_inj.mp (by omega)
  · rintro rfl
    unfold lg_cmp
    rw [if_neg (fun q => by have := Int64.lt_iff_toInt_lt.mp q; omega), if_pos rfl]
theorem M_isSame (h : RF A m s) (hk : StOK s) {u : Nat} (ht : t < (sSh s).1) (hu : u < (sSh s).1) : ∃ r, fX12_isSame A (some m) (I t) (I u) = some r ∧ r.1 = bI (wSame ((sSh s).2 t) ((sSh s).2 u)) ∧ Ms m A r.2 := by
  have n1 := (hk.vw ht).1
  have n2 := (hk.vw hu).1
  unfold fX12_isSame
  rw [h.1.rc, bs, M_size h.1 (h.we hk ht), bs, M_size h.1 (h.we hk hu), bs]
  by_cases q : ((sSh s).2 t).1 = ((sSh s).2 u).1
  · obtain ⟨r, h1, h2, h3, h4⟩ := M_codeW h hk ht
    obtain ⟨r', g1, g2, g3, g4⟩ := M_codeW (h.ms h4) hk hu
    rw [if_pos (by rw [q]), h1, bs, g1, bs, h2, g2]
    by_cases q2 : wC ((sSh s).2 t) = wC ((sSh s).2 u)
    · rw [if_pos (lgc_eq.mpr q2)]
      exact ⟨_, rfl, (bI1.mpr ⟨q, q2⟩).symm, h4.tr g4⟩
    · rw [if_neg (fun e => q2 (lgc_eq.mp e))]
      exact ⟨_, rfl, (bI0.mpr (fun e => q2 e.2)).symm, h4.tr g4⟩
  · rw [if_neg (eq_n (by omega))]
    exact ⟨_, rfl, (bI0.mpr (fun e => q e.1)).symm, Ms.rf⟩
end QS
