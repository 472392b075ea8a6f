/-! the questions, asked of the reference -/
def frst (f : Nat → Bool) : Nat → Int
  | 0 => -1
  | n + 1 => if anyB f n = true then frst f n else if f n = true then n else -1
theorem frst_n {f : Nat → Bool} : ∀ {n : Nat}, anyB f n = false → frst f n = -1
  | 0, _ => rfl
  | n + 1, h => by
    have h' : (anyB f n || f n) = false := h
    rw [Bool.or_eq_false_iff] at h'
    unfold frst
    rw [if_neg (by rw [h'.1]; decide), if_neg (by rw [h'.2]; decide)]
theorem frst_y {f : Nat → Bool} {e : Nat} (h1 : anyB f e = false) (h2 : f e = true) : ∀ k, frst f (e + 1 + k) = e
  | 0 => by
    show frst f (e + 1) = e
    unfold frst
    rw [if_neg (by rw [h1]; decide), if_pos h2]
  | k + 1 => by
    show frst f (e + 1 + k + 1) = e
    unfold frst
    rw [if_pos (anyB_to (j := e) (by omega) h2)]
    exact frst_y h1 h2 k
theorem frst_b {f : Nat → Bool} : ∀ n, -1 ≤ frst f n ∧ frst f n < n
  | 0 => ⟨by show (-1 : Int) ≤ -1; omega, by show (-1 : Int) < 0; omega⟩
  | n + 1 => by
    have := frst_b (f := f) n
    unfold frst
    split
    · omega
    · split <;> omega
/-- the words up to n that are unlike all before -/
def uni (S : Nat → Wrd) : Nat → Nat
  | 0 => 0
  | n + 1 => uni S n + (if anyB (fun u => decide (wSame (S n) (S u))) n = false then 1 else 0)
theorem uni_le (S : Nat → Wrd) : ∀ n, uni S n ≤ n
  | 0 => Nat.le_refl _
  | n + 1 => by
    have := uni_le S n
    unfold uni
    split <;> omega
noncomputable def wSts (w : Wrd) (k : Int) : Nat := sts w.1 (wP w) (wQ w) k (2 ^ w.1)
/-- entry e of the book is wrong -/
noncomputable def wrI (s : St) (e : Nat) : Bool := !(decide (sBw s e < (sSh s).1) && decide (I ((wSts ((sSh s).2 (sBw s e)) 1 : Nat) : Int) = sBm s e))
section QS
variable {A : AH} {m t : Nat} {s : St}
theorem RF.k0 (h : RF A m s) : aI A 14 (some (m + 1)) 0 = some (I (sSh s).1) := by
  rw [L_0, h.1.w_l (by omega) (by omega), show (0 : Int).toNat = 0 from rfl, h.2.1.1]
theorem M_unlikeWords (h : RF A m s) (hk : StOK s) : ∃ r, fX12_unlikeWords A (some m) = some r ∧ r.1 = I (uni (sSh s).2 (sSh s).1) ∧ Ms m A r.2 := by
  have hM := h.1
  have hK := hk.1.1
  unfold fX12_unlikeWords
  rw [hM.rc, bs]
  refine for_eb2 (sSh s).1 (fun t u => u.1 = I (uni (sSh s).2 t) ∧ u.2.1 = I t ∧ Ms m A u.2.2) (fun r => r.1 = I (uni (sSh s).2 (sSh s).1) ∧ Ms m A r.2) ⟨rfl, rfl, Ms.rf⟩ ?_ ?_ (fun r hr => ⟨_, rfl, hr⟩)
  · rintro t ⟨u1, u2, u3⟩ ht ⟨e1, e2, e3⟩
    dsimp only at e1 e2 e3 ⊢
    subst e1; subst e2
    have h' := h.ms e3
    rw [h'.1.w, bs, h'.k0, bs, if_neg (le_n (by omega))]
    refine for_eb t (fun u v => v.1 = bI (anyB (fun u => decide (wSame ((sSh s).2 t) ((sSh s).2 u))) u = false) ∧ v.2.1 = I u ∧ Ms m A v.2.2) (fun r => r.1 = bI (anyB (fun u => decide (wSame ((sSh s).2 t) ((sSh s).2 u))) t = false) ∧ Ms m A r.2) ⟨rfl, rfl, e3⟩ ?_ ?_ ?_
    · rintro u ⟨v1, v2, v3⟩ hu ⟨f1, f2, f3⟩
      dsimp only at f1 f2 f3 ⊢
      subst f1; subst f2
      have hs : anyB (fun u => decide (wSame ((sSh s).2 t) ((sSh s).2 u))) (u + 1) = (anyB (fun u => decide (wSame ((sSh s).2 t) ((sSh s).2 u))) u || decide (wSame ((sSh s).2 t) ((sSh s).2 u))) := rfl
      rw [if_neg (le_n (by omega)), jp_eq]
      cases q : anyB (fun u => decide (wSame ((sSh s).2 t) ((sSh s).2 u))) u with
      | true =>
        rw [if_pos (bI0.mpr (by decide))]
        refine ⟨_, rfl, ?_, by dsimp only; rw [L_1, I_add, ← cst], f3⟩
        rw [hs, q]
        rfl
      | false =>
        obtain ⟨r, g1, g2, g3⟩ := M_isSame (h.ms f3) hk ht (show u < (sSh s).1 by omega)
        rw [if_neg (fun z => bI0.mp z rfl), g1, bs, g2]
        by_cases q2 : wSame ((sSh s).2 t) ((sSh s).2 u)
        · rw [if_neg (fun z => bI0.mp z q2)]
          refine ⟨_, rfl, ?_, by dsimp only; rw [L_1, I_add, ← cst], f3.tr g3⟩
          rw [hs, q, decide_eq_true q2]
          rfl
        · rw [if_pos (bI0.mpr q2)]
          refine ⟨_, rfl, ?_, by dsimp only; rw [L_1, I_add, ← cst], f3.tr g3⟩
          rw [hs, q, decide_eq_false q2]
          rfl
    · rintro ⟨v1, v2, v3⟩ ⟨f1, f2, f3⟩
      dsimp only at f1 f2 f3 ⊢
      subst f1; subst f2
      exact ⟨_, by rw [if_pos (le_y (by omega))], rfl, f3⟩
    · rintro ⟨r1, r2⟩ ⟨f1, f2⟩
      dsimp only at f1 f2 ⊢
      subst f1
      rw [jp1_eq]
      refine ⟨_, rfl, _, rfl, ?_, by dsimp only; rw [L_1, I_add, ← cst], f2⟩
      dsimp only
      have hs : uni (sSh s).2 (t + 1) = uni (sSh s).2 t + (if anyB (fun u => decide (wSame ((sSh s).2 t) ((sSh s).2 u))) t = false then 1 else 0) := rfl
      rw [hs]
      by_cases q : anyB (fun u => decide (wSame ((sSh s).2 t) ((sSh s).2 u))) t = false
      · rw [if_neg (fun z => bI0.mp z q), if_pos q, L_1, I_add, ← cst]
      · rw [if_pos (bI0.mpr q), if_neg q, L_0, I_add, Int.add_zero]; rfl
  · rintro ⟨u1, u2, u3⟩ ⟨e1, e2, e3⟩
    dsimp only at e1 e2 e3 ⊢
    subst e1; subst e2
    have h' := h.ms e3
    exact ⟨_, by rw [h'.1.w, bs, h'.k0, bs, if_pos (le_y (by omega))], rfl, e3⟩
theorem M_wrong (h : RF A m s) (hk : StOK s) : ∃ r, fX12_wrong A (some m) = some r ∧ r.1 = I (frst (wrI s) (sEn s)) ∧ Ms m A r.2 := by
  have hM := h.1
  have hK := hk.1.1
  have hE := hk.2.2.2.2.2.2.1
  unfold fX12_wrong
  rw [hM.rc, bs]
  refine srch_eb (sEn s) (fun e u => u.1 = I e ∧ Ms m A u.2 ∧ anyB (wrI s) e = false) (fun x => ∃ v B, Ms m A B ∧ v = I (frst (wrI s) (sEn s)) ∧ ((x = .inl B ∧ v = -1) ∨ x = .inr (v, B))) ⟨rfl, Ms.rf, rfl⟩ ?_ ?_ ?_
  · rintro e ⟨u1, u2⟩ he ⟨e1, e2, e3⟩
    dsimp only at e1 e2 e3 ⊢
    subst e1
    have h' := h.ms e2
    have hb := hk.2.2.2.2.2.2.2 e he
    obtain ⟨b1, b2⟩ := h'.2.2.2.2.2.2.2.2 e he
    have hfin : wrI s e = true → I (e : Int) = I (frst (wrI s) (sEn s)) := fun q => by
      have := frst_y e3 q (sEn s - (e + 1))
      rw [show e + 1 + (sEn s - (e + 1)) = sEn s by omega] at this
      rw [this]
    rw [gI_ok h'.1.k, bs, h'.2.2.2.2.2.2.2.1, if_neg (le_n (by omega)), h'.1.bw, bs, h'.1.bw_l (by omega) (by omega), bs, Int.toNat_natCast, b1, M_isWord h' hk (by omega), bs]
    by_cases q : sBw s e < (sSh s).1
    · obtain ⟨r, g1, g2, g3⟩ := M_statesOf h'.1 (h'.we hk q) (hk.vw q) (k := 1) (by omega)
      have g1 : fX12_statesOf u2 (some m) (I (sBw s e)) 1 = some r := g1
      have g2 : r.1 = I ((wSts ((sSh s).2 (sBw s e)) 1 : Nat) : Int) := g2
      have h3 := h'.ms g3
      rw [if_neg (fun z => bI0.mp z (by omega)), bs, h'.1.bw_l (by omega) (by omega), bs, Int.toNat_natCast, b1, g1, bs, h3.1.bm, bs, h3.1.bm_l (by omega) (by omega), bs, Int.toNat_natCast, (h3.2.2.2.2.2.2.2.2 e he).2, g2]
      by_cases q2 : I ((wSts ((sSh s).2 (sBw s e)) 1 : Nat) : Int) = sBm s e
      · left
        rw [if_pos q2]
        refine ⟨_, rfl, by dsimp only; rw [L_1, I_add, ← cst], e2.tr g3, ?_⟩
        show (anyB (wrI s) e || wrI s e) = false
        rw [e3]
        unfold wrI
        rw [decide_eq_true q, decide_eq_true q2]
        rfl
      · right
        rw [if_neg q2]
        refine ⟨_, rfl, _, _, e2.tr g3, hfin ?_, Or.inr rfl⟩
        unfold wrI
        rw [decide_eq_false q2, Bool.and_false]
        rfl
    · right
      rw [if_pos (bI0.mpr (by omega))]
      refine ⟨_, rfl, _, _, e2, hfin ?_, Or.inr rfl⟩
      unfold wrI
      rw [decide_eq_false q]
      rfl
  · rintro ⟨u1, u2⟩ ⟨e1, e2, e3⟩
    dsimp only at e1 e2 e3 ⊢
    subst e1
    have h' := h.ms e2
    refine ⟨_, by rw [gI_ok h'.1.k, bs, h'.2.2.2.2.2.2.2.1, if_pos (le_y (by omega))], -1, u2, e2, ?_, Or.inl ⟨rfl, rfl⟩⟩
    rw [frst_n e3]
    rfl
  · rintro x ⟨v, B, h1, h2, (⟨rfl, h3⟩ | rfl)⟩
    · exact ⟨_, rfl, by dsimp only; rw [← h2, h3], h1⟩
    · exact ⟨_, rfl, h2, h1⟩
/-- told -/
noncomputable def qTold (s : St) (x : Int32) : Int32 := if x = 0 then I (sSh s).1 else if x = 1 then I (uni (sSh s).2 (sSh s).1) else if x = 2 then I (sTn s) else if x = 3 then I (sEn s) else if x = 4 then I (frst (wrI s) (sEn s)) else if x = 5 then I (sU s) else if x = 6 then I (sSd s) else -1000000002
theorem M_told (h : RF A m s) (hk : StOK s) (x : Int32) : ∃ r, fX12_told A (some m) x = some r ∧ r.1 = qTold s x ∧ Ms m A r.2 := by
  unfold fX12_told qTold
  rw [h.1.rc, bs]
  by_cases h0 : x = 0
  · rw [if_pos h0, if_pos h0, h.1.w, bs, h.k0, bs]; exact ⟨_, rfl, rfl, Ms.rf⟩
  rw [if_neg h0, if_neg h0]
  by_cases h1 : x = 1
  · obtain ⟨r, g1, g2, g3⟩ := M_unlikeWords h hk
    rw [if_pos h1, if_pos h1, g1, bs]; exact ⟨_, rfl, g2, g3⟩
  rw [if_neg h1, if_neg h1]
  by_cases h2 : x = 2
  · rw [if_pos h2, if_pos h2, gI_ok h.1.k, bs]; exact ⟨_, rfl, h.2.2.2.2.2.1.1, Ms.rf⟩
  rw [if_neg h2, if_neg h2]
  by_cases h3 : x = 3
  · rw [if_pos h3, if_pos h3, gI_ok h.1.k, bs]; exact ⟨_, rfl, h.2.2.2.2.2.2.2.1, Ms.rf⟩
  rw [if_neg h3, if_neg h3]
  by_cases h4 : x = 4
  · obtain ⟨r, g1, g2, g3⟩ := M_wrong h hk
    rw [if_pos h4, if_pos h4, g1, bs]; exact ⟨_, rfl, g2, g3⟩
  rw [if_neg h4, if_neg h4]
  by_cases h5 : x = 5
  · rw [if_pos h5, if_pos h5, gI_ok h.1.k, bs]; exact ⟨_, rfl, h.2.2.1.1, Ms.rf⟩
  rw [if_neg h5, if_neg h5]
  by_cases h6 : x = 6
  · rw [if_pos h6, if_pos h6, gI_ok h.1.k, bs]; exact ⟨_, rfl, h.2.2.2.2.1, Ms.rf⟩
  rw [if_neg h6, if_neg h6]
  exact ⟨_, rfl, rfl, Ms.rf⟩
/-- the word that a number names, if one -/
theorem wz {z : Int} {K : Nat} (h : 0 ≤ z ∧ z < K) : ∃ t : Nat, t < K ∧ z = t := ⟨z.toNat, by omega, by omega⟩
noncomputable def qCode (s : St) (x : Int32) : Int64 := if 0 ≤ x.toInt ∧ x.toInt < (sSh s).1 then wC ((sSh s).2 x.toInt.toNat) else -1000000001
theorem M_code (h : RF A m s) (hk : StOK s) (x : Int32) : ∃ r, fX12_code A (some m) x = some r ∧ r.1 = qCode s x ∧ Ms m A r.2 := by
  have hz := Bd_of x
  unfold fX12_code qCode
  rw [h.1.rc, bs]
  have e := M_isWord h hk hz
  rw [← I_of] at e
  rw [e, bs]
  by_cases q : 0 ≤ x.toInt ∧ x.toInt < (sSh s).1
  · obtain ⟨t, t1, t2⟩ := wz q
    have hx : x = I (t : Int) := by rw [← t2]; exact I_of x
    obtain ⟨r, g1, g2, g3, g4⟩ := M_codeW h hk t1
    rw [if_neg (fun z => bI0.mp z q), if_pos q, t2, Int.toNat_natCast, hx, g1, bs]
    exact ⟨_, rfl, g2, g4⟩
  · rw [if_pos (bI0.mpr q), if_neg q]
    exact ⟨_, rfl, rfl, Ms.rf⟩
noncomputable def qAt (s : St) (x y : Int32) : Int32 := if 0 ≤ x.toInt ∧ x.toInt < (sSh s).1 then (if 0 ≤ y.toInt ∧ y.toInt < 2 * ((sSh s).2 x.toInt.toNat).1 then I (((sSh s).2 x.toInt.toNat).2.1 y.toInt.toNat) else -1) else -1000000001
theorem M_at (h : RF A m s) (hk : StOK s) (x y : Int32) : fX12_at A (some m) x y = some (qAt s x y) := by
  have hz := Bd_of x
  have hy := Bd_of y
  unfold fX12_at qAt
  rw [h.1.rc, bs]
  have e := M_isWord h hk hz
  rw [← I_of] at e
  rw [e, bs]
  by_cases q : 0 ≤ x.toInt ∧ x.toInt < (sSh s).1
  · obtain ⟨t, t1, t2⟩ := wz q
    have hx : x = I (t : Int) := by rw [← t2]; exact I_of x
    have hN := (hk.vw t1).1
    rw [if_neg (fun z => bI0.mp z q), if_pos q, t2, Int.toNat_natCast, hx, M_size h.1 (h.we hk t1), bs, L_2, L_1, I_mul, I_sub]
    have e2 := M_in0 A hy (c := 2 * (((sSh s).2 t).1 : Int) - 1) (by omega)
    rw [← I_of] at e2
    rw [e2, bs]
    by_cases q2 : 0 ≤ y.toInt ∧ y.toInt < 2 * ((sSh s).2 t).1
    · obtain ⟨j, j1, j2⟩ : ∃ j : Nat, j < 2 * ((sSh s).2 t).1 ∧ y.toInt = j := ⟨y.toInt.toNat, by omega, by omega⟩
      have hyj : y = I (j : Int) := by rw [← j2]; exact I_of y
      rw [if_neg (fun z => bI0.mp z (by omega)), if_pos q2, j2, Int.toNat_natCast, hyj, M_letterAt h.1 (h.we hk t1) j1, bs]
    · rw [if_pos (bI0.mpr (by omega)), if_neg q2]
  · rw [if_pos (bI0.mpr q), if_neg q]
end QS
