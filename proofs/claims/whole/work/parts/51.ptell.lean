/-! deeds of the reference: tell -/
theorem occ_fr0 {D : Nat → Nat} {v n : Nat} : occ D v n = 0 ↔ fr0 D v n = false := by
  rw [fr0_n]
  exact ⟨fun h => occ_0 h, fun h => occ_none h⟩
theorem cn_s (D : Nat → Nat) (n : Nat) : cn D (n + 1) = cn D n + (if occ D (D n) n = 0 then 1 else 0) := by
  show cn D n + (if fr0 D (D n) n = false then 1 else 0) = _
  congr 1
  by_cases q : fr0 D (D n) n = false
  · rw [if_pos q, if_pos (occ_fr0.mpr q)]
  · rw [if_neg q, if_neg (fun e => q (occ_fr0.mp e))]
theorem cn_le (D : Nat → Nat) : ∀ n, cn D n ≤ n
  | 0 => Nat.le_refl _
  | n + 1 => by
    have := cn_le D n
    rw [cn_s]
    split <;> omega
theorem occ_le (D : Nat → Nat) (v : Nat) : ∀ n, occ D v n ≤ n
  | 0 => Nat.le_refl _
  | n + 1 => by
    have := occ_le D v n
    unfold occ
    split <;> omega
def fAt (T : Nat → Nat) (i : Nat) : Nat := if T i < 97 ∨ 122 < T i then 1 else if 1 < occ T (T i) i then 2 else if occ T (T i) i = 0 ∧ cn T i = 8 then 3 else 0
theorem fAt_le (T : Nat → Nat) (i : Nat) : fAt T i ≤ 3 := by
  unfold fAt
  split
  · omega
  · split
    · omega
    · split <;> omega
def tFt (T : Nat → Nat) (n : Nat) : Int := frst (fun i => decide (0 < fAt T i)) n
theorem no_flt {T : Nat → Nat} {n : Nat} (h : anyB (fun i => decide (0 < fAt T i)) n = false) : ∀ i, i < n → fAt T i = 0 := fun i hi => by
  by_cases q : 0 < fAt T i
  · rw [anyB_to (f := fun i => decide (0 < fAt T i)) hi (decide_eq_true q)] at h
    cases h
  · omega
theorem flt_occ {T : Nat → Nat} {i : Nat} (h : fAt T i = 0) : occ T (T i) i ≤ 1 ∧ ¬ (occ T (T i) i = 0 ∧ cn T i = 8) ∧ 97 ≤ T i ∧ T i ≤ 122 := by
  unfold fAt at h
  split at h
  · omega
  · split at h
    · omega
    · split at h
      · omega
      · rename_i a b c
        exact ⟨by omega, c, by omega, by omega⟩
theorem flt_cn {T : Nat → Nat} : ∀ {n : Nat}, (∀ i, i < n → fAt T i = 0) → cn T n ≤ 8
  | 0, _ => by show 0 ≤ 8; omega
  | n + 1, h => by
    have ih := flt_cn (n := n) (fun i hi => h i (by omega))
    have := flt_occ (h n (by omega))
    rw [cn_s]
    split <;> omega
theorem flt_o2 {T : Nat → Nat} {v : Nat} : ∀ {n : Nat}, (∀ i, i < n → fAt T i = 0) → occ T v n ≤ 2
  | 0, _ => by show 0 ≤ 2; omega
  | n + 1, h => by
    have ih := flt_o2 (v := v) (n := n) (fun i hi => h i (by omega))
    have := flt_occ (h n (by omega))
    show occ T v n + (if T n = v then 1 else 0) ≤ 2
    split
    · rename_i e; subst e; omega
    · omega
theorem sumN_le {f g : Nat → Nat} : ∀ {n : Nat}, (∀ j, j < n → f j ≤ g j) → sumN f n ≤ sumN g n
  | 0, _ => Nat.le_refl _
  | n + 1, h => by
    have := sumN_le (n := n) (fun j hj => h j (by omega))
    have := h n (by omega)
    show sumN f n + f n ≤ sumN g n + g n
    omega
theorem sumN_eq {f g : Nat → Nat} : ∀ {n : Nat}, (∀ j, j < n → f j ≤ g j) → sumN f n = sumN g n → ∀ j, j < n → f j = g j
  | 0, _, _, j, hj => by omega
  | n + 1, h, e, j, hj => by
    have h1 := sumN_le (n := n) (fun j hj => h j (by omega))
    have h2 := h n (by omega)
    have e : sumN f n + f n = sumN g n + g n := e
    by_cases q : j = n
    · subst q; omega
    · exact sumN_eq (n := n) (fun j hj => h j (by omega)) (by omega) j (by omega)
theorem cn_two (D : Nat → Nat) (n : Nat) : 2 * cn D n = sumN (fun j => if fr0 D (D j) j = false then 2 else 0) n := by
  have : sumN (fun j => if fr0 D (D j) j = false then 2 else 0) n = sumN (fun j => (if fr0 D (D j) j = false then 1 else 0) + (if fr0 D (D j) j = false then 1 else 0)) n := by
    refine sumN_c (fun j _ => ?_)
    split <;> rfl
  rw [this, sumN_add]
  unfold cn
  omega
theorem cn_ge {D : Nat → Nat} {n : Nat} (h : ∀ v, occ D v n ≤ 2) : n ≤ 2 * cn D n := by
  rw [cn_two]
  have h1 := all_new D n n (Nat.le_refl _)
  have h2 : sumN (fun j => if fr0 D (D j) j = false then occ D (D j) n else 0) n ≤ sumN (fun j => if fr0 D (D j) j = false then 2 else 0) n := sumN_le (fun j _ => by
    split
    · exact h _
    · exact Nat.le_refl _)
  omega
theorem cn_dbl {D : Nat → Nat} {n : Nat} (h : ∀ v, occ D v n ≤ 2) (e : 2 * cn D n = n) : Dbl D n := by
  rw [cn_two] at e
  have h1 := all_new D n n (Nat.le_refl _)
  have h2 := sumN_eq (f := fun j => if fr0 D (D j) j = false then occ D (D j) n else 0) (g := fun j => if fr0 D (D j) j = false then 2 else 0) (n := n) (fun j _ => by
    split
    · exact h _
    · exact Nat.le_refl _) (by rw [h1, e])
  intro i hi
  obtain ⟨f, f1, f2, f3⟩ := least_ex (p := fun j => D j = D i) i rfl
  have hf : fr0 D (D f) f = false := by rw [f2]; exact fr0_n.mpr f3
  have h3 := h2 f (by omega)
  rw [if_pos hf, if_pos hf, f2] at h3
  exact h3
def dTx (s : St) (f : Int) : St := (s.1, s.2.1, s.2.2.1, s.2.2.2.1, (0, sT s), f, s.2.2.2.2.2.2)
theorem dTx_ok {s : St} (hk : StOK s) {f : Int} (hf : -1 ≤ f ∧ f ≤ 20) : StOK (dTx s f) := by
  obtain ⟨h1, h2, h3, h4, ⟨h5, h5'⟩, h6, h7⟩ := hk
  exact ⟨h1, h2, h3, h4, ⟨Nat.zero_le _, fun i hi => absurd hi (Nat.not_lt_zero i)⟩, hf, h7⟩
def eTell (s : St) : St := if (sSh s).1 = 6 then s else if tFt (sT s) (sTn s) ≠ -1 then dTx s (tFt (sT s) (sTn s)) else if sTn s < 2 * cn (sT s) (sTn s) then dTx s (sTn s) else addW (stMind (dTx s (-1))) (wMade (sT s) (sTn s))
def oTell (s : St) : Int32 := if (sSh s).1 = 6 then -1000000004 else if tFt (sT s) (sTn s) ≠ -1 then I (-10 - (fAt (sT s) (tFt (sT s) (sTn s)).toNat : Int)) else if sTn s < 2 * cn (sT s) (sTn s) then -14 else I (sSh s).1
theorem tFt_b (T : Nat → Nat) (n : Nat) : -1 ≤ tFt T n ∧ tFt T n < n := frst_b n
theorem tFt_n {T : Nat → Nat} {n : Nat} (h : tFt T n = -1) : anyB (fun i => decide (0 < fAt T i)) n = false := by
  cases q : anyB (fun i => decide (0 < fAt T i)) n with
  | false => rfl
  | true =>
    exfalso
    obtain ⟨j, j1, j2⟩ := anyB_iff.mp q
    obtain ⟨f, f1, f2, f3⟩ := least_ex (p := fun i => decide (0 < fAt T i) = true) j j2
    have h0 : anyB (fun i => decide (0 < fAt T i)) f = false := by
      cases z : anyB (fun i => decide (0 < fAt T i)) f with
      | false => rfl
      | true =>
        obtain ⟨g, g1, g2⟩ := anyB_iff.mp z
        exact absurd g2 (f3 g g1)
    have := frst_y h0 f2 (n - (f + 1))
    rw [show f + 1 + (n - (f + 1)) = n by omega] at this
    have h : frst (fun i => decide (0 < fAt T i)) n = -1 := h
    omega
theorem tell_dbl {T : Nat → Nat} {n : Nat} (h : tFt T n = -1) (h2 : ¬ n < 2 * cn T n) : Dbl T n ∧ n ≤ 16 := by
  have h0 := no_flt (tFt_n h)
  have h3 := fun v => flt_o2 (v := v) h0
  have h4 := cn_ge h3
  have h5 := flt_cn h0
  exact ⟨cn_dbl h3 (by omega), by omega⟩
section DD
variable {A : AH} {m t n : Nat} {s : St} {l : List Nat} {T : Nat → Nat}
theorem eTell_ok (hk : StOK s) : StOK (eTell s) := by
  have hT := hk.2.2.2.2.1.1
  have hb := tFt_b (sT s) (sTn s)
  unfold eTell
  split
  · exact hk
  · rename_i q
    split
    · exact dTx_ok hk (by omega)
    · split
      · exact dTx_ok hk (by omega)
      · rename_i q2 q3
        have := tell_dbl (Decidable.not_not.mp q2) q3
        exact addW_ok (stMind_ok (dTx_ok hk (by omega))) (wMade_ok this.2 this.1) (by have := hk.1.1; show (sSh s).1 < 6; omega)
theorem M_timesAhead (hM : MI A m) (hn : n ≤ 20) (hT : ∀ i, i < n → He A (m + 4) i = I (T i)) (hb : ∀ i, i < n → T i < 256) {i : Nat} (hi : i < n) : fX12_timesAhead A (some m) (I i) = some (I (occ T (T i) i)) := by
  unfold fX12_timesAhead
  rw [hM.rc, bs]
  refine for_b (fun j => (I (occ T (T i) j), I j)) i (I (occ T (T i) i)) rfl (fun j hj => ?_) ?_ rfl
  · have h1 := hb i hi
    have h2 := hb j (by omega)
    have h3 := occ_le T (T i) j
    dsimp only
    rw [if_neg (le_n (by omega)), hM.tx, bs, hM.tx_l (by omega) (by omega), bs, bs, hM.tx_l (by omega) (by omega), bs, jp1_eq, Int.toNat_natCast, Int.toNat_natCast, hT j (by omega), hT i hi]
    rw [show occ T (T i) (j + 1) = occ T (T i) j + (if T j = T i then 1 else 0) from rfl]
    by_cases q : T j = T i
    · rw [if_pos (by rw [q]), if_pos q, L_1, I_add, I_add, cst, cst]
    · rw [if_neg (eq_n (by omega)), if_neg q, L_1, L_0, I_add, I_add, cst, Nat.add_zero, Int.add_zero]
  · dsimp only
    rw [if_pos (le_y (by omega))]
theorem M_faultAt (hM : MI A m) (hn : n ≤ 20) (hT : ∀ i, i < n → He A (m + 4) i = I (T i)) (hb : ∀ i, i < n → T i < 256) {i : Nat} (hi : i < n) : fX12_faultAt A (some m) (I i) = some (I (fAt T i)) := by
  have h1 := hb i hi
  have h3 := occ_le T (T i) i
  have hta := M_timesAhead hM hn hT hb hi
  unfold fX12_faultAt fAt
  rw [hM.rc, bs, hM.tx, bs, hM.tx_l (by omega) (by omega), bs, Int.toNat_natCast, hT i hi, show (97 : Int64) = (I 97).toInt64 from rfl, show (122 : Int64) = (I 122).toInt64 from rfl, M_in3 A (by omega) (by omega) (by omega), bs]
  by_cases q1 : T i < 97 ∨ 122 < T i
  · rw [if_pos (bI0.mpr (by omega)), if_pos q1]; rfl
  rw [if_neg (fun z => bI0.mp z (by omega)), if_neg q1, hta, bs]
  by_cases q2 : 1 < occ T (T i) i
  · rw [if_neg (show ¬ I _ ≤ (1 : Int32) from le_n (b := 1) (by omega)), if_pos q2]; rfl
  rw [if_pos (show I _ ≤ (1 : Int32) from le_y (b := 1) (by omega)), if_neg q2]
  refine for_b (fun j => (I (cn T j), I j)) i (I (cn T i)) rfl (fun j hj => ?_) ?_ ?_
  · have h4 := occ_le T (T j) j
    have h5 := cn_le T j
    dsimp only
    rw [if_neg (le_n (by omega)), M_timesAhead hM hn hT hb (show j < n by omega), bs, jp1_eq, cn_s]
    by_cases q : occ T (T j) j = 0
    · rw [if_pos (by rw [q]; rfl), if_pos q, L_1, I_add, I_add, cst, cst]
    · rw [if_neg (show ¬ I _ = (0 : Int32) from eq_n (b := 0) (by omega)), if_neg q, L_1, L_0, I_add, I_add, cst, Nat.add_zero, Int.add_zero]
  · dsimp only
    rw [if_pos (le_y (by omega))]
  · rw [bs]
    have h5 := cn_le T i
    by_cases q : occ T (T i) i = 0
    · rw [if_pos (by rw [q]; rfl)]
      by_cases q4 : cn T i = 8
      · rw [if_pos (by rw [q4]; rfl), if_pos ⟨q, q4⟩]; rfl
      · rw [if_neg (show ¬ I _ = (8 : Int32) from eq_n (b := 8) (by omega)), if_neg (fun z => q4 z.2)]; rfl
    · rw [if_neg (show ¬ I _ = (0 : Int32) from eq_n (b := 0) (by omega)), if_neg (fun z => q z.1)]; rfl
theorem RF.tx (h : RF A m s) (f : Int) : RF (si (si A 390 m 0) 391 m (I f)) m (dTx s f) := by
  obtain ⟨h1, h2, ⟨h3, h4⟩, h5, h6, ⟨h7, h8⟩, h9, h10, h11⟩ := h
  refine ⟨h1, h2, ⟨?_, h4⟩, h5, ?_, ⟨?_, fun i hi => absurd hi (Nat.not_lt_zero i)⟩, hi_si, ?_, h11⟩
  · rw [hi_si_ne (by decide), hi_si_ne (by decide)]; exact h3
  · rw [hi_si_ne (by decide), hi_si_ne (by decide)]; exact h6
  · rw [hi_si_ne (by decide), hi_si]; rfl
  · rw [hi_si_ne (by decide), hi_si_ne (by decide)]; exact h10
theorem RF.ft (h : RF A m s) (f : Int) : RF (si A 391 m (I f)) m (s.1, s.2.1, s.2.2.1, s.2.2.2.1, s.2.2.2.2.1, f, s.2.2.2.2.2.2) := by
  obtain ⟨h1, h2, ⟨h3, h4⟩, h5, h6, ⟨h7, h8⟩, h9, h10, h11⟩ := h
  refine ⟨h1, h2, ⟨?_, h4⟩, h5, ?_, ⟨?_, h8⟩, hi_si, ?_, h11⟩
  · rw [hi_si_ne (by decide)]; exact h3
  · rw [hi_si_ne (by decide)]; exact h6
  · rw [hi_si_ne (by decide)]; exact h7
  · rw [hi_si_ne (by decide)]; exact h10
theorem M_tell (h : RF A m s) (hk : StOK s) : ∃ r, fX12_tell A (some m) = some r ∧ r.1 = oTell s ∧ RF r.2 m (eTell s) ∧ Mm m A r.2 := by
  have hK := hk.1.1
  have hn := hk.2.2.2.2.1.1
  have hb := hk.2.2.2.2.1.2
  have hT := h.2.2.2.2.2.1.2
  have h390 := h.2.2.2.2.2.1.1
  have hM := h.1
  unfold fX12_tell oTell eTell
  rw [hM.rc, bs, hM.w, bs, h.k0, bs]
  by_cases q : (sSh s).1 = 6
  · rw [if_pos (by rw [q]; rfl), if_pos q, if_pos q]; exact ⟨_, rfl, rfl, h, Mm.rf⟩
  have hM4 : MI (si A 390 m 0) m := hM
  rw [if_neg (show ¬ I _ = (6 : Int32) from eq_n (b := 6) (by omega)), if_neg q, if_neg q, gI_ok hM.k, bs, h390, pI_ok hM.k, bs, pI_ok hM4.k, bs, show ((-1) : Int32) = I (-1) from rfl]
  have h5 := h.tx (-1)
  have hT5 : ∀ i, i < sTn s → He (si (si A 390 m 0) 391 m (I (-1))) (m + 4) i = I (sT s i) := hT
  have gm : Mm m A (si (si A 390 m 0) 391 m (I (-1))) := Mm.si.tr Mm.si
  have hk5 := dTx_ok hk (f := -1) (by omega)
  generalize si (si A 390 m 0) 391 m (I (-1)) = B at h5 hT5 gm ⊢
  refine srch_eb (sTn s) (fun j u => u = (I (2 * (cn (sT s) j : Int) - j), I (j : Int), B) ∧ anyB (fun i => decide (0 < fAt (sT s) i)) j = false) (fun u => (u = .inl (I (2 * (cn (sT s) (sTn s) : Int) - sTn s), B) ∧ tFt (sT s) (sTn s) = -1) ∨ ∃ (g : Nat) (r : AH), u = .inr (I (-10 - (fAt (sT s) g : Int)), r) ∧ tFt (sT s) (sTn s) = g ∧ RF r m (dTx s g) ∧ Mm m A r) ⟨rfl, rfl⟩ ?_ ?_ ?_
  · rintro j ⟨u1, u2, u3⟩ hj ⟨eu, g1⟩
    obtain ⟨rfl, rfl, rfl⟩ : I (2 * (cn (sT s) j : Int) - j) = u1 ∧ I (j : Int) = u2 ∧ B = u3 := by injection eu with a b; injection b with b c; exact ⟨a.symm, b.symm, c.symm⟩
    dsimp only
    have hf := fAt_le (sT s) j
    have hc := cn_le (sT s) j
    rw [if_neg (le_n (by omega)), M_faultAt h5.1 hn hT5 hb hj, bs]
    by_cases z : 0 < fAt (sT s) j
    · right
      rw [if_neg (show ¬ I _ ≤ (0 : Int32) from le_n (b := 0) (by omega)), pI_ok h5.1.k, bs]
      have hfr := frst_y (f := fun i => decide (0 < fAt (sT s) i)) (e := j) g1 (decide_eq_true z) (sTn s - (j + 1))
      rw [show j + 1 + (sTn s - (j + 1)) = sTn s by omega] at hfr
      refine ⟨_, rfl, Or.inr ⟨j, _, ?_, hfr, h5.ft j, gm.tr Mm.si⟩⟩
      rw [show ((-10) : Int32) = I (-10) from rfl, I_sub]
    · left
      rw [if_pos (show I _ ≤ (0 : Int32) from le_y (b := 0) (by omega)), M_timesAhead h5.1 hn hT5 hb hj, bs, jp1_eq]
      refine ⟨_, rfl, ?_, ?_⟩
      · have h6 := occ_le (sT s) (sT s j) j
        rw [cn_s, L_1, I_add, ← cst]
        by_cases z2 : occ (sT s) (sT s j) j = 0
        · rw [if_pos (by rw [z2]; rfl), if_pos z2, I_add]; congr 2; omega
        · rw [if_neg (show ¬ I _ = (0 : Int32) from eq_n (b := 0) (by omega)), if_neg z2, I_add]; congr 2; omega
      · show (anyB (fun i => decide (0 < fAt (sT s) i)) j || decide (0 < fAt (sT s) j)) = false
        rw [g1, decide_eq_false z]; rfl
  · rintro ⟨u1, u2, u3⟩ ⟨eu, g1⟩
    obtain ⟨rfl, rfl, rfl⟩ : I (2 * (cn (sT s) (sTn s) : Int) - sTn s) = u1 ∧ I (sTn s : Int) = u2 ∧ B = u3 := by injection eu with a b; injection b with b c; exact ⟨a.symm, b.symm, c.symm⟩
    exact ⟨_, by rw [if_pos (le_y (by omega))], Or.inl ⟨rfl, frst_n g1⟩⟩
  · rintro u (⟨rfl, e1⟩ | ⟨g, r, rfl, e1, e2, e3⟩)
    rotate_left
    · have hne : tFt (sT s) (sTn s) ≠ -1 := by omega
      refine ⟨_, rfl, ?_, ?_, e3⟩
      · rw [if_pos hne, e1, Int.toNat_natCast]
      · rw [if_pos hne, e1]; exact e2
    have hc := cn_le (sT s) (sTn s)
    rw [show ∀ (x : Int32 × AH) (f : Int32 × AH → Option (Int32 × AH)) (g : Int32 × AH → Option (Int32 × AH)), sm (Sum.inl x) f g = f x from fun _ _ _ => rfl]
    have en1 : ¬ tFt (sT s) (sTn s) ≠ -1 := fun z => z e1
    rw [if_neg en1, if_neg en1]
    dsimp only
    by_cases z : sTn s < 2 * cn (sT s) (sTn s)
    · rw [if_neg (show ¬ I _ ≤ (0 : Int32) from le_n (b := 0) (by omega)), if_pos z, if_pos z, pI_ok h5.1.k, bs]
      exact ⟨_, rfl, rfl, h5.ft (sTn s), gm.tr Mm.si⟩
    obtain ⟨d1, d2⟩ := tell_dbl e1 z
    have d3 := cn_half d1
    rw [if_pos (show I _ ≤ (0 : Int32) from le_y (b := 0) (by omega)), if_neg z, if_neg z]
    obtain ⟨C, c1, c2, c3⟩ := M_minds h5 hk5
    have hk6 := stMind_ok hk5
    have hTC : ∀ i, i < sTn s → He C (m + 4) i = I (sT s i) := fun i hi => by rw [c3.2.2.2.2.2.2.1 (m + 4) (by omega)]; exact hT5 i hi
    rw [c1, bs, pI_ok c2.1.k, bs]
    refine for_eb (sTn s) (fun j u => u.1 = I j ∧ Mk m C u.2 ∧ Hi u.2 396 m = I j ∧ MdS u.2 m j (sT s)) (fun r => Mk m C r ∧ Hi r 396 m = I (sTn s) ∧ MdS r m (sTn s) (sT s)) ⟨rfl, Mk.si, hi_si, fun k hk => by omega⟩ ?_ ?_ ?_
    · rintro j ⟨u1, u2⟩ hj ⟨x1, x2, x3, x4⟩
      dsimp only at x1 x2 x3 x4 ⊢
      subst x1
      have hM' := c2.1.ms x2.1
      obtain ⟨D, y1, y2, y3, y4⟩ := M_comesD hM' (k := j) (by omega) x3 x4
      rw [if_neg (le_n (by omega)), hM'.tx, bs, hM'.tx_l (by omega) (by omega), bs, Int.toNat_natCast, x2.2.1 (m + 4) (by omega), hTC j hj, y1, bs]
      exact ⟨_, rfl, by dsimp only; rw [L_1, I_add, ← cst], x2.tr y2, y3, y4⟩
    · rintro ⟨u1, u2⟩ ⟨x1, x2, x3, x4⟩
      dsimp only at x1 x2 x3 x4 ⊢
      subst x1
      exact ⟨u2, by rw [if_pos (le_y (by omega))], x2, x3, x4⟩
    · rintro D ⟨x2, x3, x4⟩
      obtain ⟨r, r1, r2, r3, r4⟩ := M_laysMore (c2.ms x2.1) hk6 (by show (sSh s).1 < 6; omega) (n := sTn s) d2 (by omega) x3 x4 (fun k hk => by have := hb k hk; omega)
      rw [r1, bs]
      exact ⟨_, rfl, r2, r3, ((gm.tr c3.mm).tr x2.1.mm).tr r4.mm⟩
end DD
