/-! the class: tell -/
theorem jp_ite {α β : Type} {c : Prop} [Decidable c] (k : α → β) (a b : α) : jp k (fun K => if c then K a else K b) = k (if c then a else b) := by
  unfold jp
  split <;> rfl
section
variable {A B C : AH} {x r w a b f n : Nat} {G G' : Gm} {wd : Wrd} {s : St} {l : List Nat} {T : Nat → Nat}
theorem C_countOf (hC : CI A x) (hn : n ≤ 20) (hT : ∀ i, i < n → He A (x + 4) i = I (T i)) (hb : ∀ i, i < n → T i < 256) {i : Nat} (hi : i < n) : fX9_countOf A (some (x + 3)) (I (T i)) (I i) = some (I (occ T (T i) i)) := by
  unfold fX9_countOf
  rw [rcv_ok hC.k3, bs]
  refine for_b (fun j => (I (occ T (T i) j), I j)) i (I (occ T (T i) i)) rfl (fun j hj => ?_) ?_ rfl
  · have h1 := hb i hi
    have h2 := hb j (by omega)
    have h3 := occ_le T (T i) j
    dsimp only
    rw [if_neg (le_n (by omega)), hC.tx2, bs, aI_at hC.k4 (by omega) (by omega), bs, jp_eq, hT j (by omega)]
    rw [show occ T (T i) (j + 1) = occ T (T i) j + (if T j = T i then 1 else 0) from rfl]
    by_cases q : T j = T i
    · rw [if_pos (by rw [q]), if_pos q, L_1, I_add, I_add, cst, cst]
    · rw [if_neg (eq_n (by omega)), if_neg q, L_1, I_add, cst, Nat.add_zero]
  · dsimp only
    rw [if_pos (le_y (by omega))]
theorem fol {i : Nat} (hb : T i < 256) (h2 : occ T (T i) i ≤ 2) (h8 : cn T i ≤ 8) : fX9_faultOfLetter A (I (T i)) (I (occ T (T i) i)) (I (cn T (i + 1))) = some (I (fAt T i)) := by
  unfold fX9_faultOfLetter fAt
  have hc := cn_s T i
  by_cases q1 : T i < 97
  · rw [if_pos (show I (T i : Int) < (97 : Int32) from lt_y (b := 97) (by omega)), if_pos (Or.inl q1)]; rfl
  rw [if_neg (show ¬ I (T i : Int) < (97 : Int32) from lt_n (b := 97) (by omega))]
  by_cases q2 : T i ≤ 122
  rotate_left
  · rw [if_neg (show ¬ I (T i : Int) ≤ (122 : Int32) from le_n (b := 122) (by omega)), if_pos (by omega)]; rfl
  rw [if_pos (show I (T i : Int) ≤ (122 : Int32) from le_y (b := 122) (by omega)), if_neg (show ¬ (T i < 97 ∨ 122 < T i) by omega)]
  by_cases q3 : occ T (T i) i = 2
  · rw [if_pos (show I (occ T (T i) i : Int) = (2 : Int32) by rw [q3]; rfl), if_pos (show 1 < occ T (T i) i by omega)]; rfl
  rw [if_neg (show ¬ I (occ T (T i) i : Int) = (2 : Int32) from eq_n (b := 2) (by omega)), if_neg (show ¬ 1 < occ T (T i) i by omega)]
  by_cases q4 : occ T (T i) i = 0 ∧ cn T i = 8
  · rw [if_pos q4.1] at hc
    rw [if_neg (show ¬ I (cn T (i + 1) : Int) ≤ (8 : Int32) from le_n (b := 8) (by omega)), if_pos q4]; rfl
  · rw [if_neg q4]
    have : cn T (i + 1) ≤ 8 := by
      by_cases q5 : occ T (T i) i = 0
      · rw [if_pos q5] at hc; omega
      · rw [if_neg q5] at hc; omega
    rw [if_pos (show I (cn T (i + 1) : Int) ≤ (8 : Int32) from le_y (b := 8) (by omega))]; rfl
theorem tFt_at {j : Nat} (h : ∀ i, i < j → fAt T i = 0) (hj : 0 < fAt T j) (hn : j < n) : tFt T n = j := by
  have h0 : anyB (fun i => decide (0 < fAt T i)) j = false := by
    cases z : anyB (fun i => decide (0 < fAt T i)) j with
    | false => rfl
    | true =>
      obtain ⟨g, g1, g2⟩ := anyB_iff.mp z
      have := of_decide_eq_true g2
      have := h g g1
      omega
  have := frst_y (f := fun i => decide (0 < fAt T i)) h0 (decide_eq_true hj) (n - (j + 1))
  rw [show j + 1 + (n - (j + 1)) = n by omega] at this
  exact this
theorem tFt_no (h : ∀ i, i < n → fAt T i = 0) : tFt T n = -1 := by
  refine frst_n ?_
  cases z : anyB (fun i => decide (0 < fAt T i)) n with
  | false => rfl
  | true =>
    obtain ⟨g, g1, g2⟩ := anyB_iff.mp z
    have := of_decide_eq_true g2
    have := h g g1
    omega
theorem C_judge (hC : CI A x) (hl : Hi A 289 (x + 3) = I n) (hn : n ≤ 20) (hT : ∀ i, i < n → He A (x + 4) i = I (T i)) (hb : ∀ i, i < n → T i < 256) : ∃ y, fX9_judge A (some (x + 3)) = some y ∧ ((tFt T n ≠ -1 ∧ y = (I (fAt T (tFt T n).toNat), si A 290 (x + 3) (I (tFt T n)))) ∨ (tFt T n = -1 ∧ n < 2 * cn T n ∧ y = (4, si A 290 (x + 3) (I n))) ∨ (tFt T n = -1 ∧ ¬ n < 2 * cn T n ∧ y = (0, si A 290 (x + 3) (I (-1))))) := by
  unfold fX9_judge
  rw [rcv_ok hC.k3, bs]
  refine srch_eb n (fun j u => u = (I (cn T j), I j, A) ∧ ∀ i, i < j → fAt T i = 0) (fun t => (t = .inl (I (cn T n), A) ∧ ∀ i, i < n → fAt T i = 0) ∨ ∃ j, j < n ∧ t = .inr (I (fAt T j), si A 290 (x + 3) (I j)) ∧ 0 < fAt T j ∧ ∀ i, i < j → fAt T i = 0) ⟨rfl, fun i hi => absurd hi (Nat.not_lt_zero i)⟩ ?_ ?_ ?_
  · rintro j u hj ⟨e, h0⟩
    rw [e]
    dsimp only
    have o2 := flt_o2 (v := T j) h0
    have c8 := flt_cn h0
    have hx : (if I (occ T (T j) j : Int) = 0 then I (cn T j : Int) + 1 else I (cn T j : Int)) = I (cn T (j + 1)) := by
      rw [cn_s]
      by_cases q : occ T (T j) j = 0
      · rw [if_pos (by rw [q]; rfl), if_pos q, L_1, I_add, ← cst]
      · rw [if_neg (show ¬ I _ = (0 : Int32) from eq_n (b := 0) (by omega)), if_neg q, Nat.add_zero]
    rw [gI_ok hC.k3, bs, hl, if_neg (le_n (by omega)), hC.tx2, bs, aI_at hC.k4 (by omega) (by omega), bs, hT j hj, C_countOf hC hn hT hb hj, bs, jp_ite, hx, bs, aI_at hC.k4 (by omega) (by omega), bs, hT j hj, fol (hb j hj) o2 c8, bs]
    have h3 := fAt_le T j
    by_cases q : fAt T j = 0
    · rw [if_pos (by rw [q]; rfl)]
      refine Or.inl ⟨_, rfl, ?_, fun i hi => ?_⟩
      · rw [L_1, I_add, ← cst]
      · by_cases z : i = j
        · rw [z]; exact q
        · exact h0 i (by omega)
    · rw [if_neg (show ¬ I _ = (0 : Int32) from eq_n (b := 0) (by omega)), pI_ok hC.k3, bs]
      exact Or.inr ⟨_, rfl, Or.inr ⟨j, hj, rfl, by omega, h0⟩⟩
  · rintro u ⟨e, h0⟩
    rw [e]
    dsimp only
    rw [gI_ok hC.k3, bs, hl, if_pos (le_y (by omega))]
    exact ⟨_, rfl, Or.inl ⟨rfl, h0⟩⟩
  · rintro t (⟨rfl, h0⟩ | ⟨j, hj, rfl, h1, h0⟩)
    · have hf := tFt_no h0
      have o2 := fun v => flt_o2 (v := v) h0
      have c8 := flt_cn h0
      have cg := cn_ge o2
      show ∃ r, ((gI A 10 289 (some (x + 3))).bind _) = _ ∧ _
      rw [gI_ok hC.k3, bs, hl, jp1_eq, jp_eq]
      dsimp only
      have e2 : (2 : Int32) * I (cn T n : Int) = I ((2 * cn T n : Nat) : Int) := by rw [L_2, I_mul]; congr 1
      rw [e2]
      by_cases q : 2 * cn T n = n
      · rw [if_pos (show I ((2 * cn T n : Nat) : Int) = I (n : Int) by rw [q]), if_neg (show ¬ (1 : Int32) = 0 by decide), pI_ok hC.k3, bs, if_neg (show ¬ (1 : Int32) = 0 by decide)]
        exact ⟨_, rfl, Or.inr (Or.inr ⟨hf, by omega, rfl⟩)⟩
      · rw [if_neg (show ¬ I ((2 * cn T n : Nat) : Int) = I (n : Int) from eq_n (by omega)), if_pos rfl, bs, pI_ok hC.k3, bs, if_pos rfl]
        exact ⟨_, rfl, Or.inr (Or.inl ⟨hf, by omega, rfl⟩)⟩
    · have hf := tFt_at h0 h1 hj
      refine ⟨_, rfl, Or.inl ⟨by rw [hf]; omega, ?_⟩⟩
      rw [hf, Int.toNat_natCast]
theorem C_copyTo (hC : CI A x) (hl : Hi A 289 (x + 3) = I n) (hn : n ≤ 16) (hT : ∀ i, i < n → He A (x + 4) i = I (T i)) : ∃ B, fX9_copyTo A (some (x + 3)) (some (x + 18)) = some B ∧ Fr (dS x) A B ∧ DrL B x (apx [] T n) := by
  have hxs := hC.2.2
  unfold fX9_copyTo
  obtain ⟨B, b1, b2, b3⟩ := D_clear hC
  rw [rcv_ok hC.k3, bs, b1, bs]
  refine for_eb n (fun j u => u.1 = I j ∧ Fr (dS x) A u.2 ∧ DrL u.2 x (apx [] T j)) (fun u => Fr (dS x) A u ∧ DrL u x (apx [] T n)) ⟨rfl, b2, b3⟩ ?_ ?_ (fun u hu => ⟨u, rfl, hu⟩)
  · rintro j ⟨u1, u2⟩ hj ⟨e1, g, e3⟩
    dsimp only at e1 g e3 ⊢
    subst e1
    have hC2 := hC.fr g
    obtain ⟨C, c1, c2, c3⟩ := D_put hC2 e3 (by rw [apx0_len]; omega) (T j)
    have e4 := (g.2.2.2.1 (x + 4) (Or.inl ⟨by omega, fun q => by omega⟩)).2.2.2.1
    have e5 := (g.2.2.2.1 (x + 3) (Or.inl ⟨by omega, fun q => by omega⟩)).1
    rw [gI_ok hC2.k3, bs, e5, hl, if_neg (le_n (by omega)), hC2.tx2, bs, aI_at hC2.k4 (by omega) (by omega), bs, e4, hT j hj, c1, bs]
    exact ⟨_, rfl, by dsimp only; rw [L_1, I_add, ← cst], g.tr' c2, c3⟩
  · rintro ⟨u1, u2⟩ ⟨e1, g, e3⟩
    dsimp only at e1 g e3 ⊢
    subst e1
    have hC2 := hC.fr g
    have e5 := (g.2.2.2.1 (x + 3) (Or.inl ⟨by omega, fun q => by omega⟩)).1
    exact ⟨u2, by rw [gI_ok hC2.k3, bs, e5, hl, if_pos (le_y (by omega))], g, e3⟩
theorem CF.tx (h : CF A x G s) (f : Int) : CF (si (si A 290 (x + 3) (I f)) 289 (x + 3) 0) x G (dTx s f) ∧ Kp x A (si (si A 290 (x + 3) (I f)) 289 (x + 3) 0) := by
  have hC := h.1.1
  have hxs := hC.2.2
  have g : Fr (fun a => a = x + 3) A (si (si A 290 (x + 3) (I f)) 289 (x + 3) 0) := by
    have g1 : Fr (fun a => a = x + 3) A (si A 290 (x + 3) (I f)) := Fr.rf.wI (Or.inl rfl) (by omega)
    exact g1.wI (Or.inl rfl) (by show x + 3 < Hs A; omega)
  have hT : okT A x (fun a => a = x + 3) := fun a q _ => Or.inl (by omega)
  refine ⟨⟨h.1.fr g hT, h.2.1.fr hC.s1 g hT (by omega) (by omega), h.2.2.1.fr hC g hT (by omega) (by omega) (fun a ha => by omega), h.2.2.2.1.fr hC g hT (fun a a1 a2 => by omega), ⟨hi_si, fun i hi => absurd hi (Nat.not_lt_zero i), ?_⟩, h.2.2.2.2.2.1.fr hC g (by omega) (by omega) (by omega), ?_⟩, g.kp hC (fun a a1 a2 => by omega)⟩
  · rw [hi_si_ne (by decide)]; exact hi_si
  · rw [(g.2.2.2.1 (x + 17) (Or.inl ⟨by omega, by omega⟩)).1]; exact h.2.2.2.2.2.2
theorem W_tell (h : CF A x G s) (hk : StOK s) : ∃ u G', fX11_tell A (some x) = some u ∧ u.1 = oTell s ∧ CF u.2 x G' (eTell s) ∧ Kp x A u.2 := by
  have hC := h.1.1
  have hxs := hC.2.2
  have h6 := hk.1.1
  have ht := hk.2.2.2.2.1
  obtain ⟨t1, t2, t3⟩ := h.2.2.2.2.1
  unfold fX11_tell oTell eTell
  rw [rcv_ok h.c0, bs, hC.sh, bs, C_isFull hC.s1 h.2.1 h6, bs]
  by_cases q6 : (sSh s).1 = 6
  · rw [if_neg (fun z => bI0.mp z q6), if_pos q6, if_pos q6]
    exact ⟨_, G, rfl, rfl, h, Kp.rf⟩
  rw [if_pos (bI0.mpr q6), if_neg q6, if_neg q6, hC.tx, bs]
  have k3 : ∀ f v, Hk (si A f (x + 3) v) (x + 3) = 10 := fun f v => hC.k3
  have ktx : ∀ v, gR (si A 290 (x + 3) v) 12 353 (some x) = some (some (x + 3)) := fun v => hC.tx
  have hfb := fAt_le (sT s) (tFt (sT s) (sTn s)).toNat
  have htb := tFt_b (sT s) (sTn s)
  obtain ⟨y, y1, ⟨y2, y3⟩ | ⟨y2, y3, y4⟩ | ⟨y2, y3, y4⟩⟩ := C_judge hC t1 ht.1 t2 ht.2
  · have hf : fAt (sT s) (tFt (sT s) (sTn s)).toNat ≠ 0 := by
      rcases frst_f (f := fun i => decide (0 < fAt (sT s) i)) (n := sTn s) with ⟨z, -⟩ | ⟨k, z1, z2, z3⟩
      · exact absurd z y2
      · have e : tFt (sT s) (sTn s) = k := z1
        rw [e, Int.toNat_natCast]
        have := of_decide_eq_true z3
        omega
    rw [y1, bs, y3, jp_eq]
    dsimp only
    have n0 : ¬ I (fAt (sT s) (tFt (sT s) (sTn s)).toNat : Int) = 0 := eq_n (b := 0) (by omega)
    unfold fX9_clear
    rw [if_neg n0, ktx, bs, rcv_ok (k3 _ _), bs, pI_ok (k3 _ _), bs, bs, if_neg n0, if_pos y2, if_pos y2]
    have e := h.tx (tFt (sT s) (sTn s))
    refine ⟨_, G, rfl, ?_, e.1, e.2⟩
    show -10 - I _ = _
    rw [show (-10 : Int32) = I (-10) from rfl, I_sub]
  · rw [y1, bs, y4, jp_eq]
    dsimp only
    have n0 : ¬ (4 : Int32) = 0 := by decide
    unfold fX9_clear
    rw [if_neg n0, ktx, bs, rcv_ok (k3 _ _), bs, pI_ok (k3 _ _), bs, bs, if_neg n0, if_neg (fun z : tFt (sT s) (sTn s) ≠ -1 => z y2), if_pos y3, if_neg (fun z : tFt (sT s) (sTn s) ≠ -1 => z y2), if_pos y3]
    have e := h.tx (sTn s : Int)
    exact ⟨_, G, rfl, rfl, e.1, e.2⟩
  · obtain ⟨d1, d2⟩ := tell_dbl y2 y3
    rw [y1, bs, y4, jp_eq]
    dsimp only
    obtain ⟨B, hB⟩ : ∃ B, B = si A 290 (x + 3) (I (-1)) := ⟨_, rfl⟩
    have gB : Fr (fun a => a = x + 3) A B := by rw [hB]; exact Fr.rf.wI (Or.inl rfl) (by omega)
    have hCB := hC.fr gB
    have l1 : Hi B 289 (x + 3) = I (sTn s : Int) := by rw [hB, hi_si_ne (by decide)]; exact t1
    have l2 : ∀ i, i < sTn s → He B (x + 4) i = I (sT s i) := fun i hi => by rw [hB]; exact t2 i hi
    obtain ⟨C, c1, c2, c3⟩ := C_copyTo hCB l1 d2 l2
    have hCC := hCB.fr c2
    have e := h.tx (-1)
    rw [← hB] at e
    have gC : Fr (dS x) (si B 289 (x + 3) 0) (si C 289 (x + 3) 0) := by
      obtain ⟨g1, g2, g3, g4, g5⟩ := c2
      refine ⟨g1, g2, g3, fun a ha => ?_, g5⟩
      have := g4 a ha
      refine ⟨?_, this.2⟩
      intro f
      by_cases z : f = 289 ∧ a = x + 3
      · rw [z.1, z.2, hi_si, hi_si]
      · rw [show Hi (si C 289 (x + 3) 0) f a = Hi C f a from up2_ne z, show Hi (si B 289 (x + 3) 0) f a = Hi B f a from up2_ne z]; exact this.1 f
    obtain ⟨f1, f2⟩ := e.1.dr gC
    have hD : DrL (si C 289 (x + 3) 0) x (apx [] (sT s) (sTn s)) := c3.mv (show Hi (si C 289 (x + 3) 0) 33 (x + 18) = Hi C 33 (x + 18) from hi_si_ne (by decide)) rfl
    have hlt : ∀ j, j < (apx [] (sT s) (sTn s)).length → lD (apx [] (sT s) (sTn s)) j = sT s j := fun j hj => by rw [apx0_len] at hj; exact lD_apx0 hj
    have hE : ∀ i j, i < (apx [] (sT s) (sTn s)).length → j < (apx [] (sT s) (sTn s)).length → (lD (apx [] (sT s) (sTn s)) i = lD (apx [] (sT s) (sTn s)) j ↔ sT s i = sT s j) := fun i j hi hj => by rw [hlt i hi, hlt j hj]
    obtain ⟨D, G', g1, g2, g3⟩ := W_comes f1 (dTx_ok hk (f := -1) (by omega)) (show (sSh s).1 < 6 by omega) hD (fun j hj => by rw [hlt j hj]; rw [apx0_len] at hj; have := ht.2 j hj; omega) (dbl_eq hE (by rw [apx0_len]; exact d1)) hE
    unfold fX9_clear
    rw [if_pos rfl, ← hB, hCB.tx, bs, hCB.df, bs, c1, bs, hCC.tx, bs, rcv_ok hCC.k3, bs, pI_ok hCC.k3, bs, bs, if_pos rfl, if_neg (fun z : tFt (sT s) (sTn s) ≠ -1 => z y2), if_neg y3, if_neg (fun z : tFt (sT s) (sTn s) ≠ -1 => z y2), if_neg y3, g1, bs]
    rw [apx0_len] at g2
    exact ⟨_, G', rfl, rfl, g2, (e.2.tr f2).tr g3⟩
end
