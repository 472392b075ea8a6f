/-! the class: deeds of signs, sum, take -/
section
variable {A B C : AH} {x r w a b f : Nat} {G G' : Gm} {wd : Wrd} {s : St} {l : List Nat}
theorem row_nw (h : CF A x G s) (hw : WD A x G w wd) (h1 : fX10_row A (some w) = some (some r)) : fX10_row (nw A 11 0) (some w) = some (some r) := by
  have hs := hw.1.2.1
  have k : Hk (nw A 11 0) w = Hk A w := if_neg (by omega)
  have k1 : Hk A w = 11 := hw.1.2.2
  have k2 : Hk (nw A 11 0) w = 11 := by rw [k]; exact k1
  unfold fX10_row at h1 ⊢
  rw [rcv_ok k1, bs, gR_ok k1, bs] at h1
  rw [rcv_ok k2, bs, gR_ok k2, bs]
  exact h1
theorem W_signs (h : CF A x G s) (hk : StOK s) (v y : Int32) : ∃ u G', fX11_signs A (some x) v y = some u ∧ u.1 = oSigns s v y ∧ CF u.2 x G' (eSigns s v y) ∧ Kp x A u.2 := by
  unfold fX11_signs oSigns eSigns
  rw [rcv_ok h.c0, bs, h.1.1.sh, bs]
  rcases W_get h hk v with ⟨q, w, w1, w2⟩ | ⟨q, w1⟩
  rotate_left
  · rw [w1, bs, if_pos rfl, if_neg (fun z => q ⟨z.1, z.2.1⟩), if_neg (fun z => q ⟨z.1, z.2.1⟩)]
    exact ⟨_, G, rfl, rfl, h, Kp.rf⟩
  obtain ⟨r, r1, r2, r3, r4, r5, r6, r7, r8, r9, r10⟩ := G_row h.1 w2
  have hN := r7.1
  have e := C_hasLetters r8 hN (Bd_of y)
  rw [← I_of] at e
  rw [w1, bs, if_neg some_ne, r1, bs, e, bs]
  by_cases q2 : 0 ≤ y.toInt ∧ y.toInt < ((2 ^ (sW s v).1 : Nat) : Int)
  rotate_left
  · rw [if_pos (bI0.mpr q2), if_neg (fun z => q2 z.2.2), if_neg (fun z => q2 z.2.2)]
    exact ⟨_, G, rfl, rfl, h, Kp.rf⟩
  have q3 : 0 ≤ v.toInt ∧ v.toInt < (sSh s).1 ∧ 0 ≤ y.toInt ∧ y.toInt < ((2 ^ ((sSh s).2 v.toInt.toNat).1 : Nat) : Int) := ⟨q.1, q.2, q2⟩
  obtain ⟨t, ht, t2⟩ := wz q
  have hv : v = I (t : Int) := lit_eq t2
  have ew : sW s v = (sSh s).2 t := by unfold sW; rw [t2, Int.toNat_natCast]
  obtain ⟨k, k1, k2⟩ := wz q2
  have hy : y = I (k : Int) := lit_eq k2
  obtain ⟨D, d1, d2, d3, d4, d5⟩ := W_new h.1 r2 (sg := k) (by rw [← r3]; exact k1)
  have hD := h.ex d2 (fun _ _ => rfl) d3
  obtain ⟨B, b1, b2, b3, b4⟩ := W_becomes hD hk ht d4
  have b1' : fX11_becomes D (some x) v (some (Hs A)) = some B := by rw [hv]; exact b1
  obtain ⟨f, r', C, c1, c2, c3, c4, c5, c6, c7⟩ := G_faces b2.1 b4
  have c8 := F_count c4
  rw [← hy] at d1
  rw [if_neg (fun z => bI0.mp z q2), if_pos q3, if_pos q3, row_nw h w2 r1, bs, d1, bs, b1', bs, b2.1.1.hp, bs, c1, bs]
  dsimp only
  rw [c8, bs]
  have e1 : gW G r k = (((sSh s).2 t).1, ((sSh s).2 t).2.1, k) := by rw [← ew, r3, r4]
  refine ⟨_, G, rfl, ?_, ?_, ((d2.kp h.1.1).tr b3).tr (c3.kp b2.1.1)⟩
  · rw [k2, t2, Int.toNat_natCast, Int.toNat_natCast, e1]
    rfl
  · rw [k2, t2, Int.toNat_natCast, Int.toNat_natCast]
    have := b2.qt c3 c2
    rw [e1] at this
    exact this
theorem W_draw (h : CF A x G s) (hk : StOK s) (v : Int32) : ∃ u G', fX11_draw A (some x) v = some u ∧ u.1 = oDraw s v ∧ CF u.2 x G' (eDraw s v) ∧ Kp x A u.2 := by
  unfold fX11_draw oDraw eDraw
  rw [rcv_ok h.c0, bs, h.1.1.sh, bs]
  rcases W_get h hk v with ⟨q, w, w1, w2⟩ | ⟨q, w1⟩
  rotate_left
  · rw [w1, bs, if_pos rfl, if_neg q, if_neg (fun z => q z.1)]
    exact ⟨_, G, rfl, rfl, h, Kp.rf⟩
  obtain ⟨r, r1, r2, r3, r4, r5, r6, r7, r8, r9, r10⟩ := G_row h.1 w2
  have hN := r7.1
  obtain ⟨u, u1, u2, u3, u4⟩ := G_drawn h.1 r2
  rw [← r3, ← r4, ← r5] at u2
  obtain ⟨t, ht, t2⟩ := wz q
  have hv : v = I (t : Int) := lit_eq t2
  have ew : sW s v = (sSh s).2 t := by unfold sW; rw [t2, Int.toNat_natCast]
  have h4 := p2_lt hN
  have hu := h.qt u4 u3
  rw [w1, bs, if_neg some_ne, if_pos q, r1, bs, h.1.1.hp, bs, u1, bs, u2, t2, Int.toNat_natCast]
  rw [ew] at h4 r3 r4 w2 ⊢
  have hd := dwn_b ((sSh s).2 t).1 ((sSh s).2 t).2.1 (wP ((sSh s).2 t)) (2 ^ ((sSh s).2 t).1)
  obtain ⟨d, ed⟩ : ∃ d, d = dwn ((sSh s).2 t).1 ((sSh s).2 t).2.1 (wP ((sSh s).2 t)) (2 ^ ((sSh s).2 t).1) := ⟨_, rfl⟩
  rw [← ed] at hd ⊢
  by_cases q2 : d = -1
  · rw [if_pos (by rw [q2]; rfl), if_pos q2, if_neg (fun z => z.2 q2)]
    exact ⟨_, G, rfl, rfl, hu, u4.kp h.1.1⟩
  have hdn : ((d.toNat : Nat) : Int) = d := by omega
  have w2' := w2.qt u4
  have r1' : fX10_row u.2 (some w) = some (some r) := by
    obtain ⟨r0, s1, -⟩ := G_row hu.1 w2'
    have k1 : Hk A w = 11 := w2.1.2.2
    have k2 : Hk u.2 w = 11 := w2'.1.2.2
    unfold fX10_row at r1 ⊢
    rw [rcv_ok k1, bs, gR_ok k1, bs] at r1
    rw [rcv_ok k2, bs, gR_ok k2, bs, u4.2.2.1 320 w w2.1.2.1 (by decide)]
    exact r1
  obtain ⟨D, d1, d2, d3, d4, d5⟩ := W_new hu.1 (r2.qt u4) (sg := d.toNat) (by rw [← r3]; omega)
  rw [hdn] at d1
  have hD := hu.ex d2 (fun _ _ => rfl) d3
  obtain ⟨B, b1, b2, b3, b4⟩ := W_becomes hD hk ht d4
  have b1' : fX11_becomes D (some x) v (some (Hs u.2)) = some B := by rw [hv]; exact b1
  have q3 : (0 ≤ (t : Int) ∧ (t : Int) < (sSh s).1) ∧ d ≠ -1 := ⟨by omega, q2⟩
  rw [if_neg (show ¬ I d = -1 from eq_n (b := -1) (by omega)), if_neg q2, if_pos q3, row_nw hu w2' r1', bs, d1, bs, b1', bs]
  refine ⟨_, G, rfl, rfl, ?_, ((u4.kp h.1.1).tr (d2.kp hu.1.1)).tr b3⟩
  have e1 : gW G r d.toNat = (((sSh s).2 t).1, ((sSh s).2 t).2.1, d.toNat) := by rw [r3, r4]
  rw [e1] at b2
  exact b2
theorem sm_at {L K : Nat → Nat} {n m k : Nat} (h : k < n + m) : lD (apx (apx [] L n) K m) k = if k < n then L k else K (k - n) := by
  have e := apx0_len L n
  have := lD_apx (l := apx [] L n) (f := K) (n := m) (k := k) (by omega)
  rw [this, e]
  by_cases z : k < n
  · rw [if_pos z, if_pos z, lD_apx0 z]
  · rw [if_neg z, if_neg z]
theorem W_sum (h : CF A x G s) (hk : StOK s) (v y : Int32) : ∃ u G', fX11_sum A (some x) v y = some u ∧ u.1 = oSum s v y ∧ CF u.2 x G' (eSum s v y) ∧ Kp x A u.2 := by
  unfold fX11_sum oSum eSum
  rw [rcv_ok h.c0, bs, h.1.1.sh, bs]
  rcases W_get h hk v with ⟨q, w, w1, w2⟩ | ⟨q, w1⟩
  rotate_left
  · rcases W_get h hk y with ⟨q', w', w1', w2'⟩ | ⟨q', w1'⟩
    · rw [w1, bs, bs, w1', bs, if_pos rfl, if_neg (fun z => q z.1), if_neg (fun z => q z.1.1)]
      exact ⟨_, G, rfl, rfl, h, Kp.rf⟩
    · rw [w1, bs, bs, w1', bs, if_pos rfl, if_neg (fun z => q z.1), if_neg (fun z => q z.1.1)]
      exact ⟨_, G, rfl, rfl, h, Kp.rf⟩
  rcases W_get h hk y with ⟨q', w', w1', w2'⟩ | ⟨q', w1'⟩
  rotate_left
  · rw [w1, bs, bs, w1', bs, if_neg some_ne, if_pos rfl, if_neg (fun z => q' z.2), if_neg (fun z => q' z.1.2)]
    exact ⟨_, G, rfl, rfl, h, Kp.rf⟩
  have fu := C_isFull h.1.1.s1 h.2.1 hk.1.1
  rw [w1, bs, bs, w1', bs, if_neg some_ne, if_neg some_ne, if_pos (show wIn s v ∧ wIn s y from ⟨q, q'⟩), bs, fu, bs]
  by_cases q6 : (sSh s).1 = 6
  · rw [if_neg (fun z => bI0.mp z q6), if_pos (Or.inr q6), if_neg (fun z => z.2 (Or.inr q6))]
    exact ⟨_, G, rfl, rfl, h, Kp.rf⟩
  obtain ⟨r, r1, r2, r3, r4, r5, r6, r7, r8, r9, r10⟩ := G_row h.1 w2
  obtain ⟨o, o1, o2, o3, o4, o5, o6, o7, o8, o9, o10⟩ := G_row h.1 w2'
  have hN := r7.1
  have hM := o7.1
  rw [if_pos (bI0.mpr q6), r1, bs, C_lc r8, bs, o1, bs, C_lc o8, bs, I_add]
  by_cases q8 : 8 < (sW s v).1 + (sW s y).1
  · rw [if_neg (show ¬ I _ ≤ (8 : Int32) from le_n (b := 8) (by omega)), if_pos (Or.inl q8), if_neg (fun z => z.2 (Or.inl q8))]
    exact ⟨_, G, rfl, rfl, h, Kp.rf⟩
  obtain ⟨B, b1, b2, b3⟩ := D_sum h.1.1 r8 o8 hN hM (by omega)
  have hk6 := hk.1.1
  have nz : ¬ (8 < (sW s v).1 + (sW s y).1 ∨ (sSh s).1 = 6) := by omega
  obtain ⟨h1, h2⟩ := h.dr b2
  have len1 : (apx (apx [] (sW s v).2.1 (2 * (sW s v).1)) (fun i => 8 + (sW s y).2.1 i) (2 * (sW s y).1)).length = (smL (sW s v) (sW s y)).length := by
    unfold smL
    rw [apx_len, apx_len, apx_len, apx_len]
  have hb1 : ∀ z ∈ apx (apx [] (sW s v).2.1 (2 * (sW s v).1)) (fun i => 8 + (sW s y).2.1 i) (2 * (sW s y).1), z < 1000 := apx_b (apx_b (fun v hv => by cases hv) (fun i hi => by have := (r7.2.2 i hi).1; omega)) (fun i hi => by have := (o7.2.2 i hi).1; omega)
  have val : ∀ k, k < 2 * (sW s v).1 + 2 * (sW s y).1 → (k < 2 * (sW s v).1 ∧ lD (apx (apx [] (sW s v).2.1 (2 * (sW s v).1)) (fun i => 8 + (sW s y).2.1 i) (2 * (sW s y).1)) k = (sW s v).2.1 k ∧ lD (smL (sW s v) (sW s y)) k = (sW s v).2.1 k ∧ (sW s v).2.1 k < 8) ∨ (2 * (sW s v).1 ≤ k ∧ lD (apx (apx [] (sW s v).2.1 (2 * (sW s v).1)) (fun i => 8 + (sW s y).2.1 i) (2 * (sW s y).1)) k = 8 + (sW s y).2.1 (k - 2 * (sW s v).1) ∧ lD (smL (sW s v) (sW s y)) k = 20 + (sW s y).2.1 (k - 2 * (sW s v).1)) := by
    intro k hk
    unfold smL
    rw [sm_at hk, sm_at hk]
    by_cases z : k < 2 * (sW s v).1
    · rw [if_pos z, if_pos z]
      exact Or.inl ⟨z, rfl, rfl, by have := (r7.2.2 k z).1; omega⟩
    · rw [if_neg z, if_neg z]
      exact Or.inr ⟨by omega, rfl, rfl⟩
  have hE : ∀ i j, i < (apx (apx [] (sW s v).2.1 (2 * (sW s v).1)) (fun i => 8 + (sW s y).2.1 i) (2 * (sW s y).1)).length → j < (apx (apx [] (sW s v).2.1 (2 * (sW s v).1)) (fun i => 8 + (sW s y).2.1 i) (2 * (sW s y).1)).length → (lD (apx (apx [] (sW s v).2.1 (2 * (sW s v).1)) (fun i => 8 + (sW s y).2.1 i) (2 * (sW s y).1)) i = lD (apx (apx [] (sW s v).2.1 (2 * (sW s v).1)) (fun i => 8 + (sW s y).2.1 i) (2 * (sW s y).1)) j ↔ lD (smL (sW s v) (sW s y)) i = lD (smL (sW s v) (sW s y)) j) := by
    intro i j hi hj
    rw [len1, smL_len] at hi hj
    have vi := val i hi
    have vj := val j hj
    omega
  have hd := smL_dbl (hk.1.2 _ (show v.toInt.toNat < (sSh s).1 by omega)) (hk.1.2 _ (show y.toInt.toNat < (sSh s).1 by omega))
  obtain ⟨C, G', c1, c2, c3⟩ := W_comes h1 hk (by omega) b3 (lD_b hb1) (dbl_eq hE (by rw [len1]; exact hd)) hE
  rw [if_pos (show I _ ≤ (8 : Int32) from le_y (b := 8) (by omega)), if_neg nz, if_pos ⟨⟨q, q'⟩, nz⟩, h.1.1.df, bs, bs, bs, b1, bs, c1, bs]
  refine ⟨_, G', rfl, rfl, ?_, h2.tr c3⟩
  rw [len1] at c2
  exact c2
/-- word t leaves the shelf -/
theorem S_remove (h : CF A x G s) (hk : StOK s) {t : Nat} (ht : t < (sSh s).1) : ∃ B, fX8_remove A (some (x + 1)) (I t) = some B ∧ CF B x G (outW s t) ∧ Fr (fun a => a = x + 1 ∨ a = x + 2) A B := by
  have hC := h.1.1
  have hxs := hC.2.2
  have h6 := hk.1.1
  have hl := hC.s1
  unfold fX8_remove
  rw [rcv_ok hl.1, bs, if_neg (show ¬ I (t : Int) < 0 from lt_n (b := 0) (by omega)), gI_ok hl.1, bs, h.2.1.1, if_neg (le_n (by omega))]
  obtain ⟨n, hn⟩ : ∃ n, (sSh s).1 = t + n + 1 := ⟨(sSh s).1 - t - 1, by omega⟩
  refine for_eb n (fun j u => u.1 = I ((t + j : Nat) : Int) ∧ Fr (fun a => a = x + 2) A u.2 ∧ ∀ k, k < 6 → Hq u.2 (x + 2) k = if t ≤ k ∧ k < t + j then Hq A (x + 2) (k + 1) else Hq A (x + 2) k) (fun u => Fr (fun a => a = x + 2) A u ∧ ∀ k, k < 6 → Hq u (x + 2) k = if t ≤ k ∧ k < t + n then Hq A (x + 2) (k + 1) else Hq A (x + 2) k) ⟨rfl, Fr.rf, fun k hk => by rw [if_neg (by omega)]⟩ ?_ ?_ ?_
  · rintro j ⟨u1, u2⟩ hj ⟨e1, g, e3⟩
    dsimp only at e1 g e3 ⊢
    subst e1
    have hl2 : ShL u2 (x + 1) := hl.fr g
    have hC2 := hC.fr g
    have ec : Hi u2 257 (x + 1) = I ((sSh s).1 : Int) := by rw [(g.2.2.2.1 (x + 1) (Or.inl ⟨by omega, by omega⟩)).1]; exact h.2.1.1
    obtain ⟨w, w1, w2⟩ := h.2.1.2 (t + j + 1) (by omega)
    have ok : okR u2 11 (some w) = true := by
      show decide (Hk u2 w = 11) = true
      rw [(g.2.1 w w2.1.2.1).1]
      exact decide_eq_true w2.1.2.2
    have hr2 : gR u2 9 256 (some (x + 1)) = some (some (x + 2)) := by rw [gR_ok hl2.1, hl2.2.1]
    have e1 : I ((t + j : Nat) : Int) + 1 = I ((t + j + 1 : Nat) : Int) := by rw [L_1, I_add, ← cst]
    have v1 : Hq u2 (x + 2) (t + j + 1) = some w := by
      rw [e3 _ (by omega), if_neg (by omega)]; exact w1
    rw [gI_ok hl2.1, bs, ec, e1, if_neg (le_n (by omega)), hr2, bs, bs, aR_ok hC2.k2.1 (by omega) (by rw [hC2.k2.2]; omega) (by rw [hC2.k2.2]; decide), bs, Int.toNat_natCast, v1, sR_ok ok hC2.k2.1 (by omega) (by rw [hC2.k2.2]; omega) (by rw [hC2.k2.2]; decide), bs, Int.toNat_natCast]
    refine ⟨_, rfl, rfl, g.wQ (Or.inl rfl) (by have := g.1; omega), fun k hk => ?_⟩
    dsimp only
    rw [hq_sq]
    by_cases z : k = t + j
    · rw [if_pos z, if_pos (by omega), z]; exact w1.symm
    · rw [if_neg z, e3 k hk]
      by_cases z2 : t ≤ k ∧ k < t + j
      · rw [if_pos z2, if_pos (by omega)]
      · rw [if_neg z2, if_neg (by omega)]
  · rintro ⟨u1, u2⟩ ⟨e1, g, e3⟩
    dsimp only at e1 g e3 ⊢
    subst e1
    have hl2 : ShL u2 (x + 1) := hl.fr g
    have ec : Hi u2 257 (x + 1) = I ((sSh s).1 : Int) := by rw [(g.2.2.2.1 (x + 1) (Or.inl ⟨by omega, by omega⟩)).1]; exact h.2.1.1
    have e1 : I ((t + n : Nat) : Int) + 1 = I ((t + n + 1 : Nat) : Int) := by rw [L_1, I_add, ← cst]
    exact ⟨u2, by rw [gI_ok hl2.1, bs, ec, e1, if_pos (le_y (by omega))], g, e3⟩
  · rintro u ⟨g, e3⟩
    have hl2 : ShL u (x + 1) := hl.fr g
    have ec : Hi u 257 (x + 1) = I ((sSh s).1 : Int) := by rw [(g.2.2.2.1 (x + 1) (Or.inl ⟨by omega, by omega⟩)).1]; exact h.2.1.1
    have hxu := g.1
    have e1 : I ((sSh s).1 : Int) - 1 = I (((sSh s).1 - 1 : Nat) : Int) := by rw [L_1, I_sub]; congr 1; omega
    rw [gI_ok hl2.1, bs, ec, e1, pI_ok hl2.1, bs]
    have g2 : Fr (fun a => a = x + 1 ∨ a = x + 2) A (si u 257 (x + 1) (I (((sSh s).1 - 1 : Nat) : Int))) := (g.wk (fun a q _ => Or.inr q)).wI (Or.inl (Or.inl rfl)) (by omega)
    have hT : okT A x (fun a => a = x + 1 ∨ a = x + 2) := fun a q _ => Or.inl (by omega)
    refine ⟨_, rfl, ⟨h.1.fr g2 hT, ⟨hi_si, fun k hk => ?_⟩, h.2.2.1.fr hC g2 hT (by omega) (by omega) (fun a ha => by omega), h.2.2.2.1.fr hC g2 hT (fun a a1 a2 => by omega), h.2.2.2.2.1.fr hC g2 (by omega) (by omega), h.2.2.2.2.2.1.fr hC g2 (by omega) (by omega) (by omega), ?_⟩, g2⟩
    · have hk : k < (sSh s).1 - 1 := hk
      show ∃ w, Hq u (x + 2) k = some w ∧ WD _ x G w (if k < t then s.1.2 k else s.1.2 (k + 1))
      rw [e3 k (by omega)]
      by_cases z : k < t
      · rw [if_neg (by omega), if_pos z]
        obtain ⟨w, w1, w2⟩ := h.2.1.2 k (by omega)
        exact ⟨w, w1, w2.fr g2 hT⟩
      · rw [if_pos (by omega), if_neg z]
        obtain ⟨w, w1, w2⟩ := h.2.1.2 (k + 1) (by omega)
        exact ⟨w, w1, w2.fr g2 hT⟩
    · rw [(g2.2.2.2.1 (x + 17) (Or.inl ⟨by omega, by omega⟩)).1]; exact h.2.2.2.2.2.2
theorem W_take (h : CF A x G s) (hk : StOK s) (v : Int32) : ∃ u G', fX11_take A (some x) v = some u ∧ u.1 = oTake s v ∧ CF u.2 x G' (eTake s v) ∧ Kp x A u.2 := by
  unfold fX11_take oTake eTake
  have hC := h.1.1
  rw [rcv_ok h.c0, bs, h.1.1.sh, bs]
  rcases W_get h hk v with ⟨q, w, w1, w2⟩ | ⟨q, w1⟩
  rotate_left
  · rw [w1, bs, if_pos rfl, if_neg q, if_neg q]
    exact ⟨_, G, rfl, rfl, h, Kp.rf⟩
  obtain ⟨t, ht, t2⟩ := wz q
  have hv : v = I (t : Int) := lit_eq t2
  obtain ⟨B, T, b1, b2, b3, b4, b5⟩ := H_remember h hk
  obtain ⟨C, c1, c2, c3⟩ := S_remove b5 (stMind_ok hk) (t := t) ht
  have c1' : fX8_remove B (some (x + 1)) v = some C := by rw [hv]; exact c1
  rw [w1, bs, if_neg some_ne, if_pos q, if_pos q, hC.hi, bs, bs, b1, bs, b5.1.1.sh, bs, c1', bs, c2.1.1.sh, bs, C_scount c2.1.1.s1 c2.2.1, bs]
  refine ⟨_, G, rfl, rfl, ?_, (b2.kp hC (fun a a1 a2 q => by have := b4 a q; omega)).tr (c3.kp b5.1.1 (fun a a1 a2 q => by omega))⟩
  rw [t2, Int.toNat_natCast]
  exact c2
end
