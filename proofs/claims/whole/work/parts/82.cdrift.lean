/-! the class: drift -/
theorem J_and {n : Nat} (h : n < 9223372036854775808) : J (n : Int) &&& 2147483647 = J ((n % 2147483648 : Nat) : Int) := by
  have e : ∀ k : Nat, k < 9223372036854775808 → (J (k : Int)).toBitVec.toNat = k := fun k hk => by
    show (BitVec.ofInt 64 (k : Int)).toNat = k
    rw [BitVec.toNat_ofInt]
    omega
  have em : (2147483647 : Int64) = J ((2147483647 : Nat) : Int) := rfl
  rw [em, ← Int64.toBitVec_inj, Int64.toBitVec_and]
  apply BitVec.eq_of_toNat_eq
  rw [BitVec.toNat_and, e n h, e _ (by omega), e _ (by omega)]
  exact Nat.and_two_pow_sub_one_eq_mod n 31
theorem ex_sw {α β : Type} {X : Option α} {Q : α → β → Prop} (h : ∃ r, X = some r ∧ ∃ g, Q r g) : ∃ u g, X = some u ∧ Q u g := by
  obtain ⟨r, h1, g, h2⟩ := h
  exact ⟨r, g, h1, h2⟩
section
variable {A B C : AH} {x r w a b f n : Nat} {G G' : Gm} {wd : Wrd} {s : St} {l : List Nat}
theorem C_below (hC : CI A x) {sd : Nat} (h0 : Hi A 64 (x + 17) = I sd) (hs : sd < 2147483648) {a : Nat} (ha : 0 < a) (ha2 : a < 1000) : fX2_below A (some (x + 17)) (I a) = some (I ((drw sd a : Nat) : Int), si A 64 (x + 17) (I ((lcg sd : Nat) : Int))) := by
  have h1 := lcg_lt sd
  have e : ((((I (sd : Int)).toInt64 * 1103515245 + 12345) &&& 2147483647) : Int64).toInt32 = I ((lcg sd : Nat) : Int) := by
    rw [J_lcg hs, J_and (by omega), J_32, lcg_eq]
  have k17 : Hk (si A 64 (x + 17) (I ((lcg sd : Nat) : Int))) (x + 17) = 3 := hC.k17
  unfold fX2_below
  rw [rcv_ok hC.k17, bs, gI_ok hC.k17, bs, h0, e, pI_ok hC.k17, bs, if_neg (show ¬ I (a : Int) ≤ (0 : Int32) from le_n (b := 0) (by omega)), gI_ok k17, bs, hi_si, L_65536, I_div (by omega) (by omega) (by omega) (by omega), bs]
  have e2 : ((lcg sd : Nat) : Int) / 65536 = ((lcg sd / 65536 : Nat) : Int) := by omega
  rw [e2, I_rem (by omega) (by omega) (by omega) (by omega), bs, drw_eq, Int.natCast_emod]
/-- the cells of a draw -/
abbrev wS (x a : Nat) : Prop := a = x + 17 ∨ a = x + 18 ∨ a = x + 19
def DrE (A : AH) (x n : Nat) (E : Nat → Int) : Prop := Hi A 33 (x + 18) = I n ∧ ∀ k, k < n → He A (x + 19) k = I (E k)
theorem C_empty (hC : CI A x) (hn : n ≤ 16) : ∃ B, fX1_makeEmptyPlaces A (some (x + 18)) (I n) = some B ∧ Fr (wS x) A B ∧ DrE B x n (fun _ => -1) ∧ Hi B 64 (x + 17) = Hi A 64 (x + 17) := by
  have hxs := hC.2.2
  unfold fX1_makeEmptyPlaces
  have e1 : fJ9_min_7cf53 A (I (n : Int)) (I ((16 : Nat) : Int)) = some (I n) := by rw [C_min A (by omega) (by omega)]; congr 2; omega
  have e2 : fJ9_max_7cf53 A 0 (I (n : Int)) = some (I n) := by rw [L_0, C_max A (by omega) (by omega)]; congr 2
  rw [rcv_ok hC.k18, bs, hC.df2, bs, aL_at hC.k19, bs, e1, bs, e2, bs, pI_ok hC.k18, bs]
  have g0 : Fr (wS x) A (si A 33 (x + 18) (I n)) := Fr.rf.wI (Or.inl (Or.inr (Or.inl rfl))) (by omega)
  refine for_eb n (fun j u => u.1 = I j ∧ Fr (wS x) A u.2 ∧ Hi u.2 33 (x + 18) = I n ∧ Hi u.2 64 (x + 17) = Hi A 64 (x + 17) ∧ ∀ k, k < j → He u.2 (x + 19) k = I (-1)) (fun r => Fr (wS x) A r ∧ DrE r x n (fun _ => -1) ∧ Hi r 64 (x + 17) = Hi A 64 (x + 17)) ⟨rfl, g0, hi_si, hi_si_ne (by decide), fun k hk => by omega⟩ ?_ ?_ (fun r hr => ⟨r, rfl, hr⟩)
  · rintro j ⟨u1, u2⟩ hj ⟨x1, x2, x3, x4, x5⟩
    dsimp only at x1 x2 x3 x4 x5 ⊢
    subst x1
    have hC' := hC.fr x2
    rw [gI_ok hC'.k18, bs, x3, if_neg (le_n (by omega)), hC'.df2, bs, sI_at hC'.k19 (by omega) (by omega), bs]
    refine ⟨_, rfl, by dsimp only; rw [L_1, I_add, ← cst], x2.wE (Or.inl (Or.inr (Or.inr rfl))) (by have := x2.1; omega), x3, x4, fun k hk => ?_⟩
    dsimp only
    rw [he_se]
    split
    · rfl
    · exact x5 k (by omega)
  · rintro ⟨u1, u2⟩ ⟨x1, x2, x3, x4, x5⟩
    dsimp only at x1 x2 x3 x4 x5 ⊢
    subst x1
    have hC' := hC.fr x2
    exact ⟨u2, by rw [gI_ok hC'.k18, bs, x3, if_pos (le_y (by omega))], x2, ⟨x3, x5⟩, x4⟩
theorem C_putEmpty (hC : CI A x) {E : Nat → Int} {left : Nat} (hn : n ≤ 16) (hE : DrE A x n E) (hb : ∀ i, -1 ≤ E i ∧ E i < n) (hl : left < occI E (-1) n) (v : Int32) : fX1_putInEmpty A (some (x + 18)) (I left) v = some (se A (x + 19) (psE E left n) v) := by
  obtain ⟨p1, p2, p3⟩ := psE_at hl
  have hol := occI_le E (-1) n
  unfold fX1_putInEmpty
  rw [rcv_ok hC.k18, bs]
  obtain ⟨r, r1, r2⟩ : ∃ r, ((iter (S := Int32 × Int32 × AH) (T := (AH) ⊕ (AH)) (fun s1 =>
      (gI s1.2.2 2 33 ((some (x + 18)))).bind fun v4 =>
      if v4 ≤ s1.2.1 then
        some (.inr (.inl s1.2.2))
      else
        (gR s1.2.2 2 32 ((some (x + 18)))).bind fun v5 =>
        (aI s1.2.2 14 v5 s1.2.1).bind fun v6 =>
        jp (fun (x12 : Int32) =>
          some (.inl (x12, (s1.2.1 + 1), s1.2.2))) fun K7 =>
          if v6 = (-1) then
            if s1.1 = 0 then
              (gR s1.2.2 2 32 ((some (x + 18)))).bind fun v8 =>
              (sI s1.2.2 14 v8 s1.2.1 v).bind fun A9 =>
              some (.inr (.inr A9))
            else
              K7 ((s1.1 + (-1)))
          else
            K7 s1.1) (I left, 0, A)).bind fun t2 => sm t2 (fun t2 => some t2) (fun r => some r)) = some r ∧ r = se A (x + 19) (psE E left n) v := by
    refine srch_eb n (fun j u => u = (I ((left : Int) - occI E (-1) j), I (j : Int), A) ∧ j ≤ psE E left n) (fun t => t = .inr (se A (x + 19) (psE E left n) v)) ⟨?_, Nat.zero_le _⟩ ?_ ?_ ?_
    · show _ = (I ((left : Int) - (0 : Nat)), I ((0 : Nat) : Int), A)
      rw [Int.natCast_zero, Int.sub_zero]; rfl
    · rintro j u hj ⟨e, hf⟩
      rw [e]
      dsimp only
      have o1 := occI_le E (-1) j
      have i4 := hb j
      rw [gI_ok hC.k18, bs, hE.1, if_neg (le_n (by omega)), hC.df2, bs, aI_at hC.k19 (by omega) (by omega), bs, hE.2 j hj, jp_eq]
      have o2 := occI_mono E (-1) (a := j) (psE E left n - j)
      rw [show j + (psE E left n - j) = psE E left n by omega] at o2
      by_cases z : E j = -1
      · rw [if_pos (show I (E j) = (-1 : Int32) by rw [z]; rfl)]
        by_cases y : j = psE E left n
        · rw [if_pos (show I ((left : Int) - occI E (-1) j) = 0 by rw [y, p3, Int.sub_self]; rfl), bs, sI_at hC.k19 (by omega) (by omega), bs]
          exact Or.inr ⟨_, rfl, by rw [y]⟩
        · have o3 := occI_mono E (-1) (a := j + 1) (psE E left n - (j + 1))
          rw [show j + 1 + (psE E left n - (j + 1)) = psE E left n by omega, occI_s, if_pos z] at o3
          rw [if_neg (show ¬ I ((left : Int) - occI E (-1) j) = (0 : Int32) from eq_n (b := 0) (by omega))]
          refine Or.inl ⟨_, rfl, ?_, by omega⟩
          rw [occI_s, if_pos z, show ((-1) : Int32) = I (-1) from rfl, L_1, I_add, I_add, ← cst]
          congr 2
          omega
      · rw [if_neg (show ¬ I (E j) = (-1 : Int32) from eq_n (b := -1) (by omega))]
        have y : j ≠ psE E left n := fun y => z (by rw [y]; exact p2)
        refine Or.inl ⟨_, rfl, ?_, by omega⟩
        rw [occI_s, if_neg z, L_1, I_add, ← cst]
        rfl
    · rintro u ⟨e, hf⟩
      omega
    · rintro t rfl
      exact ⟨_, rfl, rfl⟩
  rw [r2] at r1
  exact r1
theorem C_writeRow (hC : CI A x) {sd : Nat} (h0 : Hi A 64 (x + 17) = I sd) (hs : sd < 2147483648) : ∃ B, fX2_writeRow A (some (x + 17)) (some (x + 18)) = some B ∧ Fr (wS x) A B ∧ Hi B 64 (x + 17) = I ((drS sd).1 : Nat) ∧ DrF B x (2 * drN sd) (drD sd) := by
  have hxs := hC.2.2
  have hN := drN_le sd
  have h1 := lcg_lt sd
  have d7 : fX2_below A (some (x + 17)) 7 = some (I ((drw sd 7 : Nat) : Int), si A 64 (x + 17) (I ((lcg sd : Nat) : Int))) := C_below hC h0 hs (a := 7) (by omega) (by omega)
  have en : (2 : Int32) * (I ((drw sd 7 : Nat) : Int) + 2) = I ((2 * drN sd : Nat) : Int) := by
    rw [L_2, I_add, I_mul, drN_eq]; congr 1
  have g0 : Fr (wS x) A (si A 64 (x + 17) (I ((lcg sd : Nat) : Int))) := Fr.rf.wI (Or.inl (Or.inl rfl)) (by omega)
  have q0 : Hi (si A 64 (x + 17) (I ((lcg sd : Nat) : Int))) 64 (x + 17) = I ((lcg sd : Nat) : Int) := hi_si
  obtain ⟨B, b1, b2, b3, b4⟩ := C_empty (hC.fr g0) (n := 2 * drN sd) (by omega)
  unfold fX2_writeRow
  rw [rcv_ok hC.k17, bs, d7, bs]
  dsimp only
  rw [en, b1, bs]
  rw [q0] at b4
  refine for_eb (2 * drN sd) (fun j u => u.1 = I j ∧ Fr (wS x) A u.2 ∧ Hi u.2 64 (x + 17) = I (((dSt (2 * drN sd) (lcg sd) j).1 : Nat) : Int) ∧ DrE u.2 x (2 * drN sd) (dSt (2 * drN sd) (lcg sd) j).2) (fun r => Fr (wS x) A r ∧ Hi r 64 (x + 17) = I (((drS sd).1 : Nat) : Int) ∧ DrE r x (2 * drN sd) (drS sd).2) ⟨rfl, g0.tr' b2, b4, b3⟩ ?_ ?_ ?_
  · rintro j ⟨u1, u2⟩ hj ⟨x1, x2, x3, x4⟩
    dsimp only at x1 x2 x3 x4 ⊢
    subst x1
    have hC' := hC.fr x2
    have hsd := dSt_lt (2 * drN sd) (lcg sd) h1 j
    obtain ⟨i1, i2, i3⟩ := dSt_inv (2 * drN sd) (lcg sd) j (by omega)
    have dj := C_below hC' x3 hsd (a := 2 * drN sd - j) (by omega) (by omega)
    have esub : I ((2 * drN sd : Nat) : Int) - I (j : Int) = I ((2 * drN sd - j : Nat) : Int) := by rw [I_sub]; congr 1; omega
    have hl := drw_lt (dSt (2 * drN sd) (lcg sd) j).1 (n := 2 * drN sd - j) (by omega)
    obtain ⟨left, hle⟩ : ∃ left, left = drw (dSt (2 * drN sd) (lcg sd) j).1 (2 * drN sd - j) := ⟨_, rfl⟩
    obtain ⟨E, hE⟩ : ∃ E, E = (dSt (2 * drN sd) (lcg sd) j).2 := ⟨_, rfl⟩
    have hnext : dSt (2 * drN sd) (lcg sd) (j + 1) = (lcg (dSt (2 * drN sd) (lcg sd) j).1, setE E (psE E left (2 * drN sd)) ((j / 2 : Nat) : Int)) := by rw [hle, hE]; rfl
    rw [← hE] at x4 i3 i1
    rw [← hle] at dj hl
    have dv : dvI (I (j : Int)) 2 = some (I ((j / 2 : Nat) : Int)) := by rw [L_2, I_div (by omega) (by omega) (by omega) (by omega)]; rfl
    rw [if_neg (le_n (by omega)), esub, dj, bs, dv, bs, hnext]
    dsimp only
    have gC : Fr (wS x) A (si u2 64 (x + 17) (I ((lcg (dSt (2 * drN sd) (lcg sd) j).1 : Nat) : Int))) := x2.wI (Or.inl (Or.inl rfl)) (by have := x2.1; omega)
    have qC : Hi (si u2 64 (x + 17) (I ((lcg (dSt (2 * drN sd) (lcg sd) j).1 : Nat) : Int))) 64 (x + 17) = I ((lcg (dSt (2 * drN sd) (lcg sd) j).1 : Nat) : Int) := hi_si
    have xC : DrE (si u2 64 (x + 17) (I ((lcg (dSt (2 * drN sd) (lcg sd) j).1 : Nat) : Int))) x (2 * drN sd) E := ⟨by rw [hi_si_ne (by decide)]; exact x4.1, x4.2⟩
    generalize si u2 64 (x + 17) (I ((lcg (dSt (2 * drN sd) (lcg sd) j).1 : Nat) : Int)) = C at gC qC xC ⊢
    have pe := C_putEmpty (hC.fr gC) (by omega) xC i3 (left := left) (by omega) (I ((j / 2 : Nat) : Int))
    rw [pe, bs]
    refine ⟨_, rfl, by dsimp only; rw [L_1, I_add, ← cst], gC.wE (Or.inl (Or.inr (Or.inr rfl))) (by have := gC.1; omega), qC, xC.1, fun k hk => ?_⟩
    dsimp only
    rw [he_se]
    unfold setE
    split
    · rfl
    · exact xC.2 k hk
  · rintro ⟨u1, u2⟩ ⟨x1, x2, x3, x4⟩
    dsimp only at x1 x2 x3 x4 ⊢
    subst x1
    exact ⟨u2, by rw [if_pos (le_y (by omega))], x2, x3, x4⟩
  · rintro D ⟨d1, d2, d3, d4⟩
    refine ⟨D, rfl, d1, d2, by omega, d3, fun k hk => ?_⟩
    rw [d4 k hk]
    have := drS_0 sd k hk
    show I ((drS sd).2 k) = I ((((drS sd).2 k).toNat : Nat) : Int)
    rw [Int.toNat_of_nonneg this.1]
theorem CF.dw (h : CF A x G s) (g : Fr (wS x) A B) {v : Nat} (hv : Hi B 64 (x + 17) = I v) : CF B x G (dSeed s v) ∧ Kp x A B := by
  have hC := h.1.1
  have hxs := hC.2.2
  have hT : okT A x (wS x) := fun a q _ => Or.inl (by omega)
  exact ⟨⟨h.1.fr g hT, h.2.1.fr hC.s1 g hT (by omega) (by omega), h.2.2.1.fr hC g hT (by omega) (by omega) (fun a ha => by omega), h.2.2.2.1.fr hC g hT (fun a a1 a2 => by omega), h.2.2.2.2.1.fr hC g (by omega) (by omega), h.2.2.2.2.2.1.fr hC g (by omega) (by omega) (by omega), hv⟩, g.kp hC (fun a a1 a2 => by omega)⟩
theorem C_step (h : CF A x G s) (hk : StOK s) (h6 : (sSh s).1 < 6) : ∃ B C G', fX2_writeRow A (some (x + 17)) (some (x + 18)) = some B ∧ fX11_comesAsWord B (some x) = some (I (sSh s).1, C) ∧ CF C x G' (stDr s) ∧ Kp x A C := by
  have hN := drN_le (sSd s)
  obtain ⟨B, b1, b2, b3, b4⟩ := C_writeRow h.1.1 h.2.2.2.2.2.2 hk.2.2.2.1
  obtain ⟨e1, e2⟩ := h.dw b2 b3
  have hlt : ∀ j, j < (apx [] (drD (sSd s)) (2 * drN (sSd s))).length → lD (apx [] (drD (sSd s)) (2 * drN (sSd s))) j = drD (sSd s) j := fun j hj => by rw [apx0_len] at hj; exact lD_apx0 hj
  have hE : ∀ i j, i < (apx [] (drD (sSd s)) (2 * drN (sSd s))).length → j < (apx [] (drD (sSd s)) (2 * drN (sSd s))).length → (lD (apx [] (drD (sSd s)) (2 * drN (sSd s))) i = lD (apx [] (drD (sSd s)) (2 * drN (sSd s))) j ↔ drD (sSd s) i = drD (sSd s) j) := fun i j hi hj => by rw [hlt i hi, hlt j hj]
  obtain ⟨C, G', c1, c2, c3⟩ := W_comes e1 (dSeed_ok hk (dSt_lt _ _ (lcg_lt _) _)) h6 b4.lst (fun j hj => by
    rw [hlt j hj]
    rw [apx0_len] at hj
    have := drS_0 (sSd s) j hj
    show ((drS (sSd s)).2 j).toNat < 1000
    omega) (dbl_eq hE (by rw [apx0_len]; exact drD_dbl _)) hE
  rw [apx0_len] at c2
  exact ⟨B, C, G', b1, c1, c2, e2.tr c3⟩
theorem W_drift (h : CF A x G s) (hk : StOK s) (v : Int32) : ∃ u G', fX11_drift A (some x) v = some u ∧ u.1 = oDrift s v ∧ CF u.2 x G' (eDrift s v) ∧ Kp x A u.2 := by
  have hC := h.1.1
  have hb := Bd_of v
  unfold fX11_drift oDrift eDrift
  rw [rcv_ok h.c0, bs]
  by_cases q0 : v.toInt < 1
  · rw [if_pos (show v < (1 : Int32) by rw [I_of v]; exact lt_y (b := 1) (by omega)), if_neg (by omega), if_neg (by omega)]
    exact ⟨_, G, rfl, rfl, h, Kp.rf⟩
  rw [if_neg (show ¬ v < (1 : Int32) by rw [I_of v]; exact lt_n (b := 1) (by omega))]
  by_cases q1 : v.toInt ≤ 6
  rotate_left
  · rw [if_neg (show ¬ v ≤ (6 : Int32) by rw [I_of v]; exact le_n (b := 6) (by omega)), if_neg (by omega), if_neg (by omega)]
    exact ⟨_, G, rfl, rfl, h, Kp.rf⟩
  obtain ⟨k, k1, k2⟩ : ∃ k : Nat, k ≤ 6 ∧ v.toInt = k := ⟨v.toInt.toNat, by omega, by omega⟩
  have hx : v = I (k : Int) := lit_eq k2
  rw [if_pos (show v ≤ (6 : Int32) by rw [I_of v]; exact le_y (b := 6) (by omega)), if_pos (by omega), if_pos (by omega), k2, Int.toNat_natCast, hx]
  refine ex_sw (srch_ebF k 7 (by omega) (fun j (u : Int32 × AH) => ∃ s' G', u.1 = I j ∧ CF u.2 x G' s' ∧ StOK s' ∧ Kp x A u.2 ∧ drf k s = drf (k - j) s') (fun t => ∃ G', CF t x G' (drf k s) ∧ Kp x A t) ⟨s, G, rfl, h, hk, Kp.rf, rfl⟩ ?_ ?_ ?_)
  · rintro j ⟨u1, u2⟩ hj ⟨s', G1, e1, e2, e3, e4, e5⟩
    dsimp only at e1 e2 e4 ⊢
    subst e1
    have hC2 := e2.1.1
    rw [if_neg (le_n (by omega)), hC2.sh, bs, C_isFull hC2.s1 e2.2.1 e3.1.1, bs]
    obtain ⟨d, hd⟩ : ∃ d, k - j = d + 1 := ⟨k - j - 1, by omega⟩
    have h6 := e3.1.1
    by_cases q : (sSh s').1 = 6
    · rw [if_neg (fun z => bI0.mp z q)]
      refine Or.inr ⟨_, rfl, G1, ?_, e4⟩
      rw [e5, hd, show drf (d + 1) s' = if 6 ≤ (sSh s').1 then s' else drf d (stDr s') from rfl, if_pos (by omega)]
      exact e2
    · obtain ⟨B, C, G2, c1, c2, c3, c4⟩ := C_step e2 e3 (by omega)
      rw [if_pos (bI0.mpr q), hC2.dw, bs, hC2.df, bs, c1, bs, c2, bs]
      refine Or.inl ⟨_, rfl, stDr s', G2, ?_, c3, stDr_ok e3 (by omega), e4.tr c4, ?_⟩
      · dsimp only; rw [L_1, I_add, ← cst]
      · rw [e5, hd, show drf (d + 1) s' = if 6 ≤ (sSh s').1 then s' else drf d (stDr s') from rfl, if_neg (by omega)]
        congr 1
        omega
  · rintro ⟨u1, u2⟩ ⟨s', G1, e1, e2, e3, e4, e5⟩
    dsimp only at e1 e2 e4 ⊢
    subst e1
    refine ⟨u2, by rw [if_pos (le_y (by omega))], G1, ?_, e4⟩
    rw [e5, Nat.sub_self]
    exact e2
  · rintro t ⟨G1, e1, e2⟩
    rw [e1.1.1.sh, bs, C_scount e1.1.1.s1 e1.2.1, bs]
    exact ⟨_, rfl, G1, rfl, e1, e2⟩
end
