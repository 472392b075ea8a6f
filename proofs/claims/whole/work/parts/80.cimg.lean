/-! the class: images and undo -/
section
variable {A B C : AH} {x r w a b f : Nat} {G G' : Gm} {wd : Wrd} {s : St} {l : List Nat} {T : Nat → Prop}
theorem W_keep (h : CF A x G s) (hk : StOK s) (v : Int32) : ∃ u G', fX11_keep A (some x) v = some u ∧ u.1 = oKeep v ∧ CF u.2 x G' (eKeep s v) ∧ Kp x A u.2 := by
  have hC := h.1.1
  have hxs := hC.2.2
  have hb := Bd_of v
  unfold fX11_keep fX2_current fX6_store fX5_clear oKeep eKeep
  rw [rcv_ok h.c0, bs]
  by_cases q0 : v.toInt < 0
  · rw [if_pos (show v < (0 : Int32) by rw [I_of v]; exact lt_y (b := 0) (by omega)), if_neg (by omega), if_neg (by omega)]
    exact ⟨_, G, rfl, rfl, h, Kp.rf⟩
  rw [if_neg (show ¬ v < (0 : Int32) by rw [I_of v]; exact lt_n (b := 0) (by omega)), hC.im, bs, show aL A 16 (some (x + 10)) = some (2 : Int32) from aL_at hC.k10, bs]
  by_cases q1 : v.toInt < 2
  rotate_left
  · rw [if_neg (show ¬ v < (2 : Int32) by rw [I_of v]; exact lt_n (b := 2) (by omega)), if_neg (by omega), if_neg (by omega)]
    exact ⟨_, G, rfl, rfl, h, Kp.rf⟩
  obtain ⟨k, k1, k2⟩ : ∃ k : Nat, k < 2 ∧ v.toInt = k := ⟨v.toInt.toNat, by omega, by omega⟩
  have hx : v = I (k : Int) := lit_eq k2
  have e0 : aR A 16 (some (x + 10)) v = some (some (x + 11 + 3 * k)) := by
    rw [hx, aR_ok hC.k10.1 (by omega) (by rw [hC.k10.2]; omega) (by rw [hC.k10.2]; decide), Int.toNat_natCast, (h.2.2.2.1 k k1).1]
  obtain ⟨s1, s2, s3⟩ := hC.si k1
  obtain ⟨B, b1, b2, b3, b4⟩ := S_copy s1 hC.s1 h.2.1 hk.1.1 (by omega)
  have kB : Hk B (x + 11 + 3 * k) = 7 := by rw [(b2.2.1 _ (by omega)).1]; exact s2
  obtain ⟨C, hCe⟩ : ∃ C, C = si B 193 (x + 11 + 3 * k) (I (sSd s)) := ⟨_, rfl⟩
  have kC : Hk C (x + 11 + 3 * k) = 7 := by rw [hCe]; exact kB
  obtain ⟨D, hD⟩ : ∃ D, D = si C 194 (x + 11 + 3 * k) 1 := ⟨_, rfl⟩
  have hxB := b2.1
  have gD : Fr (fun c => c = x + 8 ∨ c = x + 11 + 3 * k ∨ c = x + 12 + 3 * k ∨ c = x + 12 + 3 * k + 1) A D := by
    rw [hD, hCe]
    have g1 : Fr (fun c => c = x + 8 ∨ c = x + 11 + 3 * k ∨ c = x + 12 + 3 * k ∨ c = x + 12 + 3 * k + 1) A B := b2.wk (fun a q _ => Or.inr (Or.inr q))
    exact (g1.wI (a := x + 11 + 3 * k) (Or.inl (Or.inr (Or.inl rfl))) (by omega)).wI (a := x + 11 + 3 * k) (Or.inl (Or.inr (Or.inl rfl))) (by show x + 11 + 3 * k < Hs B; omega)
  have hCD := hC.fr gD
  have g : Fr (fun c => c = x + 8 ∨ c = x + 11 + 3 * k ∨ c = x + 12 + 3 * k ∨ c = x + 12 + 3 * k + 1) A (si D 162 (x + 8) 0) := gD.wI (Or.inl (Or.inl rfl)) (by have := gD.1; omega)
  have hT : okT A x (fun c => c = x + 8 ∨ c = x + 11 + 3 * k ∨ c = x + 12 + 3 * k ∨ c = x + 12 + 3 * k + 1) := fun a q _ => Or.inl (by omega)
  have hq3 : gR A 7 192 (some (x + 11 + 3 * k)) = some (some (x + 12 + 3 * k)) := by rw [gR_ok s2, s3]
  rw [if_pos (show v < (2 : Int32) by rw [I_of v]; exact lt_y (b := 2) (by omega)), if_pos (by omega), if_pos (by omega), bs, e0, bs, hC.sh, bs, hC.dw, bs, rcv_ok hC.k17, bs, gI_ok hC.k17, bs, bs, h.2.2.2.2.2.2, rcv_ok s2, bs, hq3, bs, b1, bs, pI_ok kB, bs, ← hCe, pZ_1 kC, bs, ← hD, bs, hCD.hi, bs, rcv_ok hCD.k8, bs, pI_ok hCD.k8, bs, bs, k2, Int.toNat_natCast]
  obtain ⟨lt, l1, l2, l3, l4, l5, l6⟩ := h.2.2.1
  have e8 : ∀ f, Hi D f (x + 8) = Hi A f (x + 8) := fun f => by
    rw [hD, hCe]
    show Hi (si (si B 193 _ _) 194 _ _) f (x + 8) = _
    rw [show Hi (si (si B 193 (x + 11 + 3 * k) (I ↑(sSd s))) 194 (x + 11 + 3 * k) 1) f (x + 8) = Hi (si B 193 (x + 11 + 3 * k) (I ↑(sSd s))) f (x + 8) from up2_ne (fun q => by have := q.2; omega), show Hi (si B 193 (x + 11 + 3 * k) (I ↑(sSd s))) f (x + 8) = Hi B f (x + 8) from up2_ne (fun q => by have := q.2; omega), (b2.2.2.2.1 (x + 8) (Or.inl ⟨by omega, by omega⟩)).1]
  refine ⟨_, G, rfl, rfl, ⟨h.1.fr g hT, h.2.1.fr hC.s1 g hT (by omega) (by omega), ?_, fun i hi => ?_, h.2.2.2.2.1.fr hC g (by omega) (by omega), h.2.2.2.2.2.1.fr hC g (by omega) (by omega) (by omega), ?_⟩, g.kp hC (fun a a1 a2 => by omega)⟩
  · refine HO.re (lt := lt) l4 l5 (fun j hj => absurd hj (Nat.not_lt_zero j)) l1 ?_ hi_si hC g hT (by omega) (fun a ha => by omega)
    rw [hi_si_ne (by decide), e8]; exact l2
  · obtain ⟨i1, i2, i3⟩ := h.2.2.2.1 i hi
    refine ⟨by rw [(g.2.2.2.1 (x + 10) (Or.inl ⟨by omega, by omega⟩)).2.2.2.2]; exact i1, ?_⟩
    show Hi _ 194 (x + 11 + 3 * i) = bI ((if i = k then true else sKe s i) = true) ∧ ((if i = k then true else sKe s i) = true → SHo _ x G (x + 12 + 3 * i) (if i = k then sSh s else sIm s i) ∧ Hi _ 193 (x + 11 + 3 * i) = I ((if i = k then sSd s else sIs s i : Nat) : Int))
    by_cases z : i = k
    · rw [if_pos z, if_pos z, if_pos z, z]
      have f1 : Hi (si D 162 (x + 8) 0) 194 (x + 11 + 3 * k) = 1 := by rw [hi_si_ne (by decide), hD]; exact hi_si
      have f2 : Hi (si D 162 (x + 8) 0) 193 (x + 11 + 3 * k) = I (sSd s) := by rw [hi_si_ne (by decide), hD, hi_si_ne (by decide), hCe]; exact hi_si
      refine ⟨by rw [f1]; exact (bI1.mpr rfl).symm, fun _ => ⟨S_copied h.2.1 g hT ?_ (fun t ht => ?_), f2⟩⟩
      · rw [hi_si_ne (by decide), hD, hi_si_ne (by decide), hCe, hi_si_ne (by decide)]; exact b3
      · rw [show Hq (si D 162 (x + 8) 0) = Hq B by rw [hD, hCe]; rfl]; exact b4 t ht
    · rw [if_neg z, if_neg z, if_neg z]
      have e := g.2.2.2.1 (x + 11 + 3 * i) (Or.inl ⟨by omega, by omega⟩)
      exact ⟨by rw [e.1]; exact i2, fun y => ⟨(i3 y).1.fr (hC.si hi).1 g hT (by omega) (by omega), by rw [e.1]; exact (i3 y).2⟩⟩
  · rw [(g.2.2.2.1 (x + 17) (Or.inl ⟨by omega, by omega⟩)).1]; exact h.2.2.2.2.2.2
theorem W_goBack (h : CF A x G s) (hk : StOK s) (v : Int32) : ∃ u G', fX11_goBack A (some x) v = some u ∧ u.1 = oBack s v ∧ CF u.2 x G' (eBack s v) ∧ Kp x A u.2 := by
  have hC := h.1.1
  have hxs := hC.2.2
  have hb := Bd_of v
  unfold fX11_goBack fX6_isKept fX6_shelf fX6_seedThen fX2_restart fX5_clear oBack eBack
  rw [rcv_ok h.c0, bs]
  by_cases q0 : v.toInt < 0
  · rw [if_pos (show v < (0 : Int32) by rw [I_of v]; exact lt_y (b := 0) (by omega)), if_neg (by omega), if_neg (by omega)]
    exact ⟨_, G, rfl, rfl, h, Kp.rf⟩
  rw [if_neg (show ¬ v < (0 : Int32) by rw [I_of v]; exact lt_n (b := 0) (by omega)), hC.im, bs, show aL A 16 (some (x + 10)) = some (2 : Int32) from aL_at hC.k10, bs]
  by_cases q1 : v.toInt < 2
  rotate_left
  · rw [if_neg (show ¬ v < (2 : Int32) by rw [I_of v]; exact lt_n (b := 2) (by omega)), if_neg (by omega), if_neg (by omega)]
    exact ⟨_, G, rfl, rfl, h, Kp.rf⟩
  obtain ⟨k, k1, k2⟩ : ∃ k : Nat, k < 2 ∧ v.toInt = k := ⟨v.toInt.toNat, by omega, by omega⟩
  have hx : v = I (k : Int) := lit_eq k2
  have e0 : ∀ B, CI B x → Hq B (x + 10) k = some (x + 11 + 3 * k) → aR B 16 (some (x + 10)) v = some (some (x + 11 + 3 * k)) := fun B hB e => by
    rw [hx, aR_ok hB.k10.1 (by omega) (by rw [hB.k10.2]; omega) (by rw [hB.k10.2]; decide), Int.toNat_natCast, e]
  obtain ⟨s1, s2, s3⟩ := hC.si k1
  obtain ⟨i1, i2, i3⟩ := h.2.2.2.1 k k1
  rw [if_pos (show v < (2 : Int32) by rw [I_of v]; exact lt_y (b := 2) (by omega)), if_pos (by omega), bs, e0 A hC i1, bs, rcv_ok s2, bs, gI_ok s2, bs, i2, rz_bI, bs, bs, k2, Int.toNat_natCast]
  by_cases q3 : sKe s k = true
  rotate_left
  · rw [if_pos (bI0.mpr q3), if_neg q3, if_neg (fun z => q3 z.2)]
    exact ⟨_, G, rfl, rfl, h, Kp.rf⟩
  obtain ⟨i4, i5⟩ := i3 q3
  have ok := hk.2.2.1 k k1 q3
  obtain ⟨B, b1, b2, b3, b4⟩ := S_copy hC.s1 s1 i4 ok.1.1 (by omega)
  have hCB := hC.fr b2
  have hxB := b2.1
  have e10 := (b2.2.2.2.1 (x + 10) (Or.inl ⟨by omega, by omega⟩)).2.2.2.2
  have e11 := (b2.2.2.2.1 (x + 11 + 3 * k) (Or.inl ⟨by omega, by omega⟩)).1
  obtain ⟨C, hCe⟩ : ∃ C, C = si B 64 (x + 17) (I (sIs s k)) := ⟨_, rfl⟩
  have gC : Fr (fun c => c = x + 1 ∨ c = x + 2 ∨ c = x + 8 ∨ c = x + 17) A C := by
    rw [hCe]
    exact (b2.wk (fun a q _ => by omega)).wI (Or.inl (by omega)) (by omega)
  have hCC := hC.fr gC
  have g : Fr (fun c => c = x + 1 ∨ c = x + 2 ∨ c = x + 8 ∨ c = x + 17) A (si C 162 (x + 8) 0) := gC.wI (Or.inl (by omega)) (by have := gC.1; omega)
  have hT : okT A x (fun c => c = x + 1 ∨ c = x + 2 ∨ c = x + 8 ∨ c = x + 17) := fun a q _ => Or.inl (by omega)
  have hq3 : gR A 7 192 (some (x + 11 + 3 * k)) = some (some (x + 12 + 3 * k)) := by rw [gR_ok s2, s3]
  have s2B : Hk B (x + 11 + 3 * k) = 7 := (hCB.si k1).2.1
  rw [if_neg (fun z => bI0.mp z q3), if_pos q3, if_pos (show (0 ≤ (k : Int) ∧ (k : Int) ≤ 1) ∧ sKe s k = true from ⟨by omega, q3⟩), hC.sh, bs, bs, e0 A hC i1, bs, rcv_ok s2, bs, hq3, bs, bs, b1, bs, hCB.dw, bs, hCB.im, bs, e0 B hCB (by rw [e10]; exact i1), bs, rcv_ok s2B, bs, gI_ok s2B, bs, bs, e11, i5, rcv_ok hCB.k17, bs, pI_ok hCB.k17, bs, ← hCe, bs, hCC.hi, bs, rcv_ok hCC.k8, bs, pI_ok hCC.k8, bs, bs]
  obtain ⟨lt, l1, l2, l3, l4, l5, l6⟩ := h.2.2.1
  refine ⟨_, G, rfl, rfl, ⟨h.1.fr g hT, S_copied i4 g hT ?_ (fun t ht => ?_), ?_, h.2.2.2.1.fr hC g hT (fun a a1 a2 => by omega), h.2.2.2.2.1.fr hC g (by omega) (by omega), h.2.2.2.2.2.1.fr hC g (by omega) (by omega) (by omega), ?_⟩, g.kp hC (fun a a1 a2 => by omega)⟩
  · rw [hi_si_ne (by decide), hCe, hi_si_ne (by decide)]; exact b3
  · rw [show Hq (si C 162 (x + 8) 0) = Hq B by rw [hCe]; rfl]; exact b4 t ht
  · refine HO.re (lt := lt) l4 l5 (fun j hj => absurd hj (Nat.not_lt_zero j)) l1 ?_ hi_si hC g hT (by omega) (fun a ha => by omega)
    rw [hi_si_ne (by decide), hCe, hi_si_ne (by decide), (b2.2.2.2.1 (x + 8) (Or.inl ⟨by omega, by omega⟩)).1]; exact l2
  · dsimp only
    rw [hi_si_ne (by decide), hCe, hi_si]; rfl
theorem W_undo (h : CF A x G s) (hk : StOK s) (v : Int32) : ∃ u G', fX11_undo A (some x) v = some u ∧ u.1 = oUndo s v ∧ CF u.2 x G' (eUndo s v) ∧ Kp x A u.2 := by
  have hC := h.1.1
  have hxs := hC.2.2
  have hb := Bd_of v
  have hU := hk.2.1
  unfold fX11_undo fX5_restore oUndo
  rw [rcv_ok h.c0, bs]
  by_cases q0 : v.toInt < 1
  · rw [if_pos (show v < (1 : Int32) by rw [I_of v]; exact lt_y (b := 1) (by omega)), if_neg (by omega)]
    unfold eUndo
    rw [if_neg (by omega)]
    exact ⟨_, G, rfl, rfl, h, Kp.rf⟩
  rw [if_neg (show ¬ v < (1 : Int32) by rw [I_of v]; exact lt_n (b := 1) (by omega))]
  by_cases q1 : v.toInt ≤ 16
  rotate_left
  · rw [if_neg (show ¬ v ≤ (16 : Int32) by rw [I_of v]; exact le_n (b := 16) (by omega)), if_neg (by omega)]
    unfold eUndo
    rw [if_neg (by omega)]
    exact ⟨_, G, rfl, rfl, h, Kp.rf⟩
  obtain ⟨lt, l1, l2, l3, l4, l5, l6⟩ := h.2.2.1
  rw [if_pos (show v ≤ (16 : Int32) by rw [I_of v]; exact le_y (b := 16) (by omega)), if_pos (show 1 ≤ v.toInt ∧ v.toInt ≤ 16 by omega), hC.hi, bs, hC.sh, bs, rcv_ok hC.k8, bs, if_neg (show ¬ v < (1 : Int32) by rw [I_of v]; exact lt_n (b := 1) (by omega)), gI_ok hC.k8, bs, l3]
  have hU1 := hU.1
  by_cases q2 : v.toInt ≤ sU s
  rotate_left
  · rw [if_neg (show ¬ v ≤ I (sU s : Int) by rw [I_of v]; exact le_n (by omega)), if_neg q2, bs, if_pos rfl]
    unfold eUndo
    rw [if_neg (by omega)]
    exact ⟨_, G, rfl, rfl, h, Kp.rf⟩
  obtain ⟨k, k1, k2⟩ : ∃ k : Nat, (1 ≤ k ∧ k ≤ 16 ∧ k ≤ sU s) ∧ v.toInt = k := ⟨v.toInt.toNat, by omega, by omega⟩
  have hx : v = I (k : Int) := lit_eq k2
  obtain ⟨hh, z1, z2⟩ := l6 (sU s - k) (by omega)
  rw [show lt + 17 + (sU s - k) - sU s = lt + 17 - k by omega] at z1
  have fm1 : fJ9_floorMod_7cf53 A ((I (lt : Int) - v) + 1) 16 = some (I (((lt + 17 - k) % 16 : Nat) : Int)) := by
    have := flm A (k := lt + 17 - k) (by omega)
    rw [hx, L_1, I_sub, I_add, show (lt : Int) - k + 1 = ((lt + 17 - k : Nat) : Int) - 16 by omega]
    exact this
  have fm2 : ∀ A, fJ9_floorMod_7cf53 A (I (lt : Int) - v) 16 = some (I (((lt + 16 - k) % 16 : Nat) : Int)) := fun A => by
    have := flm A (k := lt + 16 - k) (by omega)
    rw [hx, I_sub, show (lt : Int) - k = ((lt + 16 - k : Nat) : Int) - 16 by omega]
    exact this
  have rd : aR A 17 (some (x + 9)) (I (((lt + 17 - k) % 16 : Nat) : Int)) = some (some hh) := by
    rw [aR_ok hC.k9.1 (by omega) (by rw [hC.k9.2]; omega) (by rw [hC.k9.2]; decide), Int.toNat_natCast, z1]
  obtain ⟨z3, z4⟩ : x + 34 ≤ hh ∧ ShL A hh := by
    rcases l4 ((lt + 17 - k) % 16) (by omega) with z | ⟨h', y1, y2, y3⟩
    · rw [z] at z1; cases z1
    · rw [y1] at z1
      have := Option.some.inj z1
      subst this
      exact ⟨y2, y3⟩
  obtain ⟨B, b1, b2, b3, b4⟩ := S_copy hC.s1 z4 z2 (hU.2 _ (by omega)).1 (by omega)
  have hCB := hC.fr b2
  have hxB := b2.1
  have e8 := (b2.2.2.2.1 (x + 8) (Or.inl ⟨by omega, by omega⟩)).1
  obtain ⟨C, hCe⟩ : ∃ C, C = si B 161 (x + 8) (I (((lt + 16 - k) % 16 : Nat) : Int)) := ⟨_, rfl⟩
  have gC : Fr (fun c => c = x + 1 ∨ c = x + 2 ∨ c = x + 8) A C := by
    rw [hCe]
    exact (b2.wk (fun a q _ => by omega)).wI (Or.inl (by omega)) (by omega)
  have hCC := hC.fr gC
  have e162 : Hi C 162 (x + 8) = I (sU s : Int) := by rw [hCe, hi_si_ne (by decide), e8]; exact l3
  have g : Fr (fun c => c = x + 1 ∨ c = x + 2 ∨ c = x + 8) A (si C 162 (x + 8) (I ((sU s - k : Nat) : Int))) := gC.wI (Or.inl (by omega)) (by have := gC.1; omega)
  have hT : okT A x (fun c => c = x + 1 ∨ c = x + 2 ∨ c = x + 8) := fun a q _ => Or.inl (by omega)
  have hC' := hC.fr g
  have e1 : I (sU s : Int) - v = I ((sU s - k : Nat) : Int) := by rw [hx, I_sub]; congr 1; omega
  rw [if_pos (show v ≤ I (sU s : Int) by rw [I_of v]; exact le_y (by omega)), if_pos q2, hC.hi2, bs, gI_ok hC.k8, bs, l2, fm1, bs, rd, bs, if_neg some_ne, b1, bs, gI_ok hCB.k8, bs, e8, l2, fm2 B, bs, pI_ok hCB.k8, bs, ← hCe, gI_ok hCC.k8, bs, e162, e1, pI_ok hCC.k8, bs, bs, if_neg (show ¬ (1 : Int32) = 0 by decide), hC'.sh, bs]
  have hsh : SHo (si C 162 (x + 8) (I ((sU s - k : Nat) : Int))) x G (x + 1) (sH s (sU s - k)) := by
    refine S_copied z2 g hT ?_ (fun t ht => ?_)
    · rw [hi_si_ne (by decide), hCe, hi_si_ne (by decide)]; exact b3
    · rw [show Hq (si C 162 (x + 8) (I ((sU s - k : Nat) : Int))) = Hq B by rw [hCe]; rfl]; exact b4 t ht
  have eu : eUndo s v = (sH s (sU s - k), (sU s - k, sH s), s.2.2) := by
    unfold eUndo
    rw [if_pos (by omega), k2, Int.toNat_natCast]
  rw [eu, C_scount hC'.s1 hsh, bs]
  refine ⟨_, G, rfl, rfl, ⟨h.1.fr g hT, hsh, ?_, h.2.2.2.1.fr hC g hT (fun a a1 a2 => by omega), h.2.2.2.2.1.fr hC g (by omega) (by omega), h.2.2.2.2.2.1.fr hC g (by omega) (by omega) (by omega), ?_⟩, g.kp hC (fun a a1 a2 => by omega)⟩
  · refine HO.re (lt := (lt + 16 - k) % 16) (u := sU s - k) (H := sH s) l4 l5 (fun j hj => ?_) (by omega) ?_ hi_si hC g hT (by omega) (fun a ha => by omega)
    · have := l6 j (by omega)
      rw [show ((lt + 16 - k) % 16 + 17 + j - (sU s - k)) % 16 = (lt + 17 + j - sU s) % 16 by omega]
      exact this
    · rw [hi_si_ne (by decide), hCe]; exact hi_si
  · rw [(g.2.2.2.1 (x + 17) (Or.inl ⟨by omega, by omega⟩)).1]; exact h.2.2.2.2.2.2
end
