/-! the class's faces: made, kept, asked -/
theorem hr_sr {A : AH} {f a : Nat} {v : Option Nat} : Hr (sr A f a v) f a = v := up2_eq
theorem hr_sr_ne {A : AH} {f a g b : Nat} {v : Option Nat} (h : ¬ (g = f ∧ b = a)) : Hr (sr A f a v) g b = Hr A g b := up2_ne h
/-- a new array, held by a field -/
theorem mkA (B : AH) (kd f fld len : Nat) : ∃ C, C = sr (nw B kd len) fld f (some (Hs B)) ∧ (Hk C (Hs B) = kd ∧ Hn C (Hs B) = len) ∧ (∀ a, a ≠ Hs B → Hk C a = Hk B a ∧ Hn C a = Hn B a) ∧ Hr C fld f = some (Hs B) ∧ (∀ g a, ¬ (g = fld ∧ a = f) → Hr C g a = Hr B g a) ∧ Hi C = Hi B ∧ He C = He B ∧ Hs C = Hs B + 1 ∧ Hj C = Hj B :=
  ⟨_, rfl, ⟨if_pos rfl, if_pos rfl⟩, fun a ha => ⟨if_neg ha, if_neg ha⟩, hr_sr, fun g a h => hr_sr_ne h, rfl, rfl, rfl, rfl⟩
def FO (A : AH) (x f r N : Nat) (L P : Nat → Nat) (sg : Nat) : Prop := FL A x f r N (faces N L P sg) ∧ IsLab (4 * N) (fR N L P sg (2 * N)) (fl N L P sg) ∧ (∀ c, c < 4 * N → He A (f + 1) c = I (fno (fl N L P sg) c)) ∧ (∀ g, g < faces N L P sg → He A (f + 2) g = I (hit (fno (fl N L P sg)) g (4 * N))) ∧ (∀ i, i < max 1 (2 * N) → He A (f + 3) i = I (lfx N L P sg i) ∧ He A (f + 4) i = I (rfx N L P sg i)) ∧ (faces N L P sg = N + 2 → ∀ g, g < faces N L P sg → He A (f + 5) g = ixF N L P sg g)
section
variable {A B : AH} {x f r N K w : Nat} {L P Q : Nat → Nat} {sg : Nat} {S : Nat → Prop}
theorem Hp.mv {n : Nat} {R : List (Nat × Nat)} (h : Hp A x n R) (h1 : Hi B 129 (x + 20) = Hi A 129 (x + 20)) (h2 : Hi B 130 (x + 20) = Hi A 130 (x + 20)) (h3 : He B (x + 21) = He A (x + 21)) : Hp B x n R := by
  unfold Hp
  rw [h1, h2, h3]
  exact h
theorem FO.fr (h : FO A x f r N L P sg) (g : Fr S A B) (hS : ∀ a, f ≤ a → a ≤ f + 5 → ¬ S a) : FO B x f r N L P sg := by
  obtain ⟨h1, h2, h3, h4, h5, h6⟩ := h
  have ha := h1.a
  have e := fun j (hj : j ≤ 5) => (g.2.2.2.1 (f + j) (Or.inl ⟨by omega, hS _ (by omega) (by omega)⟩)).2.2.2.1
  exact ⟨h1.fr g (hS f (by omega) (by omega)), h2, fun c hc => by rw [e 1 (by omega)]; exact h3 c hc, fun c hc => by rw [e 2 (by omega)]; exact h4 c hc, fun c hc => by rw [e 3 (by omega), e 4 (by omega)]; exact h5 c hc, fun q c hc => by rw [e 5 (by omega)]; exact h6 q c hc⟩
theorem FO.fh (h : FO A x f r N L P sg) (g : Fr (hS x) A B) : FO B x f r N L P sg := h.fr g (fun a h1 h2 q => by have := h.1.a; rcases q with q | q <;> omega)
theorem fno_K (hi : IsLab (4 * N) (fR N L P sg (2 * N)) (fl N L P sg)) {c : Nat} (hc : c < 4 * N) : fno (fl N L P sg) c < faces N L P sg := by
  have e : faces N L P sg = roots (fl N L P sg) (4 * N) := by
    unfold faces
    rw [if_neg (by omega), ← comps_of hi]
  rw [e]
  exact fno_lt hi hc
theorem faces_pos (hi : IsLab (4 * N) (fR N L P sg (2 * N)) (fl N L P sg)) : 0 < faces N L P sg := by
  by_cases q : N = 0
  · unfold faces; rw [if_pos q]; omega
  · have := fno_K hi (c := 0) (by omega); omega
theorem ixF_eq (hi : IsLab (4 * N) (fR N L P sg (2 * N)) (fl N L P sg)) (g : Nat) (hg : g < faces N L P sg) : (itp (lfx N L P sg) (rfx N L P sg) (max 1 (2 * N)) (faces N L P sg) is0).1 g = ixF N L P sg g := by
  by_cases q : N = 0
  · have e1 : lfx N L P sg = fun _ => 0 := by funext i; unfold lfx; rw [if_pos q]
    have e2 : rfx N L P sg = fun _ => 1 := by funext i; unfold rfx; rw [if_pos q]
    have e3 : faces N L P sg = 2 := by unfold faces; rw [if_pos q]
    have e4 : max 1 (2 * N) = 1 := by omega
    rw [e3] at hg
    rw [e1, e2, e3, e4]
    unfold ixF
    rw [if_pos q]
    by_cases z : g = 0
    · subst z; decide
    · have : g = 1 := by omega
      subst this; decide
  · have e1 : lfx N L P sg = lfc N L P sg := by funext i; unfold lfx; rw [if_neg q]
    have e2 : rfx N L P sg = rfc N L P sg := by funext i; unfold rfx; rw [if_neg q]
    rw [e1, e2, show max 1 (2 * N) = 2 * N by omega]
    unfold ixF
    rw [if_neg q]
theorem C_facesInit (hC : CI A x) (hcl : Cl A) (hR : RD A x r N L P Q) (hV : VW N L P Q) (hsg : sg < 2147483648) : ∃ A', fX3_init (nw A 4 0) (some (Hs A)) (some r) (I sg) (some (x + 20)) = some A' ∧ Fr (hS x) A A' ∧ FO A' x (Hs A) r N L P sg := by
  have hN := hV.1
  have hrA := hR.a
  obtain ⟨f, hf⟩ : ∃ f, f = Hs A := ⟨_, rfl⟩
  rw [← hf]
  have g0 : Fr (hS x) A (nw A 4 0) := Fr.rf.nW (by decide)
  have s0 : Hs (nw A 4 0) = f + 1 := by rw [hf]; rfl
  have k0 : Hk (nw A 4 0) f = 4 := by rw [hf]; exact if_pos rfl
  unfold fX3_init
  rw [rcv_ok k0, bs, pR_ok k0, bs]
  have g1 : Fr (hS x) A (sr (nw A 4 0) 96 f (some r)) := g0.wR (Or.inr (by omega)) (by omega)
  have r1 : Hr (sr (nw A 4 0) 96 f (some r)) 96 f = some r := hr_sr
  have s1 : Hs (sr (nw A 4 0) 96 f (some r)) = f + 1 := s0
  have k1 : Hk (sr (nw A 4 0) 96 f (some r)) f = 4 := k0
  generalize sr (nw A 4 0) 96 f (some r) = A1 at g1 r1 s1 k1 ⊢
  obtain ⟨y, y1, y2, y3, y4, y5⟩ := C_countIn2 (hC.fr g1) (hR.fh g1) hV hsg
  rw [y1, bs, y2]
  have g2 : Fr (hS x) A y.2 := g1.tr' y3
  have e2 := y3.2.2.2.1 f (Or.inl ⟨by omega, fun q => by rcases q with q | q <;> omega⟩)
  have r2 : Hr y.2 96 f = some r := by rw [e2.2.2.1]; exact r1
  have s2 : Hs y.2 = f + 1 := by rw [y5, s1]
  have k2 : Hk y.2 f = 4 := by rw [(y3.2.1 f (by omega)).1]; exact k1
  have cl2 := hcl.fr g2
  generalize y.2 = A2 at y4 g2 r2 s2 k2 cl2 ⊢
  obtain ⟨K, hKe⟩ : ∃ K, K = faces N L P sg := ⟨_, rfl⟩
  have hK32 : K ≤ 32 := by rw [hKe]; exact faces_32 N L P sg hN
  rw [← hKe]
  rw [pI_ok k2, bs]
  have g3 : Fr (hS x) A (si A2 97 f (I K)) := g2.wI (Or.inr (by omega)) (by omega)
  have i3 : Hi (si A2 97 f (I K)) 97 f = I K := hi_si
  have r3 : Hr (si A2 97 f (I K)) 96 f = some r := r2
  have s3 : Hs (si A2 97 f (I K)) = f + 1 := s2
  have k3 : Hk (si A2 97 f (I K)) f = 4 := k2
  have h3 : He (si A2 97 f (I K)) = He A2 := rfl
  have y4 : Hp (si A2 97 f (I K)) x (4 * N) (fR N L P sg (2 * N)) := y4.mv (hi_si_ne (by decide)) (hi_si_ne (by decide)) rfl
  generalize si A2 97 f (I K) = A3 at g3 i3 r3 s3 k3 h3 y4 ⊢
  have en : (4 : Int32) * I (N : Int) = I ((4 * N : Nat) : Int) := by rw [L_4, I_mul]; congr 1
  rw [C_lc (hR.fh g3), bs, en, nA_ok (by omega) (by omega) (by omega), bs, Int.toNat_natCast, pR_ok (show Hk (nw A3 14 (4 * N)) f = 4 from (if_neg (by omega)).trans k3), bs]
  obtain ⟨B1, b1, b1k, b1o, b1r, b1n, b1i, b1e, b1s, -⟩ := mkA A3 14 f 98 (4 * N)
  have gb1 : Fr (hS x) A B1 := by rw [b1]; exact (g3.nW (by decide)).wR (Or.inr (by omega)) (by show f < Hs A3 + 1; omega)
  have kb1 : Hk B1 f = 4 := by rw [(b1o f (by omega)).1]; exact k3
  rw [← b1, gI_ok kb1, bs, b1i, i3, nA_ok (by omega) (by omega) (by omega), bs, Int.toNat_natCast, pR_ok (show Hk (nw B1 14 K) f = 4 from (if_neg (by omega)).trans kb1), bs]
  obtain ⟨B2, b2, b2k, b2o, b2r, b2n, b2i, b2e, b2s, -⟩ := mkA B1 14 f 99 K
  have gb2 : Fr (hS x) A B2 := by rw [b2]; exact (gb1.nW (by decide)).wR (Or.inr (by omega)) (by show f < Hs B1 + 1; omega)
  have kb2 : Hk B2 f = 4 := by rw [(b2o f (by omega)).1]; exact kb1
  rw [← b2, C_stepCount (hR.fh gb2) hN, bs, nA_ok (by omega) (by omega) (by omega), bs, Int.toNat_natCast, pR_ok (show Hk (nw B2 14 (max 1 (2 * N))) f = 4 from (if_neg (by omega)).trans kb2), bs]
  obtain ⟨B3, b3, b3k, b3o, b3r, b3n, b3i, b3e, b3s, -⟩ := mkA B2 14 f 100 (max 1 (2 * N))
  have gb3 : Fr (hS x) A B3 := by rw [b3]; exact (gb2.nW (by decide)).wR (Or.inr (by omega)) (by show f < Hs B2 + 1; omega)
  have kb3 : Hk B3 f = 4 := by rw [(b3o f (by omega)).1]; exact kb2
  rw [← b3, C_stepCount (hR.fh gb3) hN, bs, nA_ok (by omega) (by omega) (by omega), bs, Int.toNat_natCast, pR_ok (show Hk (nw B3 14 (max 1 (2 * N))) f = 4 from (if_neg (by omega)).trans kb3), bs]
  obtain ⟨B4, b4, b4k, b4o, b4r, b4n, b4i, b4e, b4s, -⟩ := mkA B3 14 f 101 (max 1 (2 * N))
  have gb4 : Fr (hS x) A B4 := by rw [b4]; exact (gb3.nW (by decide)).wR (Or.inr (by omega)) (by show f < Hs B3 + 1; omega)
  have kb4 : Hk B4 f = 4 := by rw [(b4o f (by omega)).1]; exact kb3
  have i4 : Hi B4 97 f = I K := by rw [b4i, b3i, b2i, b1i]; exact i3
  rw [← b4, gI_ok kb4, bs, i4, nA_ok (by omega) (by omega) (by omega), bs, Int.toNat_natCast, pR_ok (show Hk (nw B4 14 K) f = 4 from (if_neg (by omega)).trans kb4), bs]
  obtain ⟨B5, b5, b5k, b5o, b5r, b5n, b5i, b5e, b5s, -⟩ := mkA B4 14 f 102 K
  have gb5 : Fr (hS x) A B5 := by rw [b5]; exact (gb4.nW (by decide)).wR (Or.inr (by omega)) (by show f < Hs B4 + 1; omega)
  have kb5 : Hk B5 f = 4 := by rw [(b5o f (by omega)).1]; exact kb4
  have i5 : Hi B5 97 f = I K := by rw [b5i]; exact i4
  have hx23 : (if I (K : Int) = I (N : Int) + 2 then (1 : Int32) else 0) = bI (K = N + 2) := by
    rw [ite_bI]; exact bIc (by rw [L_2, I_add, I_eq (by omega) (by omega)]; omega)
  rw [← b5, gI_ok kb5, bs, i5, C_lc (hR.fh gb5), bs, jp1_eq, hx23, pZ_bI kb5, bs]
  have t1 : Hs A3 = f + 1 := s3
  have t2 : Hs B1 = f + 2 := by rw [b1s, t1]
  have t3 : Hs B2 = f + 3 := by rw [b2s, t2]
  have t4 : Hs B3 = f + 4 := by rw [b3s, t3]
  have t5 : Hs B4 = f + 5 := by rw [b4s, t4]
  have t6 : Hs B5 = f + 6 := by rw [b5s, t5]
  rw [t1] at b1k b1o b1r
  rw [t2] at b2k b2o b2r
  rw [t3] at b3k b3o b3r
  rw [t4] at b4k b4o b4r
  rw [t5] at b5k b5o b5r
  have hFL : FL (si B5 103 f (bI (K = N + 2))) x f r N K := by
    refine ⟨⟨by omega, by show f + 5 < Hs B5; omega⟩, kb5, ?_, by rw [hi_si_ne (by decide)]; exact i5, ⟨?_, ?_, ?_, ?_, ?_⟩, hi_si, ?_, ?_, ?_, ?_, b5k⟩
    · show Hr B5 96 f = _
      rw [b5n _ _ (by omega), b4n _ _ (by omega), b3n _ _ (by omega), b2n _ _ (by omega), b1n _ _ (by omega)]; exact r3
    · show Hr B5 98 f = _
      rw [b5n _ _ (by omega), b4n _ _ (by omega), b3n _ _ (by omega), b2n _ _ (by omega)]; exact b1r
    · show Hr B5 99 f = _
      rw [b5n _ _ (by omega), b4n _ _ (by omega), b3n _ _ (by omega)]; exact b2r
    · show Hr B5 100 f = _
      rw [b5n _ _ (by omega), b4n _ _ (by omega)]; exact b3r
    · show Hr B5 101 f = _
      rw [b5n _ _ (by omega)]; exact b4r
    · exact b5r
    · show Hk B5 (f + 1) = 14 ∧ Hn B5 (f + 1) = _
      rw [(b5o _ (by omega)).1, (b5o _ (by omega)).2, (b4o _ (by omega)).1, (b4o _ (by omega)).2, (b3o _ (by omega)).1, (b3o _ (by omega)).2, (b2o _ (by omega)).1, (b2o _ (by omega)).2]; exact b1k
    · show Hk B5 (f + 2) = 14 ∧ Hn B5 (f + 2) = _
      rw [(b5o _ (by omega)).1, (b5o _ (by omega)).2, (b4o _ (by omega)).1, (b4o _ (by omega)).2, (b3o _ (by omega)).1, (b3o _ (by omega)).2]; exact b2k
    · show Hk B5 (f + 3) = 14 ∧ Hn B5 (f + 3) = _
      rw [(b5o _ (by omega)).1, (b5o _ (by omega)).2, (b4o _ (by omega)).1, (b4o _ (by omega)).2]; exact b3k
    · show Hk B5 (f + 4) = 14 ∧ Hn B5 (f + 4) = _
      rw [(b5o _ (by omega)).1, (b5o _ (by omega)).2]; exact b4k
  have g6 : Fr (hS x) A (si B5 103 f (bI (K = N + 2))) := gb5.wI (Or.inr (by omega)) (by omega)
  have e6 : He (si B5 103 f (bI (K = N + 2))) = He A2 := by rw [he_si, b5e, b4e, b3e, b2e, b1e, h3]
  have p6 : Hp (si B5 103 f (bI (K = N + 2))) x (4 * N) (fR N L P sg (2 * N)) := y4.mv (by rw [hi_si_ne (by decide), b5i, b4i, b3i, b2i, b1i]) (by rw [hi_si_ne (by decide), b5i, b4i, b3i, b2i, b1i]) (by rw [he_si, b5e, b4e, b3e, b2e, b1e])
  have z6 : ∀ j g, 1 ≤ j → He (si B5 103 f (bI (K = N + 2))) (f + j) g = 0 := fun j g hj => by rw [e6]; exact (cl2 (f + j) (by omega)).2.2.2.1 g
  have hs6 : Hs (si B5 103 f (bI (K = N + 2))) = f + 6 := t6
  generalize si B5 103 f (bI (K = N + 2)) = C at hFL g6 e6 p6 z6 hs6 ⊢
  have hlab := p6.lab
  have hlabe : theLab (4 * N) (fR N L P sg (2 * N)) = fl N L P sg := rfl
  obtain ⟨D, d1, d2, d3, d4, d5⟩ := C_numberCorners (hC.fr g6) hFL hN hK32 p6 (fun c hc => by rw [hlabe, hKe]; exact fno_K hlab hc) (fun g _ => z6 2 g (by omega))
  rw [hlabe] at d3 d4
  have gD : Fr (hS x) A D := g6.tr d2 (fun a q1 q2 => by unfold aS at q1; omega)
  have hFD := hFL.fr d2 (by unfold aS; omega)
  have hRD := hR.fh gD
  obtain ⟨E, x1, x2, x3, x4, x5⟩ := C_findSides hFD hRD hV (by omega) hsg d3 (fun _ => by rw [d5 _ (by omega)]; exact z6 3 0 (by omega))
  have gE : Fr (hS x) A E := gD.tr x2 (fun a q1 q2 => by unfold aS at q1; omega)
  have hFE := hFD.fr x2 (by unfold aS; omega)
  have c1 : ∀ c, c < 4 * N → He E (f + 1) c = I (fno (fl N L P sg) c) := fun c hc => by rw [x5 _ (by omega) (by omega)]; exact d3 c hc
  have c2 : ∀ g, g < K → He E (f + 2) g = I (hit (fno (fl N L P sg)) g (4 * N)) := fun c hc => by rw [x5 _ (by omega) (by omega)]; exact d4 c hc
  have c3 : ∀ i, i < max 1 (2 * N) → He E (f + 3) i = I (lfx N L P sg i) ∧ He E (f + 4) i = I (rfx N L P sg i) := fun i hi => by
    unfold lfx rfx
    by_cases q : N = 0
    · have : i = 0 := by omega
      subst this
      rw [if_pos q, if_pos q]; exact x4 q
    · rw [if_neg q, if_neg q]; exact x3 i (by omega)
  rw [d1, bs, x1, bs, hFE.pl, bs]
  by_cases q : K = N + 2
  · rw [if_neg (fun z => bI0.mp z q)]
    have hb : ∀ i, i < max 1 (2 * N) → lfx N L P sg i < K ∧ rfx N L P sg i < K := fun i hi => by
      unfold lfx rfx
      by_cases z : N = 0
      · rw [if_pos z, if_pos z]; omega
      · rw [if_neg z, if_neg z, hKe]; exact lrf_lt hV hlab (by omega)
    obtain ⟨G, v1, v2, v3, v4⟩ := C_findIndexes hFE hK32 (by omega) hN (hcl.fr gE) (fun i hi => ⟨(c3 i hi).1, (c3 i hi).2, hb i hi⟩) (fun g _ => by rw [x5 _ (by omega) (by omega), d5 _ (by omega)]; exact z6 5 g (by omega))
    rw [v1, bs]
    have gG : Fr (hS x) A G := gE.tr v2 (fun a q1 q2 => by unfold aS at q1; omega)
    have hFG := hFE.fr v2 (by unfold aS; omega)
    have haE := hFE.a
    refine ⟨G, rfl, gG, ?_⟩
    unfold FO
    rw [← hKe]
    refine ⟨hFG, hlab, fun c hc => by rw [v4 _ (by omega) (by omega)]; exact c1 c hc, fun c hc => by rw [v4 _ (by omega) (by omega)]; exact c2 c hc, fun c hc => by rw [v4 _ (by omega) (by omega), v4 _ (by omega) (by omega)]; exact c3 c hc, fun _ g hg => ?_⟩
    rw [v3 g hg, hKe]
    exact ixF_eq hlab g (by omega)
  · rw [if_pos (bI0.mpr q)]
    refine ⟨E, rfl, gE, ?_⟩
    unfold FO
    rw [← hKe]
    exact ⟨hFE, hlab, c1, c2, c3, fun z => absurd z q⟩
theorem C_faces (hC : CI A x) (hcl : Cl A) (hR : RD A x r N L P Q) (hV : VW N L P Q) (hsg : sg < 2147483648) (hw : Hk A w = 11) (hwl : w < Hs A) (hx : x + 34 ≤ w) (h0 : Hr A 320 w = some r) (h1 : Hi A 321 w = I sg) (h2 : Hr A 322 w = none ∨ ∃ f, Hr A 322 w = some f ∧ FO A x f r N L P sg) : ∃ f B, fX10_faces A (some w) (some (x + 20)) = some (some f, B) ∧ FO B x f r N L P sg ∧ Fr (fun a => hS x a ∨ a = w) A B ∧ Hr B 322 w = some f ∧ (∀ g, Hi B g w = Hi A g w) := by
  unfold fX10_faces
  rw [rcv_ok hw, bs, gR_ok hw, bs, jp_eq]
  rcases h2 with h2 | ⟨f, h2, h3⟩
  · have k1 : Hk (nw A 4 0) w = 11 := (if_neg (by omega)).trans hw
    rw [h2, if_pos rfl, gR_ok k1, bs, gI_ok k1, bs]
    rw [show Hr (nw A 4 0) 320 w = some r from h0, show Hi (nw A 4 0) 321 w = I sg from h1]
    obtain ⟨B, b1, b2, b3⟩ := C_facesInit hC hcl hR hV hsg
    have kB : Hk B w = 11 := by rw [(b2.2.1 w hwl).1]; exact hw
    have eB := b2.2.2.2.1 w (Or.inl ⟨hwl, fun q => by rcases q with q | q <;> omega⟩)
    rw [b1, bs, pR_ok kB, bs]
    dsimp only
    rw [gR_ok (A := sr B 322 w (some (Hs A))) kB, bs, hr_sr]
    have hB := b2.1
    have gB : Fr (fun a => hS x a ∨ a = w) A (sr B 322 w (some (Hs A))) := (b2.wk (fun a q _ => Or.inl q)).wR (Or.inl ⟨Or.inr rfl, rfl⟩) (by omega)
    refine ⟨Hs A, _, rfl, ?_, gB, hr_sr, fun g => eB.1 g⟩
    refine b3.fr (S := fun a => a = w) ⟨Nat.le_refl _, fun _ _ => ⟨rfl, rfl⟩, fun g a _ hg => hr_sr_ne (fun q => hg q.1), fun a ha => ?_, fun a q1 q2 => absurd q1 (by have : Hs (sr B 322 w (some (Hs A))) = Hs B := rfl; omega)⟩ (fun a a1 a2 q => by omega)
    have hne : a ≠ w := by
      rcases ha with ha | ha
      · exact ha.2
      · have : Hs (sr B 322 w (some (Hs A))) = Hs B := rfl
        omega
    exact ⟨fun _ => rfl, fun _ => rfl, fun g => hr_sr_ne (fun q => hne q.2), rfl, rfl⟩
  · rw [h2, if_neg (by simp)]
    dsimp only
    rw [gR_ok hw, bs, h2]
    exact ⟨f, A, rfl, h3, Fr.rf, h2, fun _ => rfl⟩
end
