/-! the class's faces: how they are made -/
theorem faces_32 (N : Nat) (L P : Nat → Nat) (sg : Nat) (hN : N ≤ 8) : faces N L P sg ≤ 32 := by
  unfold faces
  split
  · omega
  · have := comps_le (4 * N) (fR N L P sg (2 * N)); omega
noncomputable def lfx (N : Nat) (L P : Nat → Nat) (sg i : Nat) : Nat := if N = 0 then 0 else lfc N L P sg i
noncomputable def rfx (N : Nat) (L P : Nat → Nat) (sg i : Nat) : Nat := if N = 0 then 1 else rfc N L P sg i
/-- the layout of a faces' object -/
def FL (A : AH) (x f r N K : Nat) : Prop := (x + 34 ≤ f ∧ f + 5 < Hs A) ∧ Hk A f = 4 ∧ Hr A 96 f = some r ∧ Hi A 97 f = I K ∧ (Hr A 98 f = some (f + 1) ∧ Hr A 99 f = some (f + 2) ∧ Hr A 100 f = some (f + 3) ∧ Hr A 101 f = some (f + 4) ∧ Hr A 102 f = some (f + 5)) ∧ Hi A 103 f = bI (K = N + 2) ∧ (Hk A (f + 1) = 14 ∧ Hn A (f + 1) = 4 * N) ∧ (Hk A (f + 2) = 14 ∧ Hn A (f + 2) = K) ∧ (Hk A (f + 3) = 14 ∧ Hn A (f + 3) = max 1 (2 * N)) ∧ (Hk A (f + 4) = 14 ∧ Hn A (f + 4) = max 1 (2 * N)) ∧ (Hk A (f + 5) = 14 ∧ Hn A (f + 5) = K)
section
variable {A B : AH} {x f r N K : Nat} {L P Q : Nat → Nat} {sg : Nat} {S : Nat → Prop}
theorem FL.a (h : FL A x f r N K) : x + 34 ≤ f ∧ f + 5 < Hs A := h.1
theorem FL.k (h : FL A x f r N K) : Hk A f = 4 := h.2.1
theorem FL.rw (h : FL A x f r N K) : gR A 4 96 (some f) = some (some r) := by rw [gR_ok h.k, h.2.2.1]
theorem FL.c (h : FL A x f r N K) : gI A 4 97 (some f) = some (I K) := by rw [gI_ok h.k, h.2.2.2.1]
theorem FL.r1 (h : FL A x f r N K) : gR A 4 98 (some f) = some (some (f + 1)) := by rw [gR_ok h.k, h.2.2.2.2.1.1]
theorem FL.r2 (h : FL A x f r N K) : gR A 4 99 (some f) = some (some (f + 2)) := by rw [gR_ok h.k, h.2.2.2.2.1.2.1]
theorem FL.r3 (h : FL A x f r N K) : gR A 4 100 (some f) = some (some (f + 3)) := by rw [gR_ok h.k, h.2.2.2.2.1.2.2.1]
theorem FL.r4 (h : FL A x f r N K) : gR A 4 101 (some f) = some (some (f + 4)) := by rw [gR_ok h.k, h.2.2.2.2.1.2.2.2.1]
theorem FL.r5 (h : FL A x f r N K) : gR A 4 102 (some f) = some (some (f + 5)) := by rw [gR_ok h.k, h.2.2.2.2.1.2.2.2.2]
theorem FL.pl (h : FL A x f r N K) : gI A 4 103 (some f) = some (bI (K = N + 2)) := by rw [gI_ok h.k, h.2.2.2.2.2.1]
theorem FL.k1 (h : FL A x f r N K) : Hk A (f + 1) = 14 ∧ Hn A (f + 1) = 4 * N := h.2.2.2.2.2.2.1
theorem FL.k2 (h : FL A x f r N K) : Hk A (f + 2) = 14 ∧ Hn A (f + 2) = K := h.2.2.2.2.2.2.2.1
theorem FL.k3 (h : FL A x f r N K) : Hk A (f + 3) = 14 ∧ Hn A (f + 3) = max 1 (2 * N) := h.2.2.2.2.2.2.2.2.1
theorem FL.k4 (h : FL A x f r N K) : Hk A (f + 4) = 14 ∧ Hn A (f + 4) = max 1 (2 * N) := h.2.2.2.2.2.2.2.2.2.1
theorem FL.k5 (h : FL A x f r N K) : Hk A (f + 5) = 14 ∧ Hn A (f + 5) = K := h.2.2.2.2.2.2.2.2.2.2
theorem FL.fr (h : FL A x f r N K) (g : Fr S A B) (hS : ¬ S f) : FL B x f r N K := by
  obtain ⟨⟨a1, a2⟩, a3, a4, a5, ⟨b1, b2, b3, b4, b5⟩, a6, c1, c2, c3, c4, c5⟩ := h
  have e := g.2.2.2.1 f (Or.inl ⟨by omega, hS⟩)
  have z := fun j (hj : j ≤ 5) => g.2.1 (f + j) (by omega)
  have hs := g.1
  refine ⟨⟨a1, by omega⟩, by rw [(g.2.1 f (by omega)).1]; exact a3, by rw [e.2.2.1]; exact a4, by rw [e.1]; exact a5, ⟨by rw [e.2.2.1]; exact b1, by rw [e.2.2.1]; exact b2, by rw [e.2.2.1]; exact b3, by rw [e.2.2.1]; exact b4, by rw [e.2.2.1]; exact b5⟩, by rw [e.1]; exact a6, by rw [(z 1 (by omega)).1, (z 1 (by omega)).2]; exact c1, by rw [(z 2 (by omega)).1, (z 2 (by omega)).2]; exact c2, by rw [(z 3 (by omega)).1, (z 3 (by omega)).2]; exact c3, by rw [(z 4 (by omega)).1, (z 4 (by omega)).2]; exact c4, by rw [(z 5 (by omega)).1, (z 5 (by omega)).2]; exact c5⟩
theorem Hp.fr {n : Nat} {R : List (Nat × Nat)} (h : Hp A x n R) (g : Fr S A B) (hC : CI A x) (h20 : ¬ S (x + 20)) (h21 : ¬ S (x + 21)) : Hp B x n R := by
  have hs := hC.2.2
  have e0 := g.2.2.2.1 (x + 20) (Or.inl ⟨by omega, h20⟩)
  have e1 := g.2.2.2.1 (x + 21) (Or.inl ⟨by omega, h21⟩)
  obtain ⟨h1, h2, up, h3, h4, h5, h6⟩ := h
  exact ⟨h1, by rw [e0.1]; exact h2, up, h3, fun k hk => by rw [e1.2.2.2.1]; exact h4 k hk, h5, by rw [e0.1]; exact h6⟩
abbrev aS (f a : Nat) : Prop := f < a
theorem hit_pos {g : Nat → Nat} {n i : Nat} (h : i < n) : 0 < hit g (g i) n := by
  induction n with
  | zero => omega
  | succ n ih =>
    rw [hit_s]
    by_cases e : i = n
    · subst e; rw [if_pos rfl]; omega
    · have := ih (by omega); omega
theorem C_numberCorners (hC : CI A x) (h : FL A x f r N K) (hN : N ≤ 8) (hK : K ≤ 32) {R : List (Nat × Nat)} (hp : Hp A x (4 * N) R) (hb : ∀ c, c < 4 * N → fno (theLab (4 * N) R) c < K) (hz : ∀ g, g < K → He A (f + 2) g = 0) : ∃ A', fX3_numberCorners A (some f) (some (x + 20)) = some A' ∧ Fr (aS f) A A' ∧ (∀ c, c < 4 * N → He A' (f + 1) c = I (fno (theLab (4 * N) R) c)) ∧ (∀ g, g < K → He A' (f + 2) g = I (hit (fno (theLab (4 * N) R)) g (4 * N))) ∧ ∀ a, f + 2 < a → He A' a = He A a := by
  have hl := hp.lab
  have ha := h.a
  obtain ⟨lab, hlab⟩ : ∃ lab, lab = theLab (4 * N) R := ⟨_, rfl⟩
  rw [← hlab] at hl hb ⊢
  unfold fX3_numberCorners
  rw [rcv_ok h.k, bs]
  refine for_eb (4 * N) (fun i u => u.1 = I (roots lab i) ∧ u.2.1 = I i ∧ Fr (aS f) A u.2.2 ∧ (∀ c, c < i → He u.2.2 (f + 1) c = I (fno lab c)) ∧ (∀ g, g < K → He u.2.2 (f + 2) g = I (hit (fno lab) g i)) ∧ ∀ a, f + 2 < a → He u.2.2 a = He A a) (fun t => Fr (aS f) A t ∧ (∀ c, c < 4 * N → He t (f + 1) c = I (fno lab c)) ∧ (∀ g, g < K → He t (f + 2) g = I (hit (fno lab) g (4 * N))) ∧ ∀ a, f + 2 < a → He t a = He A a) ⟨rfl, rfl, Fr.rf, fun c hc => by omega, hz, fun _ _ => rfl⟩ ?_ ?_ (fun t ht => ⟨t, rfl, ht⟩)
  · rintro i ⟨u1, u2, u3⟩ hi ⟨e1, e2, g, e3, e4, e5⟩
    dsimp only at e1 e2 g e3 e4 e5 ⊢
    subst e1; subst e2
    have h' := h.fr g (by unfold aS; omega)
    have hC' := hC.fr g
    have hp' := hp.fr g hC (by unfold aS; omega) (by unfold aS; omega)
    have ha' := h'.a
    have hli := hl.1 i hi
    have hrl := roots_le lab i
    have hfi := hb i hi
    have hle := hit_le (fno lab) (fno lab i) i
    -- the corner has its face: what comes behind
    have fin : ∀ (v : Int32) (B : AH), v = I (roots lab (i + 1)) → Fr (aS f) A B → (∀ c, c < i + 1 → He B (f + 1) c = I (fno lab c)) → (∀ g, g < K → He B (f + 2) g = I (hit (fno lab) g i)) → (∀ a, f + 2 < a → He B a = He A a) → ∃ s', ((gR B 4 98 (some f)).bind fun v19 => (aI B 14 v19 (I (i : Int))).bind fun v20 => (gI B 4 97 (some f)).bind fun v21 => jp (fun (x29 : AH) => (some (.inl (v, I (i : Int) + 1, x29)) : Option ((Int32 × Int32 × AH) ⊕ AH))) fun K22 => if v21 ≤ v20 then K22 B else (gR B 4 99 (some f)).bind fun v23 => (gR B 4 98 (some f)).bind fun v24 => (aI B 14 v24 (I (i : Int))).bind fun v25 => (aI B 14 v23 v25).bind fun v26 => (sI B 14 v23 v25 (v26 + 1)).bind fun A27 => K22 A27) = some (.inl s') ∧ s'.1 = I (roots lab (i + 1)) ∧ s'.2.1 = I ((i + 1 : Nat) : Int) ∧ Fr (aS f) A s'.2.2 ∧ (∀ c, c < i + 1 → He s'.2.2 (f + 1) c = I (fno lab c)) ∧ (∀ g, g < K → He s'.2.2 (f + 2) g = I (hit (fno lab) g (i + 1))) ∧ ∀ a, f + 2 < a → He s'.2.2 a = He A a := by
      intro v B hv gB b1 b2 b3
      have hB := h.fr gB (by unfold aS; omega)
      have haB := hB.a
      rw [hB.r1, bs, aI_at hB.k1 hi (by omega), bs, b1 i (by omega), hB.c, bs, jp_eq, if_neg (le_n (by omega)), hB.r2, bs, bs, aI_at hB.k1 hi (by omega), bs, b1 i (by omega), aI_at hB.k2 hfi (by omega), bs, b2 _ hfi, sI_at hB.k2 hfi (by omega), bs]
      refine ⟨_, rfl, hv, by dsimp only; rw [L_1, I_add, ← cst], gB.wE (Or.inl (by unfold aS; omega)) (by omega), fun c hc => ?_, fun g hg => ?_, fun a ha => ?_⟩
      · dsimp only; rw [he_se_ne (by omega)]; exact b1 c hc
      · dsimp only
        rw [he_se, hit_s]
        by_cases q : g = fno lab i
        · rw [if_pos q, if_pos q.symm, q, L_1, I_add, ← cst]
        · rw [if_neg q, if_neg (fun z => q z.symm)]; exact b2 g hg
      · dsimp only; rw [he_se_ne (by omega)]; exact b3 a ha
    rw [h'.r1, bs, aL_at h'.k1, bs, if_neg (le_n (by omega)), C_least hC' hp' hi, bs, ← hlab, jp_eq, jp_eq]
    by_cases q : lab i = i
    · have e7 : roots lab (i + 1) = roots lab i + 1 := by rw [roots_s, if_pos q]
      have e8 : fno lab i = roots lab i := by unfold fno; rw [q]
      have k : I (lab i : Int) = I (i : Int) := by rw [q]
      rw [if_neg (show ¬ I _ < (0 : Int32) from lt_n (b := 0) (by omega)), if_pos (le_y (by omega)), bs, sI_at h'.k1 hi (by omega), bs]
      refine fin _ _ (by dsimp only; rw [e7, L_1, I_add, ← cst]) (g.wE (Or.inl (by unfold aS; omega)) (by omega)) (fun c hc => ?_) (fun g hg => ?_) (fun a ha => ?_)
      · dsimp only
        rw [he_se]
        by_cases z : c = i
        · rw [if_pos z, z, e8]
        · rw [if_neg z]; exact e3 c (by omega)
      · dsimp only; rw [he_se_ne (by omega)]; exact e4 g hg
      · dsimp only; rw [he_se_ne (by omega)]; exact e5 a ha
    · have e7 : roots lab (i + 1) = roots lab i := by rw [roots_s, if_neg q]; rfl
      have e8 : fno lab (lab i) = fno lab i := by unfold fno; rw [hl.idem hi]
      rw [if_neg (show ¬ I _ < (0 : Int32) from lt_n (b := 0) (by omega)), if_neg (le_n (by omega)), bs, bs, aI_at h'.k1 (show lab i < 4 * N by omega) (by omega), bs, sI_at h'.k1 hi (by omega), bs, e3 _ (by omega)]
      refine fin _ _ (by dsimp only; rw [e7]) (g.wE (Or.inl (by unfold aS; omega)) (by omega)) (fun c hc => ?_) (fun g hg => ?_) (fun a ha => ?_)
      · dsimp only
        rw [he_se]
        by_cases z : c = i
        · rw [if_pos z, z, e8]
        · rw [if_neg z]; exact e3 c (by omega)
      · dsimp only; rw [he_se_ne (by omega)]; exact e4 g hg
      · dsimp only; rw [he_se_ne (by omega)]; exact e5 a ha
  · rintro ⟨u1, u2, u3⟩ ⟨e1, e2, g, e3, e4, e5⟩
    dsimp only at e1 e2 g e3 e4 e5 ⊢
    subst e1; subst e2
    have h' := h.fr g (by unfold aS; omega)
    exact ⟨u3, by rw [h'.r1, bs, aL_at h'.k1, bs, if_pos (le_y (by omega))], g, e3, e4, e5⟩
theorem C_faceOf (h : FL A x f r N K) (hN : N ≤ 8) {lab : Nat → Nat} (h1 : ∀ c, c < 4 * N → He A (f + 1) c = I (fno lab c)) {a k : Nat} (ha : a < N) (hk : k < 8) : fX3_faceOf A (some f) (I a) (I ((k : Int) - 1)) = some (I (fno lab (4 * a + (k + 3) % 4))) := by
  have hc : 4 * a + (k + 3) % 4 < 4 * N := by omega
  unfold fX3_faceOf
  rw [rcv_ok h.k, bs, C_corner A hk, bs, if_neg (show ¬ I _ < (0 : Int32) from lt_n (b := 0) (by omega)), h.r1, bs, aL_at h.k1, bs, if_neg (le_n (by omega)), bs, aI_at h.k1 hc (by omega), bs, h1 _ hc]
theorem C_findSides (h : FL A x f r N K) (hR : RD A x r N L P Q) (hV : VW N L P Q) (hrf : r + 5 < f) (hsg : sg < 2147483648) {lab : Nat → Nat} (h1 : ∀ c, c < 4 * N → He A (f + 1) c = I (fno lab c)) (hz : N = 0 → He A (f + 3) 0 = 0) : ∃ A', fX3_findSidesOfSteps A (some f) (I sg) = some A' ∧ Fr (aS f) A A' ∧ (∀ i, i < 2 * N → He A' (f + 3) i = I (fno lab (lC L P sg i)) ∧ He A' (f + 4) i = I (fno lab (rC L P sg i))) ∧ (N = 0 → He A' (f + 3) 0 = I 0 ∧ He A' (f + 4) 0 = I 1) ∧ ∀ a, a ≠ f + 3 → a ≠ f + 4 → He A' a = He A a := by
  have hN := hV.1
  have ha := h.a
  unfold fX3_findSidesOfSteps
  rw [rcv_ok h.k, bs, h.rw, bs, C_lc hR, bs, jp_eq]
  have fin : ∀ B, Fr (aS f) A B → (N = 0 → He B (f + 3) 0 = I 0 ∧ He B (f + 4) 0 = I 1) → (∀ a, a ≠ f + 3 → a ≠ f + 4 → He B a = He A a) → ∃ A', ((iter (S := Int32 × AH) (T := AH) (fun s8 => (gR s8.2 4 96 (some f)).bind fun v11 => (fX7_placeCount s8.2 v11).bind fun r12 => if r12 ≤ s8.1 then some (.inr s8.2) else (gR s8.2 4 96 (some f)).bind fun v13 => (fX3_endLeaving s8.2 v13 s8.1 (I sg)).bind fun r14 => (gR s8.2 4 100 (some f)).bind fun v15 => (gR s8.2 4 96 (some f)).bind fun v16 => (fX7_letterOn s8.2 v16 s8.1).bind fun r17 => (fX3_faceOf s8.2 (some f) r17 r14).bind fun r18 => (sI s8.2 14 v15 s8.1 r18).bind fun A19 => (gR A19 4 101 (some f)).bind fun v20 => (gR A19 4 96 (some f)).bind fun v21 => (fX7_letterOn A19 v21 s8.1).bind fun r22 => (fX3_faceOf A19 (some f) r22 (r14 - 1)).bind fun r23 => (sI A19 14 v20 s8.1 r23).bind fun A24 => some (.inl ((s8.1 + 1), A24))) (0, B)).bind fun t9 => some t9) = some A' ∧ Fr (aS f) A A' ∧ (∀ i, i < 2 * N → He A' (f + 3) i = I (fno lab (lC L P sg i)) ∧ He A' (f + 4) i = I (fno lab (rC L P sg i))) ∧ (N = 0 → He A' (f + 3) 0 = I 0 ∧ He A' (f + 4) 0 = I 1) ∧ ∀ a, a ≠ f + 3 → a ≠ f + 4 → He A' a = He A a := by
    intro B gB zB aB
    refine for_eb (2 * N) (fun i u => u.1 = I i ∧ Fr (aS f) A u.2 ∧ (∀ j, j < i → He u.2 (f + 3) j = I (fno lab (lC L P sg j)) ∧ He u.2 (f + 4) j = I (fno lab (rC L P sg j))) ∧ (N = 0 → He u.2 (f + 3) 0 = I 0 ∧ He u.2 (f + 4) 0 = I 1) ∧ ∀ a, a ≠ f + 3 → a ≠ f + 4 → He u.2 a = He A a) (fun t => Fr (aS f) A t ∧ (∀ i, i < 2 * N → He t (f + 3) i = I (fno lab (lC L P sg i)) ∧ He t (f + 4) i = I (fno lab (rC L P sg i))) ∧ (N = 0 → He t (f + 3) 0 = I 0 ∧ He t (f + 4) 0 = I 1) ∧ ∀ a, a ≠ f + 3 → a ≠ f + 4 → He t a = He A a) ⟨rfl, gB, fun j hj => by omega, zB, aB⟩ ?_ ?_ (fun t ht => ⟨t, rfl, ht⟩)
    · rintro i ⟨u1, u2⟩ hi ⟨e1, g, e2, e3, e4⟩
      dsimp only at e1 g e2 e3 e4 ⊢
      subst e1
      have h' := h.fr g (by unfold aS; omega)
      have hR' := hR.fr g (fun a _ _ q => by unfold aS at q; omega)
      have ha' := h'.a
      have hl := (hV.2.2 i hi).1
      have hv := lvA_lt L P sg i
      have f1' : ∀ c, c < 4 * N → He u2 (f + 1) c = I (fno lab c) := fun c hc => by rw [e4 _ (by omega) (by omega)]; exact h1 c hc
      have k1 : fX3_faceOf u2 (some f) (I (L i : Int)) (I (lvA L P sg i : Int)) = some (I (fno lab (lC L P sg i) : Int)) := by
        have := C_faceOf h' hN f1' (a := L i) (k := lvA L P sg i + 1) hl (by omega)
        rw [show ((lvA L P sg i + 1 : Nat) : Int) - 1 = (lvA L P sg i : Int) by omega] at this
        rw [this]; unfold lC; congr 4; omega
      let B1 := se u2 (f + 3) i (I (fno lab (lC L P sg i) : Int))
      have g1 : Fr (aS f) A B1 := g.wE (Or.inl (by unfold aS; omega)) (by omega)
      have h1' := h.fr g1 (by unfold aS; omega)
      have hR1 := hR.fr g1 (fun a _ _ q => by unfold aS at q; omega)
      have f2' : ∀ c, c < 4 * N → He B1 (f + 1) c = I (fno lab c) := fun c hc => by rw [show He B1 (f + 1) = He u2 (f + 1) from he_se_ne (by omega)]; exact f1' c hc
      have k2 : fX3_faceOf B1 (some f) (I (L i : Int)) (I (lvA L P sg i : Int) - 1) = some (I (fno lab (rC L P sg i) : Int)) := by
        rw [L_1, I_sub]
        exact C_faceOf h1' hN f2' (a := L i) (k := lvA L P sg i) hl (by omega)
      rw [h'.rw, bs, C_pc hR', bs, if_neg (le_n (by omega)), bs, C_end hR' hV hsg hi, bs, h'.r3, bs, bs, C_letterOn hR' hN hi, bs, k1, bs, sI_at h'.k3 (by omega) (by omega), bs, h1'.r4, bs, h1'.rw, bs, C_letterOn hR1 hN hi, bs, k2, bs, sI_at h1'.k4 (by omega) (by omega), bs]
      refine ⟨_, rfl, by dsimp only; rw [L_1, I_add, ← cst], g1.wE (Or.inl (by unfold aS; omega)) (by have := h1'.a; omega), fun j hj => ?_, fun q => by omega, fun a a1 a2 => ?_⟩
      · dsimp only
        rw [he_se_ne (by omega), he_se, he_se]
        show (if j = i then _ else _) = _ ∧ (if j = i then _ else He (se u2 (f + 3) i _) (f + 4) j) = _
        rw [he_se_ne (by omega)]
        by_cases q : j = i
        · rw [if_pos q, if_pos q, q]; exact ⟨rfl, rfl⟩
        · rw [if_neg q, if_neg q]; exact e2 j (by omega)
      · dsimp only
        rw [he_se_ne a2]
        show He (se u2 (f + 3) i _) a = _
        rw [he_se_ne a1]; exact e4 a a1 a2
    · rintro ⟨u1, u2⟩ ⟨e1, g, e2, e3, e4⟩
      dsimp only at e1 g e2 e3 e4 ⊢
      subst e1
      have h' := h.fr g (by unfold aS; omega)
      have hR' := hR.fr g (fun a _ _ q => by unfold aS at q; omega)
      exact ⟨u2, by rw [h'.rw, bs, C_pc hR', bs, if_pos (le_y (by omega))], g, e2, e3, e4⟩
  by_cases q : N = 0
  · have s0 : sI A 14 (some (f + 4)) 0 1 = some (se A (f + 4) 0 1) := sI_at (j := 0) h.k4 (by omega) (by omega)
    rw [if_pos (by rw [q]; rfl), h.r4, bs, s0, bs]
    refine fin _ (Fr.rf.wE (Or.inl (by unfold aS; omega)) (by omega)) (fun _ => ?_) (fun a a1 a2 => he_se_ne a2)
    rw [he_se_ne (by omega), he_se, if_pos rfl]
    exact ⟨hz q, rfl⟩
  · rw [if_neg (show ¬ I (N : Int) = 0 from eq_n (b := 0) (by omega))]
    exact fin A Fr.rf (fun z => absurd z q) (fun _ _ _ => rfl)
theorem bI_01 {p : Prop} [Decidable p] : bI p = 0 ∨ bI p = 1 := by by_cases q : p <;> simp [bI, q]
theorem aZ_at {A : AH} {a n : Nat} {j : Nat} (hk : Hk A a = 15 ∧ Hn A a = n) (h : j < n) (hn : n ≤ 1000) : aI A 15 (some a) (I j) = some (He A a j) := by
  rw [aI_ok hk.1 (by omega) (by rw [hk.2]; omega) (by rw [hk.2]; omega), Int.toNat_natCast]
theorem sZ_at {A : AH} {a n : Nat} {j : Nat} {v : Int32} (hv : v = 0 ∨ v = 1) (hk : Hk A a = 15 ∧ Hn A a = n) (h : j < n) (hn : n ≤ 1000) : sZ A 15 (some a) (I j) v = some (se A a j v) := by
  rw [sZ_ok hv hk.1 (by omega) (by rw [hk.2]; omega) (by rw [hk.2]; omega), Int.toNat_natCast]
theorem I_m1 (v : Int32) : v - 1 = v + (-1) := by rw [I_of v, L_1, I_sub, I_neg, I_add]; rfl
theorem C_hasF (h : FL A x f r N K) (hK : K ≤ 32) {g : Nat} (hg : g < K) : fX3_hasFace A (some f) (I g) = some 1 := by
  unfold fX3_hasFace
  rw [rcv_ok h.k, bs, if_neg (show ¬ I (g : Int) < 0 from lt_n (b := 0) (by omega)), h.c, bs, if_neg (le_n (by omega))]
theorem one_nz : ¬ (1 : Int32) = 0 := by decide
theorem C_findIndexes (h : FL A x f r N K) (hK : K ≤ 32) (hK0 : 0 < K) (hN : N ≤ 8) (hcl : Cl A) {l rr : Nat → Nat} (hl : ∀ i, i < max 1 (2 * N) → He A (f + 3) i = I (l i) ∧ He A (f + 4) i = I (rr i) ∧ l i < K ∧ rr i < K) (hz : ∀ g, g < K → He A (f + 5) g = 0) : ∃ A', fX3_findIndexes A (some f) = some A' ∧ Fr (aS f) A A' ∧ (∀ g, g < K → He A' (f + 5) g = (itp l rr (max 1 (2 * N)) K is0).1 g) ∧ ∀ a, a < Hs A → a ≠ f + 5 → He A' a = He A a := by
  have ha := h.a
  unfold fX3_findIndexes
  rw [rcv_ok h.k, bs, h.c, bs, nA_ok (by omega) (by omega) (by omega), bs, Int.toNat_natCast]
  obtain ⟨nb, hnb⟩ : ∃ nb, nb = Hs A := ⟨_, rfl⟩
  rw [← hnb]
  have g0 : Fr (aS f) A (nw A 15 K) := Fr.rf.nW (by decide)
  have hs0 : Hs (nw A 15 K) = nb + 1 := by rw [hnb]; rfl
  have kb : Hk (nw A 15 K) nb = 15 ∧ Hn (nw A 15 K) nb = K := by rw [hnb]; exact ⟨if_pos rfl, if_pos rfl⟩
  have cl0 : ∀ i, He A nb i = 0 := fun i => (hcl nb (by omega)).2.2.2.1 i
  have s0 : sZ (nw A 15 K) 15 (some nb) 0 1 = some (se (nw A 15 K) nb 0 1) := sZ_at (j := 0) (Or.inr rfl) kb hK0 (by omega)
  have hf0 : fX3_hasFace (nw A 15 K) (some f) 0 = some 1 := C_hasF (g := 0) (h.fr g0 (by unfold aS; omega)) hK hK0
  rw [hf0, bs, jp_eq, if_neg one_nz, s0, bs]
  let n := max 1 (2 * N)
  let Gd : IS → AH → Prop := fun s B => Fr (aS f) A B ∧ (Hk B nb = 15 ∧ Hn B nb = K) ∧ nb < Hs B ∧ (∀ g, g < K → He B (f + 5) g = s.1 g ∧ He B nb g = bI (s.2 g = true)) ∧ ∀ a, a < nb → a ≠ f + 5 → He B a = He A a
  have init : Gd is0 (se (nw A 15 K) nb 0 1) := by
    refine ⟨g0.wE (Or.inr (by omega)) (by omega), kb, by show nb < Hs (nw A 15 K); omega, fun g hg => ⟨?_, ?_⟩, fun a a1 a2 => ?_⟩
    · rw [he_se_ne (by omega)]; exact hz g hg
    · rw [he_se]
      by_cases q : g = 0
      · rw [if_pos q]; exact (bI1.mpr (by simp [is0, q])).symm
      · rw [if_neg q]
        show He A nb g = _
        rw [cl0]; exact (bI0.mpr (by simp [is0, q])).symm
    · rw [he_se_ne (by omega)]; rfl
  refine for_eb2 K (fun k u => u.1 = I k ∧ Gd (itp l rr n k is0) u.2) (fun t => Gd (itp l rr n K is0) t) ⟨rfl, init⟩ ?_ ?_ (fun t ht => ⟨t, rfl, ht.1, fun g hg => (ht.2.2.2.1 g hg).1, fun a a1 a2 => ht.2.2.2.2 a (by omega) a2⟩)
  · rintro k ⟨u1, u2⟩ hk ⟨e1, gd⟩
    dsimp only at e1 gd ⊢
    subst e1
    have h1 := h.fr gd.1 (by unfold aS; omega)
    rw [h1.c, bs, if_neg (le_n (by omega))]
    obtain ⟨s, hs⟩ : ∃ s, s = itp l rr n k is0 := ⟨_, rfl⟩
    have hs1 : itp l rr n (k + 1) is0 = ips l rr n s := by rw [itp_s, ← hs]
    rw [← hs] at gd
    rw [hs1]
    refine for_eb n (fun i u => u.1 = I i ∧ Gd (ips l rr i s) u.2) (fun t => Gd (ips l rr n s) t) ⟨rfl, gd⟩ ?_ ?_ (fun t ht => ⟨_, rfl, _, rfl, by dsimp only; rw [L_1, I_add, ← cst], ht⟩)
    · rintro i ⟨w1, w2⟩ hi ⟨f1, gw⟩
      dsimp only at f1 gw ⊢
      subst f1
      have h2 := h.fr gw.1 (by unfold aS; omega)
      have ha2 := h2.a
      obtain ⟨gw1, gw2, gw3, gw4, gw5⟩ := gw
      have hn32 : max 1 (2 * N) ≤ 16 := by omega
      obtain ⟨l1, l2, l3, l4⟩ := hl i hi
      have l1' : He w2 (f + 3) i = I (l i) := by rw [gw5 _ (by omega) (by omega)]; exact l1
      have l2' : He w2 (f + 4) i = I (rr i) := by rw [gw5 _ (by omega) (by omega)]; exact l2
      obtain ⟨p, hp⟩ : ∃ p, p = ips l rr i s := ⟨_, rfl⟩
      have hp1 : ips l rr (i + 1) s = tl (rr i) (l i) 1 (tl (l i) (rr i) (-1) p) := by rw [hp]; rfl
      rw [← hp] at gw4
      obtain ⟨la, lb⟩ := gw4 _ l3
      obtain ⟨ra, rb⟩ := gw4 _ l4
      have set1 : ∀ (a b : Nat) (v : Int32), a < K → b < K → tlm a b p = true → Gd (tl a b v p) (se (se w2 (f + 5) b (p.1 a + v)) nb b 1) := by
        intro a b v ha hb ht
        refine ⟨(gw1.wE (Or.inl (by unfold aS; omega)) (by omega)).wE (Or.inr (by omega)) (by show nb < Hs w2; omega), gw2, gw3, fun g hg => ?_, fun c c1 c2 => ?_⟩
        · rw [he_se_ne (by omega), he_se, he_se, he_se_ne (by omega)]
          by_cases q : g = b
          · have z1 : (tl a b v p).1 g = p.1 a + v := by unfold tl; rw [if_pos ht]; exact if_pos q
            have z2 : (tl a b v p).2 g = true := by unfold tl; rw [if_pos ht]; exact if_pos q
            rw [if_pos q, if_pos q, z1, z2]; exact ⟨rfl, rfl⟩
          · have z1 : (tl a b v p).1 g = p.1 g := by unfold tl; rw [if_pos ht]; exact if_neg q
            have z2 : (tl a b v p).2 g = p.2 g := by unfold tl; rw [if_pos ht]; exact if_neg q
            rw [if_neg q, if_neg q, z1, z2]; exact gw4 g hg
        · rw [he_se_ne (by omega), he_se_ne c2]; exact gw5 c c1 c2
      have key : ∃ C, fX3_findIndexAcross w2 (some f) (I (l i : Int)) (I (rr i : Int)) (some nb) = some C ∧ Gd (tl (rr i) (l i) 1 (tl (l i) (rr i) (-1) p)) C := by
        unfold fX3_findIndexAcross
        rw [rcv_ok h2.k, bs, C_hasF h2 hK l3, bs, if_neg one_nz, C_hasF h2 hK l4, bs, if_neg one_nz, aZ_at gw2 l3 (by omega), bs, lb, jp_eq]
        simp only []
        have nxt : ∀ (q : IS) (C : AH), Gd q C → ∃ C', (some C : Option AH) = some C' ∧ Gd q C' := fun q C hq => ⟨C, rfl, hq⟩
        by_cases q1 : p.2 (l i) = true
        · by_cases q2 : p.2 (rr i) = true
          · have t1 : tlm (l i) (rr i) p = false := by unfold tlm; rw [q1, q2]; rfl
            have t2 : tlm (rr i) (l i) p = false := by unfold tlm; rw [q1, q2]; rfl
            rw [tl_no t1, tl_no t2, if_neg (fun z => bI0.mp z q1), aZ_at gw2 l4 (by omega), bs, rb, if_neg (fun z => bI0.mp z q2), bs, if_neg (fun z => bI0.mp z q2), bs, if_neg (fun z => bI0.mp z q1)]
            exact nxt p w2 ⟨gw1, gw2, gw3, gw4, gw5⟩
          · have q2' : p.2 (rr i) = false := by simpa using q2
            have t1 : tlm (l i) (rr i) p = true := by unfold tlm; rw [q1, q2']; rfl
            have e9 : (tl (l i) (rr i) (-1) p).2 (rr i) = true := by unfold tl; rw [if_pos t1]; dsimp only; rw [if_pos rfl]
            have e10 : (tl (l i) (rr i) (-1) p).2 (l i) = true := tl_kn (l i) q1
            have t2 : tlm (rr i) (l i) (tl (l i) (rr i) (-1) p) = false := by unfold tlm; rw [e9, e10]; rfl
            have kk : Hk (se w2 (f + 5) (rr i) (p.1 (l i) + -1)) nb = 15 ∧ Hn (se w2 (f + 5) (rr i) (p.1 (l i) + -1)) nb = K := gw2
            rw [tl_no t2, if_neg (fun z => bI0.mp z q1), aZ_at gw2 l4 (by omega), bs, rb, if_pos (bI0.mpr q2), h2.r5, bs, bs, aI_at h2.k5 l3 (by omega), bs, la, I_m1, sI_at h2.k5 l4 (by omega), bs, sZ_at (Or.inr rfl) kk l4 (by omega), bs]
            exact nxt _ _ (set1 (l i) (rr i) (-1) l3 l4 t1)
        · have q1' : p.2 (l i) = false := by simpa using q1
          have t1 : tlm (l i) (rr i) p = false := by unfold tlm; rw [q1']; rfl
          rw [tl_no t1, if_pos (bI0.mpr q1), aZ_at gw2 l4 (by omega), bs, rb]
          by_cases q2 : p.2 (rr i) = true
          · have t2 : tlm (rr i) (l i) p = true := by unfold tlm; rw [q1', q2]; rfl
            have kk : Hk (se w2 (f + 5) (l i) (p.1 (rr i) + 1)) nb = 15 ∧ Hn (se w2 (f + 5) (l i) (p.1 (rr i) + 1)) nb = K := gw2
            rw [if_neg (fun z => bI0.mp z q2), bs, if_pos (bI0.mpr q1), h2.r5, bs, bs, aI_at h2.k5 l4 (by omega), bs, ra, sI_at h2.k5 l3 (by omega), bs, sZ_at (Or.inr rfl) kk l3 (by omega), bs]
            exact nxt _ _ (set1 (rr i) (l i) 1 l4 l3 t2)
          · have q2' : p.2 (rr i) = false := by simpa using q2
            have t2 : tlm (rr i) (l i) p = false := by unfold tlm; rw [q2']; rfl
            rw [tl_no t2, if_pos (bI0.mpr q2)]
            exact nxt p w2 ⟨gw1, gw2, gw3, gw4, gw5⟩
      obtain ⟨C, key1, key2⟩ := key
      rw [hp1, h2.r3, bs, aL_at h2.k3, bs, if_neg (le_n (by omega)), bs, aI_at h2.k3 hi (by omega), bs, l1', h2.r4, bs, aI_at h2.k4 hi (by omega), bs, l2', key1, bs]
      exact ⟨_, rfl, by dsimp only; rw [L_1, I_add, ← cst], key2⟩
    · rintro ⟨w1, w2⟩ ⟨f1, gw⟩
      dsimp only at f1 gw ⊢
      subst f1
      have h2 := h.fr gw.1 (by unfold aS; omega)
      have hn32 : max 1 (2 * N) ≤ 16 := by omega
      exact ⟨w2, by rw [h2.r3, bs, aL_at h2.k3, bs, if_pos (le_y ⟨Bd_n (by omega), Bd_n (show n < 2147483648 by show max 1 (2 * N) < 2147483648; omega), Int.le_refl _⟩)], gw⟩
  · rintro ⟨u1, u2⟩ ⟨e1, gd⟩
    dsimp only at e1 gd ⊢
    subst e1
    have h1 := h.fr gd.1 (by unfold aS; omega)
    exact ⟨u2, by rw [h1.c, bs, if_pos (le_y (by omega))], gd⟩
end
