/-! the class's rows: what is found once and kept -/
def RCt (A : AH) (r N : Nat) (L : Nat → Nat) : Prop := ∃ b : Bool, Hi A 230 r = bI (b = true) ∧ (b = true ∨ N = 0 → Hj A 231 r = mnC N L (4 * N) ∧ Hi A 232 r = I (knC N L (4 * N)))
def RCs (A : AH) (r N : Nat) (L P : Nat → Nat) : Prop := ∃ b : Bool, Hi A 233 r = bI (b = true) ∧ Hi A 234 r = I (if b = true then dwn N L P (2 ^ N) else -1) ∧ Hi A 235 r = I ((if b = true then dws N L P (2 ^ N) else 0 : Nat) : Int)
def RCr (A : AH) (r N : Nat) (P Q : Nat → Nat) : Prop := ∃ b : Bool, Hi A 236 r = bI (b = true) ∧ ∀ k, k < 10 → He A (r + 1) k = I ((if b = true then sts N P Q k (2 ^ N) else 0 : Nat) : Int)
def RC (A : AH) (r N : Nat) (L P Q : Nat → Nat) : Prop := RCt A r N L ∧ RCs A r N L P ∧ RCr A r N P Q
theorem RCt.mv {A B : AH} {r N : Nat} {L : Nat → Nat} (h : RCt A r N L) (h1 : Hi B 230 r = Hi A 230 r) (h2 : Hj B 231 r = Hj A 231 r) (h3 : Hi B 232 r = Hi A 232 r) : RCt B r N L := by
  unfold RCt
  rw [h1, h2, h3]
  exact h
theorem RCs.mv {A B : AH} {r N : Nat} {L P : Nat → Nat} (h : RCs A r N L P) (h1 : Hi B 233 r = Hi A 233 r) (h2 : Hi B 234 r = Hi A 234 r) (h3 : Hi B 235 r = Hi A 235 r) : RCs B r N L P := by
  unfold RCs
  rw [h1, h2, h3]
  exact h
theorem RCr.mv {A B : AH} {r N : Nat} {P Q : Nat → Nat} (h : RCr A r N P Q) (h1 : Hi B 236 r = Hi A 236 r) (h2 : He B (r + 1) = He A (r + 1)) : RCr B r N P Q := by
  unfold RCr
  rw [h1, h2]
  exact h
theorem RC.e8 {A B : AH} {r N : Nat} {L P Q : Nat → Nat} (h : RC A r N L P Q) (g0 : Eq8 A B r) (g1 : Eq8 A B (r + 1)) : RC B r N L P Q :=
  ⟨h.1.mv (g0.1 _) (g0.2.1 _) (g0.1 _), h.2.1.mv (g0.1 _) (g0.1 _) (g0.1 _), h.2.2.mv (g0.1 _) g1.2.2.2.1⟩
theorem hj_sj {A : AH} {f a : Nat} {v : Int64} : Hj (sj A f a v) f a = v := up2_eq
theorem hi_sj {A : AH} {f a : Nat} {v : Int64} : Hi (sj A f a v) = Hi A := rfl
theorem hj_si {A : AH} {f a : Nat} {v : Int32} : Hj (si A f a v) = Hj A := rfl
theorem hj_se {A : AH} {a i : Nat} {v : Int32} : Hj (se A a i v) = Hj A := rfl
theorem he_sj {A : AH} {f a : Nat} {v : Int64} : He (sj A f a v) = He A := rfl
section
variable {A B : AH} {x r N : Nat} {L P Q : Nat → Nat}
theorem tD_lt (hV : VW N L P Q) {v : Nat} (hN : 0 < N) (j : Nat) : tD N L v j < N := by
  unfold tD
  split
  · exact (hV.2.2 _ (Nat.mod_lt _ (by omega))).1
  · exact (hV.2.2 _ (Nat.mod_lt _ (by omega))).1
def psj (N v j : Nat) : Nat := if v % 2 = 1 then (v / 2 + 2 * N - j) % (2 * N) else (v / 2 + j) % (2 * N)
theorem psj_0 {N v : Nat} (hv : v < 4 * N) : psj N v 0 = v / 2 := by
  unfold psj
  split
  · rw [Nat.sub_zero, Nat.add_mod_right, Nat.mod_eq_of_lt (by omega)]
  · rw [Nat.add_zero, Nat.mod_eq_of_lt (by omega)]
theorem psj_lt {N v j : Nat} (h : 0 < N) : psj N v j < 2 * N := by
  unfold psj
  split <;> exact Nat.mod_lt _ (by omega)
theorem tD_psj {N : Nat} {L : Nat → Nat} {v j : Nat} : tD N L v j = L (psj N v j) := by
  unfold tD psj
  split <;> rfl
theorem psj_f {N v j : Nat} (h : 0 < N) (hv : ¬ v % 2 = 1) : psj N v (j + 1) = nx N (psj N v j) := by
  unfold psj nx
  rw [if_neg hv, if_neg hv, Nat.mod_add_mod]
  rfl
theorem psj_b {N v j : Nat} (h : 0 < N) (hj : j < 2 * N) (hv : v % 2 = 1) : psj N v (j + 1) = (psj N v j + 2 * N - 1) % (2 * N) := by
  unfold psj
  rw [if_pos hv, if_pos hv]
  have e : v / 2 + 2 * N - j = (v / 2 + 2 * N - (j + 1)) + 1 := by omega
  rw [e]
  generalize v / 2 + 2 * N - (j + 1) = y
  have h1 := Nat.mod_lt y (show 2 * N > 0 by omega)
  by_cases q : y % (2 * N) + 1 < 2 * N
  · rw [show (y + 1) % (2 * N) = y % (2 * N) + 1 by rw [Nat.add_mod]; rw [Nat.mod_eq_of_lt (show 1 < 2 * N by omega), Nat.mod_eq_of_lt q]]
    rw [show y % (2 * N) + 1 + 2 * N - 1 = y % (2 * N) + 2 * N by omega, Nat.add_mod_right, Nat.mod_mod]
  · have e2 : y % (2 * N) = 2 * N - 1 := by omega
    rw [show (y + 1) % (2 * N) = 0 by rw [Nat.add_mod, e2, Nat.mod_eq_of_lt (show 1 < 2 * N by omega), show 2 * N - 1 + 1 = 2 * N by omega, Nat.mod_self], e2, Nat.zero_add, Nat.mod_eq_of_lt (by omega)]
def nmv (D : Nat → Nat) (c j : Nat) : Int := if fr0 D c j = true then (nn D c j : Int) else -1
theorem C_codeFrom (h : RD A x r N L P Q) (hV : VW N L P Q) {nm : Nat} (hk : Hk A nm = 14 ∧ Hn A nm = N) (hnm : nm < Hs A) (hd : nm < r ∨ r + 5 < nm) {v : Nat} (hv : v < 4 * N) : ∃ y, fX7_codeFrom A (some r) (I ((v / 2 : Nat) : Int)) (bI (v % 2 = 1)) (some nm) = some y ∧ y.1 = cV N L v ∧ Fr (fun a => a = nm) A y.2 := by
  have hN := hV.1
  have hN0 : 0 < N := by omega
  have st : ∀ {B : AH}, Fr (fun a => a = nm) A B → RD B x r N L P Q ∧ (Hk B nm = 14 ∧ Hn B nm = N) ∧ nm < Hs B := fun {B} g => ⟨h.fr g (fun a h1 h2 q => by omega), by rw [(g.2.1 nm hnm).1, (g.2.1 nm hnm).2]; exact hk, Nat.lt_of_lt_of_le hnm g.1⟩
  unfold fX7_codeFrom
  rw [rcv_ok h.k, bs]
  refine for_eb N (fun j u => u.1 = I j ∧ Fr (fun a => a = nm) A u.2 ∧ ∀ c, c < j → He u.2 nm c = I (-1)) (fun t => Fr (fun a => a = nm) A t ∧ ∀ c, c < N → He t nm c = I (-1)) ⟨rfl, Fr.rf, fun c hc => by omega⟩ ?_ ?_ ?_
  · rintro j ⟨u1, u2⟩ hj ⟨e1, g, e2⟩
    dsimp only at e1 g e2 ⊢
    subst e1
    obtain ⟨h', hk', hn'⟩ := st g
    rw [gI_ok h'.k, bs, h'.i0, if_neg (le_n (by omega)), sI_at hk' hj (by omega), bs]
    refine ⟨_, rfl, by dsimp only; rw [L_1, I_add, ← cst], g.wE (Or.inl rfl) hn', fun c hc => ?_⟩
    dsimp only
    rw [he_se]
    split
    · rfl
    · exact e2 c (by omega)
  · rintro ⟨u1, u2⟩ ⟨e1, g, e2⟩
    dsimp only at e1 g e2 ⊢
    subst e1
    obtain ⟨h', hk', hn'⟩ := st g
    exact ⟨u2, by rw [gI_ok h'.k, bs, h'.i0, if_pos (le_y (by omega))], g, e2⟩
  · rintro T ⟨gT, eT⟩
    obtain ⟨D, hD⟩ : ∃ D, D = tD N L v := ⟨_, rfl⟩
    have hDl : ∀ j, D j < N := fun j => by rw [hD]; exact tD_lt hV hN0 j
    refine for_eb (2 * N) (fun j u => u.1 = I (cn D j) ∧ u.2.1 = I (psj N v j) ∧ u.2.2.1 = cdm D j ∧ u.2.2.2.1 = I j ∧ Fr (fun a => a = nm) A u.2.2.2.2 ∧ ∀ c, c < N → He u.2.2.2.2 nm c = I (nmv D c j)) (fun t => t.1 = cdm D (2 * N) ∧ Fr (fun a => a = nm) A t.2) ⟨rfl, by rw [psj_0 hv], rfl, rfl, gT, eT⟩ ?_ ?_ (fun t ht => ⟨_, rfl, by rw [ht.1, hD]; rfl, ht.2⟩)
    · rintro j ⟨u1, u2, u3, u4, u5⟩ hj ⟨e1, e2, e3, e4, g, e5⟩
      dsimp only at e1 e2 e3 e4 g e5 ⊢
      subst e1; subst e2; subst e3; subst e4
      obtain ⟨h', hk', hn'⟩ := st g
      have hp := psj_lt (N := N) (v := v) (j := j) hN0
      have hl : L (psj N v j) = D j := by rw [hD, tD_psj]
      have hdj := hDl j
      have hcn := cn_le D j
      have hnn := nn_le D (D j) j
      rw [gI_ok h'.k, bs, h'.i1, if_neg (le_n (by omega)), h'.r2, bs, aI_at h'.k2 hp (by omega), bs, h'.l _ hp, hl, aI_at hk' hdj (by omega), bs, e5 _ hdj, jp_eq]
      -- what comes behind the name
      have fin : ∀ (mt : Int32) (C : AH), mt = I (cn D (j + 1)) → Fr (fun a => a = nm) A C → (∀ c, c < N → He C nm c = I (nmv D c (j + 1))) → ∃ s', ((aI C 14 (some nm) (I (D j : Int))).bind fun v18 => jp (fun (x23 : Int32) => (some (.inl (mt, x23, cdm D j * 8 + v18.toInt64, I (j : Int) + 1, C)) : Option ((Int32 × Int32 × Int64 × Int32 × AH) ⊕ (Int64 × AH)))) fun K19 => if bI (v % 2 = 1) = 0 then (fX7_placeBehind C (some r) (I (psj N v j : Int))).bind fun r20 => K19 r20 else (fX7_placeAhead C (some r) (I (psj N v j : Int))).bind fun r21 => K19 r21) = some (.inl s') ∧ s'.1 = I (cn D (j + 1)) ∧ s'.2.1 = I (psj N v (j + 1)) ∧ s'.2.2.1 = cdm D (j + 1) ∧ s'.2.2.2.1 = I ((j + 1 : Nat) : Int) ∧ Fr (fun a => a = nm) A s'.2.2.2.2 ∧ ∀ c, c < N → He s'.2.2.2.2 nm c = I (nmv D c (j + 1)) := by
        intro mt C hmt gC eC
        obtain ⟨h2, hk2, hn2⟩ := st gC
        have hv18 : nmv D (D j) (j + 1) = (nn D (D j) j : Int) := by
          have hf : fr0 D (D j) (j + 1) = true := fr0_iff.mpr ⟨j, by omega, rfl⟩
          unfold nmv
          rw [if_pos hf, show nn D (D j) (j + 1) = nn D (D j) j + (if fr0 D (D j) j = false ∧ fr0 D (D j) (j + 1) = false then 1 else 0) from rfl, if_neg (fun z => by rw [hf] at z; exact absurd z.2 (by decide))]
          rfl
        have hcd : cdm D j * 8 + (I ((nn D (D j) j : Nat) : Int)).toInt64 = cdm D (j + 1) := by
          show _ = 8 * cdm D j + (I ((nn D (D j) j : Nat) : Int)).toInt64
          rw [Int64.mul_comm]
        rw [aI_at hk2 hdj (by omega), bs, eC _ hdj, hv18, hcd, jp_eq]
        by_cases q : v % 2 = 1
        · rw [if_neg (fun z => bI0.mp z q), C_ahead h2 hN hp, bs]
          exact ⟨_, rfl, hmt, by dsimp only; rw [psj_b hN0 hj q], rfl, by dsimp only; rw [L_1, I_add, ← cst], gC, eC⟩
        · rw [if_pos (bI0.mpr q), C_behind h2 hN hp, bs]
          exact ⟨_, rfl, hmt, by dsimp only; rw [psj_f hN0 q], rfl, by dsimp only; rw [L_1, I_add, ← cst], gC, eC⟩
      have hnx : ∀ c, c ≠ D j → nmv D c (j + 1) = nmv D c j := fun c hc => by
        have e6 : fr0 D c (j + 1) = fr0 D c j := by rw [fr0_s, decide_eq_false (fun z => hc z.symm), Bool.or_false]
        unfold nmv
        rw [e6]
        by_cases q : fr0 D c j = true
        · rw [if_pos q, if_pos q, show nn D c (j + 1) = nn D c j + (if fr0 D (D j) j = false ∧ fr0 D c (j + 1) = false then 1 else 0) from rfl, if_neg (fun z => by rw [e6, q] at z; exact absurd z.2 (by decide))]
          rfl
        · rw [if_neg q, if_neg q]
      have hnj : nmv D (D j) (j + 1) = (nn D (D j) j : Int) := by
        have hf : fr0 D (D j) (j + 1) = true := fr0_iff.mpr ⟨j, by omega, rfl⟩
        unfold nmv
        rw [if_pos hf, show nn D (D j) (j + 1) = nn D (D j) j + (if fr0 D (D j) j = false ∧ fr0 D (D j) (j + 1) = false then 1 else 0) from rfl, if_neg (fun z => by rw [hf] at z; exact absurd z.2 (by decide))]
        rfl
      by_cases q : fr0 D (D j) j = false
      · have e7 : nmv D (D j) j = -1 := by unfold nmv; rw [if_neg (by rw [q]; decide)]
        rw [e7, if_pos (show I (-1) = (-1 : Int32) from rfl), sI_at hk' hdj (by omega), bs]
        have e8 : cn D (j + 1) = cn D j + 1 := by rw [cn_s, if_pos (occ_fr0.mpr q)]
        refine fin _ _ ?_ (g.wE (Or.inl rfl) hn') (fun c hc => ?_)
        · dsimp only; rw [e8, L_1, I_add, ← cst]
        · rw [he_se]
          by_cases z : c = D j
          · rw [if_pos z, z, hnj, nn_cn q]
          · rw [if_neg z, hnx c z]; exact e5 c hc
      · have q' : fr0 D (D j) j = true := by simpa using q
        have e7 : nmv D (D j) j = (nn D (D j) j : Int) := by unfold nmv; rw [if_pos q']
        rw [e7, if_neg (show ¬ I _ = (-1 : Int32) from eq_n (b := -1) (by omega))]
        have e8 : cn D (j + 1) = cn D j := by rw [cn_s, if_neg (fun z => q (occ_fr0.mp z))]; rfl
        refine fin _ _ ?_ g (fun c hc => ?_)
        · dsimp only; rw [e8]
        · by_cases z : c = D j
          · rw [z, hnj, ← e7]; exact e5 _ hdj
          · rw [hnx c z]; exact e5 c hc
    · rintro ⟨u1, u2, u3, u4, u5⟩ ⟨e1, e2, e3, e4, g, e5⟩
      dsimp only at e1 e2 e3 e4 g e5 ⊢
      subst e1; subst e2; subst e3; subst e4
      obtain ⟨h', hk', hn'⟩ := st g
      exact ⟨_, by rw [gI_ok h'.k, bs, h'.i1, if_pos (le_y (by omega))], rfl, g⟩
theorem C_minJ (A : AH) (a b : Int64) : fJ9_min_f86c9 A a b = some (if 0 ≤ lg_cmp b a then a else b) := by
  unfold fJ9_min_f86c9
  have h1 := lgc_gt (x := a) (y := b)
  have h2 := lgc_lt (x := b) (y := a)
  by_cases q : b.toInt < a.toInt
  · rw [if_pos (h1.mpr q), if_neg]
    intro z
    have := h2.mpr q
    exact absurd (Int32.lt_iff_toInt_lt.mp this) (by have := Int32.le_iff_toInt_le.mp z; omega)
  · rw [if_neg (fun z => q (h1.mp z)), if_pos]
    rw [Int32.le_iff_toInt_le]
    have : ¬ lg_cmp b a < 0 := fun z => q (h2.mp z)
    rw [Int32.lt_iff_toInt_lt] at this
    omega
def mxC (N : Nat) (L : Nat → Nat) (v : Nat) : Int64 := if v = 0 then cV N L 0 else mnC N L v
theorem mxC_s (N : Nat) (L : Nat → Nat) (v : Nat) : (if 0 ≤ lg_cmp (cV N L v) (mxC N L v) then mxC N L v else cV N L v) = mxC N L (v + 1) := by
  have e1 : mxC N L (v + 1) = mnC N L (v + 1) := if_neg (by omega)
  have e2 : mnC N L (v + 1) = if v = 0 then cV N L v else if 0 ≤ lg_cmp (cV N L v) (mnC N L v) then mnC N L v else cV N L v := rfl
  rw [e1, e2]
  by_cases q : v = 0
  · have e3 : mxC N L v = cV N L v := by unfold mxC; rw [if_pos q, q]
    rw [if_pos q, e3]
    split <;> rfl
  · have e3 : mxC N L v = mnC N L v := if_neg q
    rw [if_neg q, e3]
/-- a step that writes the turns' cells of row r alone -/
def Ft (r : Nat) (A B : AH) : Prop := Fr (fun a => a = r) A B ∧ (∀ f, f ≠ 230 → f ≠ 232 → Hi B f r = Hi A f r)
theorem C_tryTurns (h : RD A x r N L P Q) (hV : VW N L P Q) (hc : RCt A r N L) : ∃ A', fX7_tryTurns A (some r) = some A' ∧ Ft r A A' ∧ Hj A' 231 r = mnC N L (4 * N) ∧ Hi A' 232 r = I (knC N L (4 * N)) ∧ RCt A' r N L := by
  have hN := hV.1
  have ha := h.a
  obtain ⟨b, b1, b2⟩ := hc
  unfold fX7_tryTurns
  rw [rcv_ok h.k, bs, gI_ok h.k, bs, b1]
  cases b with
  | true =>
    rw [if_neg (by decide)]
    exact ⟨A, rfl, ⟨Fr.rf, fun _ _ _ => rfl⟩, (b2 (Or.inl rfl)).1, (b2 (Or.inl rfl)).2, true, b1, b2⟩
  | false =>
    rw [if_pos (by decide), gI_ok h.k, bs, h.i1]
    by_cases h0 : N = 0
    · rw [if_pos (by rw [h0]; rfl)]
      exact ⟨A, rfl, ⟨Fr.rf, fun _ _ _ => rfl⟩, (b2 (Or.inr h0)).1, (b2 (Or.inr h0)).2, false, b1, b2⟩
    have hN0 : 0 < N := by omega
    rw [if_neg (show ¬ I ((2 * N : Nat) : Int) = 0 from eq_n (b := 0) (by omega)), gI_ok h.k, bs, h.i0, nA_ok (by omega) (by omega) (by omega), bs, Int.toNat_natCast]
    -- the row of names is new
    have g0 : Fr (fun a => a = r) A (nw A 14 N) := Fr.rf.nW (by decide)
    have hs0 : Hs (nw A 14 N) = Hs A + 1 := rfl
    have st : ∀ {B : AH}, Fr (fun a => a = r) A B → (∀ f, f ≠ 230 → f ≠ 232 → Hi B f r = Hi A f r) → (Hk B (Hs A) = 14 ∧ Hn B (Hs A) = N) → Hs A < Hs B → RD B x r N L P Q := fun {B} g1 g2 g3 g4 => by
      have e := fun j (h1 : 1 ≤ j) (hj : j ≤ 5) => g1.2.2.2.1 (r + j) (Or.inl ⟨by omega, by omega⟩)
      exact h.mv g1.1 g1.2.1 (g2 _ (by decide) (by decide)) (g2 _ (by decide) (by decide)) (fun f hf => g1.2.2.1 f r (by omega) hf) (fun j h2 h5 => (e j (by omega) h5).2.2.2.1)
    have cod : ∀ {B : AH} {v : Nat}, Fr (fun a => a = r) A B → (∀ f, f ≠ 230 → f ≠ 232 → Hi B f r = Hi A f r) → (Hk B (Hs A) = 14 ∧ Hn B (Hs A) = N) → Hs A < Hs B → v < 4 * N → ∃ y, fX7_codeFrom B (some r) (I ((v / 2 : Nat) : Int)) (bI (v % 2 = 1)) (some (Hs A)) = some y ∧ y.1 = cV N L v ∧ Fr (fun a => a = r) A y.2 ∧ (∀ f, Hi y.2 f r = Hi B f r) ∧ (∀ f, Hj y.2 f r = Hj B f r) ∧ (Hk y.2 (Hs A) = 14 ∧ Hn y.2 (Hs A) = N) ∧ Hs A < Hs y.2 ∧ RD y.2 x r N L P Q := fun {B v} g1 g2 g3 g4 hv => by
      have hB := st g1 g2 g3 g4
      obtain ⟨y, y1, y2, y3⟩ := C_codeFrom hB hV g3 g4 (by omega) hv
      have er := y3.2.2.2.1 r (Or.inl ⟨by omega, by omega⟩)
      have g5 : Fr (fun a => a = r) A y.2 := g1.tr y3 (fun a q1 q2 => by omega)
      have g6 : Hk y.2 (Hs A) = 14 ∧ Hn y.2 (Hs A) = N := by rw [(y3.2.1 _ g4).1, (y3.2.1 _ g4).2]; exact g3
      have g7 : Hs A < Hs y.2 := Nat.lt_of_lt_of_le g4 y3.1
      exact ⟨y, y1, y2, g5, er.1, er.2.1, g6, g7, st g5 (fun f f1 f2 => by rw [er.1]; exact g2 f f1 f2) g6 g7⟩
    have k0 : Hk (nw A 14 N) (Hs A) = 14 ∧ Hn (nw A 14 N) (Hs A) = N := ⟨if_pos rfl, if_pos rfl⟩
    obtain ⟨y, y1, y2, y3, y4, y5, y6, y7, y8⟩ := cod (v := 0) g0 (fun _ _ _ => rfl) k0 (by omega) (by omega)
    have y1 : fX7_codeFrom (nw A 14 N) (some r) 0 0 (some (Hs A)) = some y := y1
    have y4' : ∀ f, Hi y.2 f r = Hi A f r := fun f => by rw [y4]; rfl
    rw [y1, bs, y2, pJ_ok y8.k, bs, pI_ok (A := sj y.2 231 r (cV N L 0)) y8.k, bs]
    let Gd : Nat → AH → Prop := fun v B => Fr (fun a => a = r) A B ∧ (∀ f, f ≠ 230 → f ≠ 232 → Hi B f r = Hi A f r) ∧ (Hk B (Hs A) = 14 ∧ Hn B (Hs A) = N) ∧ Hs A < Hs B ∧ Hj B 231 r = mxC N L v ∧ Hi B 232 r = I (knC N L v)
    have init : Gd 0 (si (sj y.2 231 r (cV N L 0)) 232 r 0) := by
      refine ⟨(y3.wJ (Or.inl rfl) (by omega)).wI (Or.inl rfl) (by show r < Hs y.2; omega), fun f f1 f2 => ?_, y6, y7, ?_, ?_⟩
      · rw [hi_si_ne f2, hi_sj]; exact y4' f
      · rw [hj_si, hj_sj]; rfl
      · rw [hi_si]; show (0 : Int32) = I ((knC N L 0 : Nat) : Int); unfold knC; rw [if_neg h0]; rfl
    refine for_eb2 (2 * N) (fun i u => u.1 = I i ∧ Gd (2 * i) u.2) (fun t => Gd (4 * N) t) ⟨rfl, init⟩ ?_ ?_ ?_
    · rintro i ⟨u1, u2⟩ hi ⟨e1, gd⟩
      dsimp only at e1 gd ⊢
      subst e1
      have hB := st gd.1 gd.2.1 gd.2.2.1 gd.2.2.2.1
      rw [gI_ok hB.k, bs, hB.i1, if_neg (le_n (by omega))]
      refine for_eb 2 (fun w u => u.1 = I w ∧ Gd (2 * i + w) u.2) (fun t => Gd (2 * (i + 1)) t) ⟨rfl, gd⟩ ?_ ?_ (fun t ht => ⟨_, rfl, _, rfl, by dsimp only; rw [L_1, I_add, ← cst], ht⟩)
      · rintro w ⟨w1, w2⟩ hw ⟨f1, gw⟩
        dsimp only at f1 gw ⊢
        subst f1
        obtain ⟨z, z1, z2, z3, z4, z5, z6, z7, z8⟩ := cod (v := 2 * i + w) gw.1 gw.2.1 gw.2.2.1 gw.2.2.2.1 (by omega)
        rw [show (2 * i + w) / 2 = i by omega] at z1
        have ew : (if I (w : Int) = 1 then (1 : Int32) else 0) = bI ((2 * i + w) % 2 = 1) := by
          rw [ite_bI]
          exact bIc (by rw [L_1, I_eq (by omega) (by omega)]; omega)
        have hkl := knC_le N L (2 * i + w)
        have ej : Hj z.2 231 r = mxC N L (2 * i + w) := by rw [z5]; exact gw.2.2.2.2.1
        have ei : Hi z.2 232 r = I (knC N L (2 * i + w)) := by rw [z4]; exact gw.2.2.2.2.2
        have emx := mxC_s N L (2 * i + w)
        rw [if_neg (show ¬ (2 : Int32) ≤ I (w : Int) from le_n (a := 2) (by omega)), jp1_eq, ew, z1, bs, gJ_ok z8.k, bs, ej, C_minJ, bs, z2, emx, pJ_ok z8.k, bs, jp_eq]
        have hk' : knC N L (2 * i + w + 1) = knC N L (2 * i + w) + (if lg_cmp (cV N L (2 * i + w)) (cV N L 0) = 0 then 1 else 0) := rfl
        by_cases q : lg_cmp (cV N L (2 * i + w)) (cV N L 0) = 0
        · rw [if_pos q] at hk'
          rw [if_pos q, gI_ok (A := sj z.2 231 r (mxC N L (2 * i + w + 1))) z8.k, bs, hi_sj, ei, pI_ok (A := sj z.2 231 r (mxC N L (2 * i + w + 1))) z8.k, bs, L_1, I_add, I_add, ← cst, ← cst, ← hk']
          refine ⟨_, rfl, rfl, (z3.wJ (Or.inl rfl) (by omega)).wI (Or.inl rfl) (by show r < Hs z.2; omega), fun f f1 f2 => ?_, z6, z7, ?_, hi_si⟩
          · dsimp only; rw [hi_si_ne f2, hi_sj, z4]; exact gw.2.1 f f1 f2
          · dsimp only; rw [hj_si, hj_sj]; rfl
        · rw [if_neg q] at hk'
          rw [if_neg q, L_1, I_add, ← cst]
          refine ⟨_, rfl, rfl, z3.wJ (Or.inl rfl) (by omega), fun f f1 f2 => ?_, z6, z7, ?_, ?_⟩
          · dsimp only; rw [hi_sj, z4]; exact gw.2.1 f f1 f2
          · dsimp only; rw [hj_sj]; rfl
          · dsimp only; rw [hi_sj, ei, show 2 * i + (w + 1) = 2 * i + w + 1 by omega, hk']; rfl
      · rintro ⟨w1, w2⟩ ⟨f1, gw⟩
        dsimp only at f1 gw ⊢
        subst f1
        exact ⟨w2, rfl, gw⟩
    · rintro ⟨u1, u2⟩ ⟨e1, gd⟩
      dsimp only at e1 gd ⊢
      subst e1
      have hB := st gd.1 gd.2.1 gd.2.2.1 gd.2.2.2.1
      refine ⟨u2, by rw [gI_ok hB.k, bs, hB.i1, if_pos (le_y (by omega))], ?_⟩
      rw [show 2 * (2 * N) = 4 * N by omega] at gd
      exact gd
    · rintro T ⟨g1, g2, g3, g4, g5, g6⟩
      have hT := st g1 g2 g3 g4
      have e5 : Hj T 231 r = mnC N L (4 * N) := by
        rw [g5]; show (if 4 * N = 0 then _ else _) = _; rw [if_neg (by omega)]
      rw [pZ_1 hT.k, bs]
      have x2 : Hi (si T 230 r 1) 232 r = I (knC N L (4 * N)) := by rw [hi_si_ne (by decide)]; exact g6
      exact ⟨_, rfl, ⟨g1.wI (Or.inl rfl) (by omega), fun f f1 f2 => by rw [hi_si_ne f1]; exact g2 f f1 f2⟩, e5, x2, true, hi_si, fun _ => ⟨e5, x2⟩⟩
/-! drawings kept -/
theorem dwn_no (N : Nat) (L P : Nat → Nat) : ∀ {n : Nat}, dws N L P n = 0 → dwn N L P n = -1
  | 0, _ => rfl
  | n + 1, h => by
    have h' : dws N L P n + (if faces N L P n = N + 2 then 1 else 0) = 0 := h
    have ih := dwn_no N L P (n := n) (by omega)
    show (if dwn N L P n = -1 ∧ faces N L P n = N + 2 then (n : Int) else dwn N L P n) = -1
    rw [if_neg (fun z => by rw [if_pos z.2] at h'; omega)]
    exact ih
theorem dwn_yes (N : Nat) (L P : Nat → Nat) : ∀ {n : Nat}, dws N L P n ≠ 0 → dwn N L P n ≠ -1
  | 0, h => absurd rfl h
  | n + 1, h => by
    have h' : dws N L P n + (if faces N L P n = N + 2 then 1 else 0) ≠ 0 := h
    show (if dwn N L P n = -1 ∧ faces N L P n = N + 2 then (n : Int) else dwn N L P n) ≠ -1
    by_cases q : dwn N L P n = -1
    · by_cases z : faces N L P n = N + 2
      · rw [if_pos ⟨q, z⟩]; omega
      · rw [if_neg z] at h'
        exact absurd q (dwn_yes N L P (n := n) (by omega))
    · rw [if_neg (fun z => q z.1)]; exact q
/-- a step that writes the drawings' cells of row r and the heaps alone -/
def Fg (x r : Nat) (A B : AH) : Prop := Fr (fun a => hS x a ∨ a = r) A B ∧ (∀ f, f ≠ 233 → f ≠ 234 → f ≠ 235 → Hi B f r = Hi A f r) ∧ ∀ f, Hj B f r = Hj A f r
theorem Fg.rd (g : Fg x r A B) (h : RD A x r N L P Q) : RD B x r N L P Q := by
  have ha := h.a
  have e := fun j (h1 : 1 ≤ j) (hj : j ≤ 5) => g.1.2.2.2.1 (r + j) (Or.inl ⟨by omega, fun q => by rcases q with (q | q) | q <;> omega⟩)
  exact h.mv g.1.1 g.1.2.1 (g.2.1 _ (by decide) (by decide) (by decide)) (g.2.1 _ (by decide) (by decide) (by decide)) (fun f hf => g.1.2.2.1 f r (by omega) hf) (fun j h2 h5 => (e j (by omega) h5).2.2.2.1)
theorem C_trySigns (hC : CI A x) (h : RD A x r N L P Q) (hV : VW N L P Q) (hc : RCs A r N L P) : ∃ A', fX7_trySigns A (some r) (some (x + 20)) = some A' ∧ Fg x r A A' ∧ Hi A' 234 r = I (dwn N L P (2 ^ N)) ∧ Hi A' 235 r = I (dws N L P (2 ^ N)) ∧ RCs A' r N L P := by
  have hN := hV.1
  have ha := h.a
  have hp := p2_lt hN
  obtain ⟨b, b1, b2, b3⟩ := hc
  unfold fX7_trySigns
  rw [rcv_ok h.k, bs, gI_ok h.k, bs, b1]
  cases b with
  | true =>
    rw [if_neg (by decide)]
    exact ⟨A, rfl, ⟨Fr.rf, fun _ _ _ _ => rfl, fun _ => rfl⟩, b2, b3, true, b1, b2, b3⟩
  | false =>
    rw [if_pos (by decide)]
    have b2 : Hi A 234 r = I (-1) := b2
    have b3 : Hi A 235 r = I ((0 : Nat) : Int) := b3
    refine for_eb (2 ^ N) (fun j u => u.1 = I j ∧ Fg x r A u.2 ∧ Hi u.2 234 r = I (dwn N L P j) ∧ Hi u.2 235 r = I (dws N L P j)) (fun t => Fg x r A t ∧ Hi t 234 r = I (dwn N L P (2 ^ N)) ∧ Hi t 235 r = I (dws N L P (2 ^ N))) ⟨rfl, ⟨Fr.rf, fun _ _ _ _ => rfl, fun _ => rfl⟩, b2, b3⟩ ?_ ?_ ?_
    · rintro j ⟨u1, u2⟩ hj ⟨e1, g, e2, e3⟩
      dsimp only at e1 g e2 e3 ⊢
      subst e1
      have h1 := g.rd h
      have hl := dws_le N L P j
      have hf := faces_le N L P j
      obtain ⟨y, y1, y2, y3, -⟩ := C_countIn (hC.fr g.1) h1 hV (sg := j) (by omega)
      have er := y3.2.2.2.1 r (Or.inl ⟨by have := h1.a; omega, fun q => by rcases q with q | q <;> omega⟩)
      have h2 := h1.fh y3
      have g2 : Fg x r A y.2 := ⟨g.1.tr y3 (fun a q _ => Or.inl q), fun f f1 f2 f3 => by rw [er.1]; exact g.2.1 f f1 f2 f3, fun f => by rw [er.2.1]; exact g.2.2 f⟩
      have hr2 : r < Hs y.2 := by have := h2.a; omega
      have e2' : Hi y.2 234 r = I (dwn N L P j) := by rw [er.1]; exact e2
      have e3' : Hi y.2 235 r = I (dws N L P j) := by rw [er.1]; exact e3
      rw [gI_ok h1.k, bs, h1.i0, I_shl1 (by omega), if_neg (le_n (by omega)), y1, bs, gI_ok h2.k, bs, h2.i0, y2, L_2, I_add, jp_eq]
      have sd : dws N L P (j + 1) = dws N L P j + (if faces N L P j = N + 2 then 1 else 0) := rfl
      have sn : dwn N L P (j + 1) = if dwn N L P j = -1 ∧ faces N L P j = N + 2 then (j : Int) else dwn N L P j := rfl
      by_cases z : faces N L P j = N + 2
      · rw [if_pos z] at sd
        rw [if_pos (by rw [z]; rfl), gI_ok h2.k, bs, e3', jp_eq]
        by_cases w : dws N L P j = 0
        · have k1 : RD (si y.2 234 r (I j)) x r N L P Q := h2.mv (Nat.le_refl _) (fun _ _ => ⟨rfl, rfl⟩) (hi_si_ne (by decide)) (hi_si_ne (by decide)) (fun _ _ => rfl) (fun _ _ _ => rfl)
          have e4 : Hi (si y.2 234 r (I (j : Int))) 235 r = I (dws N L P j) := by rw [hi_si_ne (by decide)]; exact e3'
          rw [if_pos (by rw [w]; rfl), pI_ok h2.k, bs]
          dsimp only
          rw [gI_ok k1.k, bs, e4, pI_ok k1.k, bs, L_1, I_add, I_add, ← cst, ← cst]
          rw [if_pos ⟨dwn_no N L P w, z⟩] at sn
          refine ⟨_, rfl, rfl, ⟨(g2.1.wI (Or.inl (Or.inr rfl)) hr2).wI (Or.inl (Or.inr rfl)) hr2, fun f f1 f2 f3 => ?_, g2.2.2⟩, ?_, by dsimp only; rw [hi_si, sd]⟩
          · dsimp only; rw [hi_si_ne f3, hi_si_ne f2]; exact g2.2.1 f f1 f2 f3
          · dsimp only; rw [hi_si_ne (by decide), hi_si, sn]
        · rw [if_neg (show ¬ I _ = (0 : Int32) from eq_n (b := 0) (by omega))]
          dsimp only
          rw [gI_ok h2.k, bs, e3', pI_ok h2.k, bs, L_1, I_add, I_add, ← cst, ← cst]
          rw [if_neg (fun q => dwn_yes N L P w q.1)] at sn
          refine ⟨_, rfl, rfl, ⟨g2.1.wI (Or.inl (Or.inr rfl)) hr2, fun f f1 f2 f3 => ?_, g2.2.2⟩, ?_, by dsimp only; rw [hi_si, sd]⟩
          · dsimp only; rw [hi_si_ne f3]; exact g2.2.1 f f1 f2 f3
          · dsimp only; rw [hi_si_ne (by decide), e2', sn]
      · rw [if_neg z] at sd
        rw [if_neg (fun q => z q.2)] at sn
        rw [if_neg (eq_n (by omega)), L_1, I_add, ← cst]
        exact ⟨_, rfl, rfl, g2, by dsimp only; rw [e2', sn], by dsimp only; rw [e3', sd]; rfl⟩
    · rintro ⟨u1, u2⟩ ⟨e1, g, e2, e3⟩
      dsimp only at e1 g e2 e3 ⊢
      subst e1
      have h1 := g.rd h
      exact ⟨u2, by rw [gI_ok h1.k, bs, h1.i0, I_shl1 (by omega), if_pos (le_y ⟨Bd_n (by omega), Bd_n (by omega), Int.le_refl _⟩)], g, e2, e3⟩
    · rintro T ⟨g, e2, e3⟩
      have hT := g.rd h
      have hr := hT.a
      rw [pZ_1 hT.k, bs]
      have x2 : Hi (si T 233 r 1) 234 r = I (dwn N L P (2 ^ N)) := by rw [hi_si_ne (by decide)]; exact e2
      have x3 : Hi (si T 233 r 1) 235 r = I (dws N L P (2 ^ N)) := by rw [hi_si_ne (by decide)]; exact e3
      exact ⟨_, rfl, ⟨g.1.wI (Or.inl (Or.inr rfl)) (by omega), fun f f1 f2 f3 => by rw [hi_si_ne f1]; exact g.2.1 f f1 f2 f3, g.2.2⟩, x2, x3, true, hi_si, x2, x3⟩
/-! sets by rings kept -/
/-- a step that writes the rings' cells of row r and the heaps alone -/
def Fk (x r : Nat) (A B : AH) : Prop := Fr (fun a => hS x a ∨ a = r ∨ a = r + 1) A B ∧ (∀ f, f ≠ 236 → Hi B f r = Hi A f r) ∧ ∀ f, Hj B f r = Hj A f r
theorem Fk.rd (g : Fk x r A B) (h : RD A x r N L P Q) : RD B x r N L P Q := by
  have ha := h.a
  have e := fun j (h1 : 2 ≤ j) (hj : j ≤ 5) => g.1.2.2.2.1 (r + j) (Or.inl ⟨by omega, fun q => by rcases q with (q | q) | q | q <;> omega⟩)
  exact h.mv g.1.1 g.1.2.1 (g.2.1 _ (by decide)) (g.2.1 _ (by decide)) (fun f hf => g.1.2.2.1 f r (by omega) hf) (fun j h2 h5 => (e j (by omega) h5).2.2.2.1)
theorem C_setsWithRings (hC : CI A x) (h : RD A x r N L P Q) (hV : VW N L P Q) (hc : RCr A r N P Q) {k : Nat} (hk : k < 10) : ∃ y, fX7_setsWithRings A (some r) (I k) (some (x + 20)) = some y ∧ y.1 = I (sts N P Q k (2 ^ N)) ∧ Fk x r A y.2 ∧ RCr y.2 r N P Q := by
  have hN := hV.1
  have ha := h.a
  have hp := p2_lt hN
  obtain ⟨b, b1, b2⟩ := hc
  unfold fX7_setsWithRings
  rw [rcv_ok h.k, bs, gI_ok h.k, bs, b1, jp_eq]
  have fin : ∀ B, Fk x r A B → Hi B 236 r = 1 → (∀ k, k < 10 → He B (r + 1) k = I (sts N P Q k (2 ^ N))) → ∃ y, (if I (k : Int) < 0 then some ((0 : Int32), B) else (gR B 8 237 (some r)).bind fun v22 => (aL B 14 v22).bind fun v23 => if v23 ≤ I (k : Int) then some (0, B) else (gR B 8 237 (some r)).bind fun v24 => (aI B 14 v24 (I k)).bind fun v25 => some (v25, B)) = some y ∧ y.1 = I (sts N P Q k (2 ^ N)) ∧ Fk x r A y.2 ∧ RCr y.2 r N P Q := by
    intro B g e1 e2
    have hB := g.rd h
    rw [if_neg (show ¬ I (k : Int) < (0 : Int32) from lt_n (b := 0) (by omega)), hB.r1, bs, aL_at hB.k1, bs, if_neg (le_n (by omega)), bs, aI_at hB.k1 hk (by omega), bs, e2 k hk]
    exact ⟨_, rfl, rfl, g, true, e1, e2⟩
  cases b with
  | true =>
    rw [if_neg (by decide)]
    exact fin A ⟨Fr.rf, fun _ _ => rfl, fun _ => rfl⟩ b1 b2
  | false =>
    rw [if_pos (by decide)]
    have b2 : ∀ k, k < 10 → He A (r + 1) k = I ((0 : Nat) : Int) := b2
    refine for_eb (2 ^ N) (fun j u => u.1 = I j ∧ Fk x r A u.2 ∧ ∀ k : Nat, k < 10 → He u.2 (r + 1) k = I (sts N P Q k j)) (fun t => Fk x r A t ∧ ∀ k : Nat, k < 10 → He t (r + 1) k = I (sts N P Q k (2 ^ N))) ⟨rfl, ⟨Fr.rf, fun _ _ => rfl, fun _ => rfl⟩, b2⟩ ?_ ?_ ?_
    · rintro j ⟨u1, u2⟩ hj ⟨e1, g, e2⟩
      dsimp only at e1 g e2 ⊢
      subst e1
      have h1 := g.rd h
      have hrg := rings_le N P Q j
      obtain ⟨y, y1, y2, y3⟩ := C_ringsOf (hC.fr g.1) h1 hV (s := j) (by omega)
      have er := y3.2.2.2.1 r (Or.inl ⟨by have := h1.a; omega, fun q => by rcases q with q | q <;> omega⟩)
      have er1 := y3.2.2.2.1 (r + 1) (Or.inl ⟨by have := h1.a; omega, fun q => by rcases q with q | q <;> omega⟩)
      have h2 := h1.fh y3
      have g2 : Fk x r A y.2 := ⟨g.1.tr y3 (fun a q _ => Or.inl q), fun f f1 => by rw [er.1]; exact g.2.1 f f1, fun f => by rw [er.2.1]; exact g.2.2 f⟩
      have e2' : ∀ k : Nat, k < 10 → He y.2 (r + 1) k = I (sts N P Q k j) := fun k hk => by rw [er1.2.2.2.1]; exact e2 k hk
      have ss : ∀ k : Nat, sts N P Q k (j + 1) = sts N P Q k j + (if (rings N P Q j : Int) = (k : Int) then 1 else 0) := fun _ => rfl
      rw [gI_ok h1.k, bs, h1.i0, I_shl1 (by omega), if_neg (le_n (by omega)), y1, bs, y2, jp_eq, if_neg (show ¬ I _ < (0 : Int32) from lt_n (b := 0) (by omega)), h2.r1, bs, aL_at h2.k1, bs]
      by_cases z : rings N P Q j < 10
      · have hl := sts_le N P Q (rings N P Q j) j
        rw [if_neg (le_n (by omega)), bs, aI_at h2.k1 z (by omega), bs, e2' _ z, sI_at h2.k1 z (by omega), bs, L_1, I_add, I_add, ← cst, ← cst]
        refine ⟨_, rfl, rfl, ⟨g2.1.wE (Or.inl (Or.inr (Or.inr rfl))) (by have := h2.a; omega), g2.2.1, g2.2.2⟩, fun k hk => ?_⟩
        dsimp only
        rw [he_se, ss]
        by_cases w : k = rings N P Q j
        · rw [if_pos w, if_pos (by omega), w]
        · rw [if_neg w, if_neg (by omega)]; exact e2' k hk
      · rw [if_pos (le_y (by omega)), L_1, I_add, ← cst]
        refine ⟨_, rfl, rfl, g2, fun k hk => ?_⟩
        dsimp only
        rw [ss, if_neg (by omega)]; exact e2' k hk
    · rintro ⟨u1, u2⟩ ⟨e1, g, e2⟩
      dsimp only at e1 g e2 ⊢
      subst e1
      have h1 := g.rd h
      exact ⟨u2, by rw [gI_ok h1.k, bs, h1.i0, I_shl1 (by omega), if_pos (le_y ⟨Bd_n (by omega), Bd_n (by omega), Int.le_refl _⟩)], g, e2⟩
    · rintro T ⟨g, e2⟩
      have hT := g.rd h
      rw [pZ_1 hT.k, bs]
      exact fin _ ⟨g.1.wI (Or.inl (Or.inr (Or.inl rfl))) (by have := hT.a; omega), fun f f1 => by rw [hi_si_ne f1]; exact g.2.1 f f1, g.2.2⟩ hi_si e2
end
