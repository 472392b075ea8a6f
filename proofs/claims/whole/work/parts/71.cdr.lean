/-! the class's draft; a row made of it -/
theorem nn_cong {D E : Nat → Nat} {n : Nat} (h : ∀ i j, i < n → j < n → (D i = D j ↔ E i = E j)) {i : Nat} (hi : i < n) : nn D (D i) i = nn E (E i) i := by
  have f1 : ∀ (k v : Nat), k ≤ n → v < n → fr0 D (D v) k = fr0 E (E v) k := fun k v hk hv => by
    rw [Bool.eq_iff_iff, fr0_iff, fr0_iff]
    exact ⟨fun ⟨j, j1, j2⟩ => ⟨j, j1, (h j v (by omega) hv).mp j2⟩, fun ⟨j, j1, j2⟩ => ⟨j, j1, (h j v (by omega) hv).mpr j2⟩⟩
  have key : ∀ k, k ≤ n → nn D (D i) k = nn E (E i) k := by
    intro k
    induction k with
    | zero => intro _; rfl
    | succ k ih =>
      intro hk
      show nn D (D i) k + (if fr0 D (D k) k = false ∧ fr0 D (D i) (k + 1) = false then 1 else 0) = nn E (E i) k + (if fr0 E (E k) k = false ∧ fr0 E (E i) (k + 1) = false then 1 else 0)
      rw [ih (by omega), f1 k k (by omega) (by omega), f1 (k + 1) i hk hi]
  exact key i (by omega)
/-- a step that makes new cells and leaves the old ones -/
def Ex (A B : AH) : Prop := Hs A ≤ Hs B ∧ (∀ a, a < Hs A → Hk B a = Hk A a ∧ Hn B a = Hn A a ∧ Eq8 A B a) ∧ ∀ a, Hs B ≤ a → Eq8 A B a
section
variable {A B C : AH} {a x r : Nat} {l : List Nat}
theorem Ex.rf : Ex A A := ⟨Nat.le_refl _, fun _ _ => ⟨rfl, rfl, Eq8.rf⟩, fun _ _ => Eq8.rf⟩
theorem Ex.tr (h : Ex A B) (g : Ex B C) : Ex A C := ⟨Nat.le_trans h.1 g.1, fun a ha => by
    have x := h.2.1 a ha
    have y := g.2.1 a (by have := h.1; omega)
    exact ⟨y.1.trans x.1, y.2.1.trans x.2.1, x.2.2.tr y.2.2⟩, fun a ha => (h.2.2 a (by have := g.1; omega)).tr (g.2.2 a ha)⟩
theorem Ex.wE {i : Nat} {v : Int32} (h : Ex A B) (ha : Hs A ≤ a) (hb : a < Hs B) : Ex A (se B a i v) :=
  ⟨h.1, fun c hc => ⟨(h.2.1 c hc).1, (h.2.1 c hc).2.1, by have e := (h.2.1 c hc).2.2; exact ⟨e.1, e.2.1, e.2.2.1, (he_se_ne (by omega)).trans e.2.2.2.1, e.2.2.2.2⟩⟩, fun c hc => by have e := h.2.2 c hc; have hs : Hs (se B a i v) = Hs B := rfl; exact ⟨e.1, e.2.1, e.2.2.1, (he_se_ne (by omega)).trans e.2.2.2.1, e.2.2.2.2⟩⟩
theorem Ex.wI {f : Nat} {v : Int32} (h : Ex A B) (ha : Hs A ≤ a) (hb : a < Hs B) : Ex A (si B f a v) :=
  ⟨h.1, fun c hc => ⟨(h.2.1 c hc).1, (h.2.1 c hc).2.1, by have e := (h.2.1 c hc).2.2; exact ⟨fun g => (up2_ne (fun q => by omega)).trans (e.1 g), e.2⟩⟩, fun c hc => by have e := h.2.2 c hc; have hs : Hs (si B f a v) = Hs B := rfl; exact ⟨fun g => (up2_ne (fun q => by omega)).trans (e.1 g), e.2⟩⟩
theorem Ex.wJ {f : Nat} {v : Int64} (h : Ex A B) (ha : Hs A ≤ a) (hb : a < Hs B) : Ex A (sj B f a v) :=
  ⟨h.1, fun c hc => ⟨(h.2.1 c hc).1, (h.2.1 c hc).2.1, by have e := (h.2.1 c hc).2.2; exact ⟨e.1, fun g => (up2_ne (fun q => by omega)).trans (e.2.1 g), e.2.2⟩⟩, fun c hc => by have e := h.2.2 c hc; have hs : Hs (sj B f a v) = Hs B := rfl; exact ⟨e.1, fun g => (up2_ne (fun q => by omega)).trans (e.2.1 g), e.2.2⟩⟩
theorem Ex.wR {f : Nat} {v : Option Nat} (h : Ex A B) (ha : Hs A ≤ a) (hb : a < Hs B) : Ex A (sr B f a v) :=
  ⟨h.1, fun c hc => ⟨(h.2.1 c hc).1, (h.2.1 c hc).2.1, by have e := (h.2.1 c hc).2.2; exact ⟨e.1, e.2.1, fun g => (up2_ne (fun q => by omega)).trans (e.2.2.1 g), e.2.2.2⟩⟩, fun c hc => by have e := h.2.2 c hc; have hs : Hs (sr B f a v) = Hs B := rfl; exact ⟨e.1, e.2.1, fun g => (up2_ne (fun q => by omega)).trans (e.2.2.1 g), e.2.2.2⟩⟩
theorem Ex.nW {kd len : Nat} (h : Ex A B) : Ex A (nw B kd len) := by
  have hs : Hs (nw B kd len) = Hs B + 1 := rfl
  have h1 := h.1
  refine ⟨by omega, fun c hc => ?_, fun c hc => h.2.2 c (by omega)⟩
  have e1 : Hk (nw B kd len) c = Hk B c := if_neg (by omega)
  have e2 : Hn (nw B kd len) c = Hn B c := if_neg (by omega)
  rw [e1, e2]; exact h.2.1 c hc
theorem Ex.cl (g : Ex A B) (h : Cl A) : Cl B := fun a ha => by
  have e := g.2.2 a ha
  have z := h a (by have := g.1; omega)
  exact ⟨fun f => by rw [e.1 f]; exact z.1 f, fun f => by rw [e.2.1 f]; exact z.2.1 f, fun f => by rw [e.2.2.1 f]; exact z.2.2.1 f, fun i => by rw [e.2.2.2.1]; exact z.2.2.2.1 i, fun i => by rw [e.2.2.2.2]; exact z.2.2.2.2 i⟩
theorem Ex.ci (g : Ex A B) (h : CI A x) : CI B x := by
  obtain ⟨h1, h2, h3⟩ := h
  have b1 : ∀ q ∈ ciT, q.1 < 34 := by decide
  have b2 : ∀ q ∈ ciK, q.1 < 34 := by decide
  refine ⟨fun q hq => ?_, fun q hq => ?_, Nat.le_trans h3 g.1⟩
  · have := b1 q hq
    rw [(g.2.1 (x + q.1) (by omega)).2.2.2.2.1]; exact h1 q hq
  · have := b2 q hq
    have e := g.2.1 (x + q.1) (by omega)
    rw [e.1, e.2.1]; exact h2 q hq
/-- a step that writes elements of lo .. hi alone -/
def Wr (lo hi : Nat) (A B : AH) : Prop := Hk B = Hk A ∧ Hi B = Hi A ∧ Hj B = Hj A ∧ Hr B = Hr A ∧ Hn B = Hn A ∧ Hq B = Hq A ∧ Hs B = Hs A ∧ ∀ a, ¬ (lo ≤ a ∧ a ≤ hi) → He B a = He A a
theorem Wr.rf {lo hi : Nat} : Wr lo hi A A := ⟨rfl, rfl, rfl, rfl, rfl, rfl, rfl, fun _ _ => rfl⟩
theorem Wr.wE {lo hi i : Nat} {v : Int32} (h : Wr lo hi A B) (ha : lo ≤ a ∧ a ≤ hi) : Wr lo hi A (se B a i v) :=
  ⟨h.1, h.2.1, h.2.2.1, h.2.2.2.1, h.2.2.2.2.1, h.2.2.2.2.2.1, h.2.2.2.2.2.2.1, fun c hc => (he_se_ne (fun e => hc (by rw [e]; exact ha))).trans (h.2.2.2.2.2.2.2 c hc)⟩
theorem Wr.tr {lo hi : Nat} (h : Wr lo hi A B) (g : Wr lo hi B C) : Wr lo hi A C := ⟨g.1.trans h.1, g.2.1.trans h.2.1, g.2.2.1.trans h.2.2.1, g.2.2.2.1.trans h.2.2.2.1, g.2.2.2.2.1.trans h.2.2.2.2.1, g.2.2.2.2.2.1.trans h.2.2.2.2.2.1, g.2.2.2.2.2.2.1.trans h.2.2.2.2.2.2.1, fun a ha => (g.2.2.2.2.2.2.2 a ha).trans (h.2.2.2.2.2.2.2 a ha)⟩
theorem Wr.ex {lo hi : Nat} (h : Wr lo hi B C) (g : Ex A B) (h1 : Hs A ≤ lo) (h2 : hi < Hs B) : Ex A C := by
  obtain ⟨k1, k2, k3, k4, k5, k6, k7, k8⟩ := h
  refine ⟨by rw [k7]; exact g.1, fun a ha => ?_, fun a ha => ?_⟩
  · have e := g.2.1 a ha
    rw [k1, k5]
    exact ⟨e.1, e.2.1, by unfold Eq8; rw [k2, k3, k4, k6, k8 a (by omega)]; exact e.2.2⟩
  · rw [k7] at ha
    have e := g.2.2 a ha
    unfold Eq8
    rw [k2, k3, k4, k6, k8 a (by omega)]; exact e
/-! the draft -/
def DrL (A : AH) (x : Nat) (l : List Nat) : Prop := l.length ≤ 16 ∧ Hi A 33 (x + 18) = I l.length ∧ ∀ k, k < l.length → He A (x + 19) k = I (lD l k)
abbrev dS (x a : Nat) : Prop := a = x + 18 ∨ a = x + 19
theorem D_clear (hC : CI A x) : ∃ B, fX1_clear A (some (x + 18)) = some B ∧ Fr (dS x) A B ∧ DrL B x [] := by
  have hs := hC.2.2
  unfold fX1_clear
  rw [rcv_ok hC.k18, bs, pI_ok hC.k18, bs]
  exact ⟨_, rfl, Fr.rf.wI (Or.inl (Or.inl rfl)) (by omega), by show 0 ≤ 16; omega, hi_si, fun k hk => absurd hk (Nat.not_lt_zero k)⟩
theorem D_put (hC : CI A x) (h : DrL A x l) (hl : l.length < 16) (v : Nat) : ∃ B, fX1_put A (some (x + 18)) (I v) = some B ∧ Fr (dS x) A B ∧ DrL B x (l ++ [v]) := by
  have hs := hC.2.2
  unfold fX1_put
  rw [rcv_ok hC.k18, bs, gI_ok hC.k18, bs, h.2.1, hC.df2, bs, aL_at hC.k19, bs, if_neg (le_n (by omega)), bs, bs, sI_at hC.k19 hl (by omega), bs, gI_ok (A := se A (x + 19) l.length (I v)) hC.k18, bs, hi_se, h.2.1, pI_ok (A := se A (x + 19) l.length (I v)) hC.k18, bs, L_1, I_add, ← cst]
  refine ⟨_, rfl, (Fr.rf.wE (Or.inl (Or.inr rfl)) (by omega)).wI (Or.inl (Or.inl rfl)) (by show x + 18 < Hs A; omega), by rw [List.length_append]; exact hl, by rw [hi_si, List.length_append]; rfl, fun k hk => ?_⟩
  rw [List.length_append] at hk
  have hk : k < l.length + 1 := hk
  rw [he_si, he_se, lD_app hk]
  by_cases q : k = l.length
  · rw [if_pos q, if_pos q]
  · rw [if_neg q, if_neg q]; exact h.2.2 k (by omega)
theorem D_putTwo (hC : CI A x) (h : DrL A x l) (hl : l.length + 1 < 16) (v u : Nat) : ∃ B, fX1_putTwo A (some (x + 18)) (I v) (I u) = some B ∧ Fr (dS x) A B ∧ DrL B x ((l ++ [v]) ++ [u]) := by
  obtain ⟨B, b1, b2, b3⟩ := D_put hC h (by omega) v
  obtain ⟨C, c1, c2, c3⟩ := D_put (hC.fr b2) b3 (by rw [List.length_append]; exact hl) u
  unfold fX1_putTwo
  rw [rcv_ok hC.k18, bs, b1, bs, c1, bs]
  exact ⟨C, rfl, b2.tr' c2, c3⟩
theorem D_twin (hC : CI A x) (h : DrL A x l) (hb : ∀ k, k < l.length → lD l k < 1000) {i : Nat} (hi : i < l.length) : fX1_earlierTwin A (some (x + 18)) (I i) = some (I (frst (fun k => decide (lD l k = lD l i)) i)) := by
  have hl := h.1
  unfold fX1_earlierTwin
  rw [rcv_ok hC.k18, bs, gI_ok hC.k18, bs, h.2.1, if_pos (lt_y (by omega))]
  refine frst_b' (fun k => decide (lD l k = lD l i)) i (fun k hk => ?_) ?_
  · have b1 := hb k (by omega)
    have b2 := hb i hi
    rw [if_neg (le_n (by omega)), hC.df2, bs, aI_at hC.k19 (by omega) (by omega), bs, bs, aI_at hC.k19 (by omega) (by omega), bs, h.2.2 k (by omega), h.2.2 i hi]
    by_cases q : lD l k = lD l i
    · rw [if_pos (by rw [q]), if_pos (decide_eq_true q)]
    · rw [if_neg (eq_n (by omega)), if_neg (by rw [decide_eq_true_iff]; exact q), L_1, I_add, ← cst]
  · rw [if_pos (le_y (by omega))]
theorem DrL.mv (h : DrL A x l) (h1 : Hi B 33 (x + 18) = Hi A 33 (x + 18)) (h2 : He B (x + 19) = He A (x + 19)) : DrL B x l := by
  unfold DrL
  rw [h1, h2]
  exact h
theorem frst_f {f : Nat → Bool} {n : Nat} : (frst f n = -1 ∧ ∀ j, j < n → f j = false) ∨ ∃ k : Nat, frst f n = k ∧ k < n ∧ f k = true := by
  by_cases q : anyB f n = true
  · right
    obtain ⟨j, j1, j2⟩ := anyB_iff.mp q
    obtain ⟨k, k1, k2, k3⟩ := least_ex (p := fun i => f i = true) j j2
    have h0 : anyB f k = false := by
      cases z : anyB f k with
      | false => rfl
      | true =>
        obtain ⟨g, g1, g2⟩ := anyB_iff.mp z
        exact absurd g2 (k3 g g1)
    have := frst_y h0 k2 (n - (k + 1))
    rw [show k + 1 + (n - (k + 1)) = n by omega] at this
    exact ⟨k, this, by omega, k2⟩
  · left
    have q' : anyB f n = false := by simpa using q
    refine ⟨frst_n q', fun j hj => ?_⟩
    cases z : f j with
    | false => rfl
    | true => rw [anyB_to hj z] at q'; cases q'
/-- a new row -/
def RwN (B : AH) (x r N : Nat) (L : Nat → Nat) : Prop := RD B x r N L (wP (N, L, 0)) (wQ (N, L, 0)) ∧ RC B r N L (wP (N, L, 0)) (wQ (N, L, 0))
theorem btw_strict {N : Nat} {L P Q : Nat → Nat} (hV : VW N L P Q) {c d : Nat} (hc : c < N) (hd : d < N) : (¬ ((P c < P d ∧ P d < Q c) ↔ (P c < Q d ∧ Q d < Q c))) ↔ Btw P Q c d := by
  obtain ⟨c1, c2, c3, c4⟩ := hV.2.1 c hc
  obtain ⟨d1, d2, d3, d4⟩ := hV.2.1 d hd
  by_cases e : c = d
  · subst e
    exact ⟨fun h => absurd ⟨fun z => by omega, fun z => by omega⟩ h, fun h => absurd rfl h.1⟩
  · have n1 : P c ≠ P d := fun z => e (by rw [← c3, z, d3])
    have n2 : P c ≠ Q d := fun z => e (by rw [← c3, z, d4])
    have n3 : Q c ≠ P d := fun z => e (by rw [← c4, z, d3])
    have n4 : Q c ≠ Q d := fun z => e (by rw [← c4, z, d4])
    have e1 : (P c < P d ∧ P d < Q c) ↔ (P c ≤ P d ∧ P d ≤ Q c) := by omega
    have e2 : (P c < Q d ∧ Q d < Q c) ↔ (P c ≤ Q d ∧ Q d ≤ Q c) := by omega
    rw [e1, e2]
    exact ⟨fun h => ⟨e, h⟩, fun h => h.2⟩
theorem C_once {N : Nat} {L P Q : Nat → Nat} (k8 : Hk A r = 8) (r3 : Hr A 227 r = some (r + 3)) (r4 : Hr A 228 r = some (r + 4)) (k3 : Hk A (r + 3) = 14 ∧ Hn A (r + 3) = N) (k4 : Hk A (r + 4) = 14 ∧ Hn A (r + 4) = N) (hV : VW N L P Q) (h3 : ∀ c, c < N → He A (r + 3) c = I (P c)) (h4 : ∀ c, c < N → He A (r + 4) c = I (Q c)) {c d : Nat} (hc : c < N) (hd : d < N) : fX7_standsOnceBetween A (some r) (I c) (I d) = some (bI (Btw P Q c d)) := by
  have hN := hV.1
  obtain ⟨c1, c2, -, -⟩ := hV.2.1 c hc
  obtain ⟨d1, d2, -, -⟩ := hV.2.1 d hd
  have g3 : gR A 8 227 (some r) = some (some (r + 3)) := by rw [gR_ok k8, r3]
  have g4 : gR A 8 228 (some r) = some (some (r + 4)) := by rw [gR_ok k8, r4]
  have hb := btw_strict hV hc hd
  unfold fX7_standsOnceBetween
  simp only [rcv_ok k8, bs, g3, g4, aI_at k3 hc (by omega : N ≤ 1000), aI_at k3 hd (by omega : N ≤ 1000), aI_at k4 hc (by omega : N ≤ 1000), aI_at k4 hd (by omega : N ≤ 1000), h3 c hc, h3 d hd, h4 c hc, h4 d hd, jp_eq]
  have fin : ∀ u v : Int32, u = bI (P c < P d ∧ P d < Q c) → v = bI (P c < Q d ∧ Q d < Q c) → (if u = v then some (0 : Int32) else some 1) = some (bI (Btw P Q c d)) := by
    intro u v hu hv
    rw [hu, hv, some_bI']
    refine congrArg some (bIc ?_)
    rw [bIe]; exact hb
  by_cases a1 : P c < P d
  · rw [if_neg (le_n (by omega))]
    by_cases a2 : P d < Q c
    · rw [if_neg (le_n (by omega))]
      by_cases b1 : P c < Q d
      · rw [if_neg (le_n (by omega))]
        by_cases b2 : Q d < Q c
        · rw [if_neg (le_n (by omega))]; exact fin 1 1 (bI1.mpr ⟨a1, a2⟩).symm (bI1.mpr ⟨b1, b2⟩).symm
        · rw [if_pos (le_y (by omega))]; exact fin 1 0 (bI1.mpr ⟨a1, a2⟩).symm (bI0.mpr (fun z => b2 z.2)).symm
      · rw [if_pos (le_y (by omega))]; exact fin 1 0 (bI1.mpr ⟨a1, a2⟩).symm (bI0.mpr (fun z => b1 z.1)).symm
    · rw [if_pos (le_y (by omega))]
      by_cases b1 : P c < Q d
      · rw [if_neg (le_n (by omega))]
        by_cases b2 : Q d < Q c
        · rw [if_neg (le_n (by omega))]; exact fin 0 1 (bI0.mpr (fun z => a2 z.2)).symm (bI1.mpr ⟨b1, b2⟩).symm
        · rw [if_pos (le_y (by omega))]; exact fin 0 0 (bI0.mpr (fun z => a2 z.2)).symm (bI0.mpr (fun z => b2 z.2)).symm
      · rw [if_pos (le_y (by omega))]; exact fin 0 0 (bI0.mpr (fun z => a2 z.2)).symm (bI0.mpr (fun z => b1 z.1)).symm
  · rw [if_pos (le_y (by omega))]
    by_cases b1 : P c < Q d
    · rw [if_neg (le_n (by omega))]
      by_cases b2 : Q d < Q c
      · rw [if_neg (le_n (by omega))]; exact fin 0 1 (bI0.mpr (fun z => a1 z.1)).symm (bI1.mpr ⟨b1, b2⟩).symm
      · rw [if_pos (le_y (by omega))]; exact fin 0 0 (bI0.mpr (fun z => a1 z.1)).symm (bI0.mpr (fun z => b2 z.2)).symm
    · rw [if_pos (le_y (by omega))]; exact fin 0 0 (bI0.mpr (fun z => a1 z.1)).symm (bI0.mpr (fun z => b1 z.1)).symm
end
