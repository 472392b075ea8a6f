/-! the class: frames, layout, small functions -/
def Eq8 (A A' : AH) (a : Nat) : Prop := (∀ f, Hi A' f a = Hi A f a) ∧ (∀ f, Hj A' f a = Hj A f a) ∧ (∀ f, Hr A' f a = Hr A f a) ∧ He A' a = He A a ∧ Hq A' a = Hq A a
theorem Eq8.rf {A : AH} {a : Nat} : Eq8 A A a := ⟨fun _ => rfl, fun _ => rfl, fun _ => rfl, rfl, rfl⟩
theorem Eq8.tr {A B C : AH} {a : Nat} (h : Eq8 A B a) (g : Eq8 B C a) : Eq8 A C a := ⟨fun f => (g.1 f).trans (h.1 f), fun f => (g.2.1 f).trans (h.2.1 f), fun f => (g.2.2.1 f).trans (h.2.2.1 f), g.2.2.2.1.trans h.2.2.2.1, g.2.2.2.2.trans h.2.2.2.2⟩
/-- a step of the class: it writes cells of S and new ones alone; it makes no row and no word -/
def Fr (S : Nat → Prop) (A A' : AH) : Prop := Hs A ≤ Hs A' ∧ (∀ a, a < Hs A → Hk A' a = Hk A a ∧ Hn A' a = Hn A a) ∧ (∀ f a, a < Hs A → f ≠ 322 → Hr A' f a = Hr A f a) ∧ (∀ a, (a < Hs A ∧ ¬ S a) ∨ Hs A' ≤ a → Eq8 A A' a) ∧ ∀ a, Hs A ≤ a → a < Hs A' → Hk A' a ≠ 8 ∧ Hk A' a ≠ 11
section
variable {S T : Nat → Prop} {A B C : AH} {a : Nat}
theorem Fr.rf : Fr S A A := ⟨Nat.le_refl _, fun _ _ => ⟨rfl, rfl⟩, fun _ _ _ _ => rfl, fun _ _ => Eq8.rf, fun a h1 h2 => by omega⟩
theorem Fr.tr (h : Fr S A B) (g : Fr T B C) (hT : ∀ a, T a → a < Hs A → S a) : Fr S A C := by
  obtain ⟨h1, h2, h3, h4, h5⟩ := h
  obtain ⟨g1, g2, g3, g4, g5⟩ := g
  refine ⟨by omega, fun a ha => ?_, fun f a ha hf => ?_, fun a ha => ?_, fun a ha hb => ?_⟩
  · have x := h2 a ha
    have y := g2 a (by omega)
    exact ⟨y.1.trans x.1, y.2.trans x.2⟩
  · rw [g3 f a (by omega) hf, h3 f a ha hf]
  · rcases ha with ⟨ha, hs⟩ | ha
    · exact (h4 a (Or.inl ⟨ha, hs⟩)).tr (g4 a (Or.inl ⟨by omega, fun q => hs (hT a q ha)⟩))
    · exact (h4 a (Or.inr (by omega))).tr (g4 a (Or.inr ha))
  · by_cases q : a < Hs B
    · rw [(g2 a q).1]; exact h5 a ha q
    · exact g5 a (by omega) hb
theorem Fr.tr' (h : Fr S A B) (g : Fr S B C) : Fr S A C := h.tr g (fun _ q _ => q)
theorem Fr.wk (h : Fr S A B) (hT : ∀ a, S a → a < Hs A → T a) : Fr T A B := ⟨h.1, h.2.1, h.2.2.1, fun a ha => h.2.2.2.1 a (ha.elim (fun q => Or.inl ⟨q.1, fun z => q.2 (hT a z q.1)⟩) Or.inr), h.2.2.2.2⟩
theorem Fr.wE {i : Nat} {v : Int32} (h : Fr S A B) (ha : S a ∨ Hs A ≤ a) (hb : a < Hs B) : Fr S A (se B a i v) := by
  refine ⟨h.1, h.2.1, h.2.2.1, fun c hc => ?_, h.2.2.2.2⟩
  have e := h.2.2.2.1 c hc
  have hs : Hs (se B a i v) = Hs B := rfl
  rw [hs] at hc
  have hne : c ≠ a := fun q => by subst q; rcases hc with hc | hc <;> rcases ha with ha | ha <;> first | exact hc.2 ha | omega
  exact ⟨e.1, e.2.1, e.2.2.1, (he_se_ne hne).trans e.2.2.2.1, e.2.2.2.2⟩
theorem Fr.wI {f : Nat} {v : Int32} (h : Fr S A B) (ha : S a ∨ Hs A ≤ a) (hb : a < Hs B) : Fr S A (si B f a v) := by
  refine ⟨h.1, h.2.1, h.2.2.1, fun c hc => ?_, h.2.2.2.2⟩
  have e := h.2.2.2.1 c hc
  have hs : Hs (si B f a v) = Hs B := rfl
  rw [hs] at hc
  have hne : c ≠ a := fun q => by subst q; rcases hc with hc | hc <;> rcases ha with ha | ha <;> first | exact hc.2 ha | omega
  exact ⟨fun g => (up2_ne (fun q => hne q.2)).trans (e.1 g), e.2⟩
theorem Fr.wJ {f : Nat} {v : Int64} (h : Fr S A B) (ha : S a ∨ Hs A ≤ a) (hb : a < Hs B) : Fr S A (sj B f a v) := by
  refine ⟨h.1, h.2.1, h.2.2.1, fun c hc => ?_, h.2.2.2.2⟩
  have e := h.2.2.2.1 c hc
  have hs : Hs (sj B f a v) = Hs B := rfl
  rw [hs] at hc
  have hne : c ≠ a := fun q => by subst q; rcases hc with hc | hc <;> rcases ha with ha | ha <;> first | exact hc.2 ha | omega
  exact ⟨e.1, fun g => (up2_ne (fun q => hne q.2)).trans (e.2.1 g), e.2.2⟩
theorem Fr.wQ {i : Nat} {v : Option Nat} (h : Fr S A B) (ha : S a ∨ Hs A ≤ a) (hb : a < Hs B) : Fr S A (sq B a i v) := by
  refine ⟨h.1, h.2.1, h.2.2.1, fun c hc => ?_, h.2.2.2.2⟩
  have e := h.2.2.2.1 c hc
  have hs : Hs (sq B a i v) = Hs B := rfl
  rw [hs] at hc
  have hne : c ≠ a := fun q => by subst q; rcases hc with hc | hc <;> rcases ha with ha | ha <;> first | exact hc.2 ha | omega
  exact ⟨e.1, e.2.1, e.2.2.1, e.2.2.2.1, (funext fun k => up2_ne (fun q => hne q.1)).trans e.2.2.2.2⟩
theorem Fr.wR {f : Nat} {v : Option Nat} (h : Fr S A B) (ha : (S a ∧ f = 322) ∨ Hs A ≤ a) (hb : a < Hs B) : Fr S A (sr B f a v) := by
  refine ⟨h.1, h.2.1, fun g c hc hg => ?_, fun c hc => ?_, h.2.2.2.2⟩
  · have : Hr (sr B f a v) g c = Hr B g c := up2_ne (fun q => by rcases ha with ha | ha <;> omega)
    rw [this]; exact h.2.2.1 g c hc hg
  · have e := h.2.2.2.1 c hc
    have hs : Hs (sr B f a v) = Hs B := rfl
    rw [hs] at hc
    have hne : c ≠ a := fun q => by subst q; rcases hc with hc | hc <;> rcases ha with ha | ha <;> first | exact hc.2 ha.1 | omega
    exact ⟨e.1, e.2.1, fun g => (up2_ne (fun q => hne q.2)).trans (e.2.2.1 g), e.2.2.2⟩
theorem Fr.nW {kd len : Nat} (h : Fr S A B) (h8 : kd ≠ 8 ∧ kd ≠ 11) : Fr S A (nw B kd len) := by
  have hs : Hs (nw B kd len) = Hs B + 1 := rfl
  have h1 := h.1
  refine ⟨by rw [hs]; omega, fun c hc => ?_, h.2.2.1, fun c hc => ?_, fun c hc hd => ?_⟩
  · have := h.2.1 c hc
    have e1 : Hk (nw B kd len) c = Hk B c := if_neg (by omega)
    have e2 : Hn (nw B kd len) c = Hn B c := if_neg (by omega)
    rw [e1, e2]; exact this
  · rw [hs] at hc
    exact h.2.2.2.1 c (hc.elim Or.inl (fun q => Or.inr (by omega)))
  · rw [hs] at hd
    by_cases q : c = Hs B
    · have e1 : Hk (nw B kd len) c = kd := if_pos q
      rw [e1]; exact h8
    · have e1 : Hk (nw B kd len) c = Hk B c := if_neg q
      rw [e1]; exact h.2.2.2.2 c hc (by omega)
/-- nothing lies beyond the heap's end -/
def Cl (A : AH) : Prop := ∀ a, Hs A ≤ a → (∀ f, Hi A f a = 0) ∧ (∀ f, Hj A f a = 0) ∧ (∀ f, Hr A f a = none) ∧ (∀ i, He A a i = 0) ∧ ∀ i, Hq A a i = none
theorem Cl.fr (h : Cl A) (g : Fr S A B) : Cl B := fun a ha => by
  have e := g.2.2.2.1 a (Or.inr ha)
  have z := h a (by have := g.1; omega)
  exact ⟨fun f => by rw [e.1 f]; exact z.1 f, fun f => by rw [e.2.1 f]; exact z.2.1 f, fun f => by rw [e.2.2.1 f]; exact z.2.2.1 f, fun i => by rw [e.2.2.2.1]; exact z.2.2.2.1 i, fun i => by rw [e.2.2.2.2]; exact z.2.2.2.2 i⟩
theorem Cl.nW {kd len : Nat} (h : Cl A) : Cl (nw A kd len) := fun a ha => h a (by have : Hs (nw A kd len) = Hs A + 1 := rfl; omega)
end
def ciT : List (Nat × Nat × Nat) := [(0, 352, 1), (0, 353, 3), (0, 354, 5), (0, 355, 8), (0, 356, 10), (0, 357, 17), (0, 358, 18), (0, 359, 20), (1, 256, 2), (3, 288, 4), (5, 0, 6), (5, 1, 7), (8, 160, 9), (11, 192, 12), (12, 256, 13), (14, 192, 15), (15, 256, 16), (18, 32, 19), (20, 128, 21)]
def ciK : List (Nat × Nat × Nat) := [(0, 12, 0), (1, 9, 0), (2, 18, 6), (3, 10, 0), (4, 14, 20), (5, 1, 0), (6, 14, 20), (7, 14, 20), (8, 6, 0), (9, 17, 16), (10, 16, 2), (11, 7, 0), (12, 9, 0), (13, 18, 6), (14, 7, 0), (15, 9, 0), (16, 18, 6), (17, 3, 0), (18, 2, 0), (19, 14, 16), (20, 5, 0), (21, 14, 32)]
/-- the class's object at x and what it is made of -/
def CI (A : AH) (x : Nat) : Prop := (∀ q ∈ ciT, Hr A q.2.1 (x + q.1) = some (x + q.2.2)) ∧ (∀ q ∈ ciK, Hk A (x + q.1) = q.2.1 ∧ Hn A (x + q.1) = q.2.2) ∧ x + 34 ≤ Hs A
theorem CI.fr {S : Nat → Prop} {A B : AH} {x : Nat} (h : CI A x) (g : Fr S A B) : CI B x := by
  obtain ⟨h1, h2, h3⟩ := h
  have b1 : ∀ q ∈ ciT, q.1 < 34 ∧ q.2.1 ≠ 322 := by decide
  have b2 : ∀ q ∈ ciK, q.1 < 34 := by decide
  refine ⟨fun q hq => ?_, fun q hq => ?_, Nat.le_trans h3 g.1⟩
  · have := b1 q hq
    rw [g.2.2.1 _ _ (by omega) this.2]; exact h1 q hq
  · have := b2 q hq
    have e := g.2.1 (x + q.1) (by omega)
    rw [e.1, e.2]; exact h2 q hq
theorem CI.r {A : AH} {x : Nat} (h : CI A x) (q : Nat × Nat × Nat) (hq : q ∈ ciT) {kd : Nat} (hk : Hk A (x + q.1) = kd) : gR A kd q.2.1 (some (x + q.1)) = some (some (x + q.2.2)) := by rw [gR_ok hk, h.1 q hq]
section
variable {A : AH} {x : Nat}
theorem CI.k0 (h : CI A x) : Hk A x = 12 := (h.2.1 (0, 12, 0) (by decide)).1
theorem CI.k1 (h : CI A x) : Hk A (x + 1) = 9 := (h.2.1 (1, 9, 0) (by decide)).1
theorem CI.k2 (h : CI A x) : Hk A (x + 2) = 18 ∧ Hn A (x + 2) = 6 := h.2.1 (2, 18, 6) (by decide)
theorem CI.k3 (h : CI A x) : Hk A (x + 3) = 10 := (h.2.1 (3, 10, 0) (by decide)).1
theorem CI.k4 (h : CI A x) : Hk A (x + 4) = 14 ∧ Hn A (x + 4) = 20 := h.2.1 (4, 14, 20) (by decide)
theorem CI.k5 (h : CI A x) : Hk A (x + 5) = 1 := (h.2.1 (5, 1, 0) (by decide)).1
theorem CI.k6 (h : CI A x) : Hk A (x + 6) = 14 ∧ Hn A (x + 6) = 20 := h.2.1 (6, 14, 20) (by decide)
theorem CI.k7 (h : CI A x) : Hk A (x + 7) = 14 ∧ Hn A (x + 7) = 20 := h.2.1 (7, 14, 20) (by decide)
theorem CI.k8 (h : CI A x) : Hk A (x + 8) = 6 := (h.2.1 (8, 6, 0) (by decide)).1
theorem CI.k9 (h : CI A x) : Hk A (x + 9) = 17 ∧ Hn A (x + 9) = 16 := h.2.1 (9, 17, 16) (by decide)
theorem CI.k10 (h : CI A x) : Hk A (x + 10) = 16 ∧ Hn A (x + 10) = 2 := h.2.1 (10, 16, 2) (by decide)
theorem CI.k11 (h : CI A x) : Hk A (x + 11) = 7 := (h.2.1 (11, 7, 0) (by decide)).1
theorem CI.k12 (h : CI A x) : Hk A (x + 12) = 9 := (h.2.1 (12, 9, 0) (by decide)).1
theorem CI.k13 (h : CI A x) : Hk A (x + 13) = 18 ∧ Hn A (x + 13) = 6 := h.2.1 (13, 18, 6) (by decide)
theorem CI.k14 (h : CI A x) : Hk A (x + 14) = 7 := (h.2.1 (14, 7, 0) (by decide)).1
theorem CI.k15 (h : CI A x) : Hk A (x + 15) = 9 := (h.2.1 (15, 9, 0) (by decide)).1
theorem CI.k16 (h : CI A x) : Hk A (x + 16) = 18 ∧ Hn A (x + 16) = 6 := h.2.1 (16, 18, 6) (by decide)
theorem CI.k17 (h : CI A x) : Hk A (x + 17) = 3 := (h.2.1 (17, 3, 0) (by decide)).1
theorem CI.k18 (h : CI A x) : Hk A (x + 18) = 2 := (h.2.1 (18, 2, 0) (by decide)).1
theorem CI.k19 (h : CI A x) : Hk A (x + 19) = 14 ∧ Hn A (x + 19) = 16 := h.2.1 (19, 14, 16) (by decide)
theorem CI.k20 (h : CI A x) : Hk A (x + 20) = 5 := (h.2.1 (20, 5, 0) (by decide)).1
theorem CI.k21 (h : CI A x) : Hk A (x + 21) = 14 ∧ Hn A (x + 21) = 32 := h.2.1 (21, 14, 32) (by decide)
theorem CI.sh (h : CI A x) : gR A 12 352 (some x) = some (some (x + 1)) := h.r (0, 352, 1) (by decide) h.k0
theorem CI.tx (h : CI A x) : gR A 12 353 (some x) = some (some (x + 3)) := h.r (0, 353, 3) (by decide) h.k0
theorem CI.bk (h : CI A x) : gR A 12 354 (some x) = some (some (x + 5)) := h.r (0, 354, 5) (by decide) h.k0
theorem CI.hi (h : CI A x) : gR A 12 355 (some x) = some (some (x + 8)) := h.r (0, 355, 8) (by decide) h.k0
theorem CI.im (h : CI A x) : gR A 12 356 (some x) = some (some (x + 10)) := h.r (0, 356, 10) (by decide) h.k0
theorem CI.dw (h : CI A x) : gR A 12 357 (some x) = some (some (x + 17)) := h.r (0, 357, 17) (by decide) h.k0
theorem CI.df (h : CI A x) : gR A 12 358 (some x) = some (some (x + 18)) := h.r (0, 358, 18) (by decide) h.k0
theorem CI.hp (h : CI A x) : gR A 12 359 (some x) = some (some (x + 20)) := h.r (0, 359, 20) (by decide) h.k0
theorem CI.df2 (h : CI A x) : gR A 2 32 (some (x + 18)) = some (some (x + 19)) := h.r (18, 32, 19) (by decide) h.k18
theorem CI.hp2 (h : CI A x) : gR A 5 128 (some (x + 20)) = some (some (x + 21)) := h.r (20, 128, 21) (by decide) h.k20
theorem CI.tx2 (h : CI A x) : gR A 10 288 (some (x + 3)) = some (some (x + 4)) := h.r (3, 288, 4) (by decide) h.k3
theorem CI.bk2 (h : CI A x) : gR A 1 0 (some (x + 5)) = some (some (x + 6)) := h.r (5, 0, 6) (by decide) h.k5
theorem CI.bk3 (h : CI A x) : gR A 1 1 (some (x + 5)) = some (some (x + 7)) := h.r (5, 1, 7) (by decide) h.k5
theorem CI.hi2 (h : CI A x) : gR A 6 160 (some (x + 8)) = some (some (x + 9)) := h.r (8, 160, 9) (by decide) h.k8
end
/-! arrays in general -/
theorem aI_at {A : AH} {a n : Nat} {j : Nat} (hk : Hk A a = 14 ∧ Hn A a = n) (h : j < n) (hn : n ≤ 1000) : aI A 14 (some a) (I j) = some (He A a j) := by
  rw [aI_ok hk.1 (by omega) (by rw [hk.2]; omega) (by rw [hk.2]; omega), Int.toNat_natCast]
theorem sI_at {A : AH} {a n : Nat} {j : Nat} {v : Int32} (hk : Hk A a = 14 ∧ Hn A a = n) (h : j < n) (hn : n ≤ 1000) : sI A 14 (some a) (I j) v = some (se A a j v) := by
  rw [sI_ok hk.1 (by omega) (by rw [hk.2]; omega) (by rw [hk.2]; omega), Int.toNat_natCast]
theorem aL_at {A : AH} {a n k : Nat} (hk : Hk A a = k ∧ Hn A a = n) : aL A k (some a) = some (I n) := by rw [aL_ok hk.1, hk.2]
theorem C_min (A : AH) {a b : Int} (ha : Bd a) (hb : Bd b) : fJ9_min_7cf53 A (I a) (I b) = some (I (min a b)) := by
  unfold fJ9_min_7cf53
  by_cases q : b < a
  · rw [if_pos (lt_y ⟨hb, ha, q⟩), Int.min_eq_right (by omega)]
  · rw [if_neg (lt_n ⟨hb, ha, by omega⟩), Int.min_eq_left (by omega)]
theorem C_max (A : AH) {a b : Int} (ha : Bd a) (hb : Bd b) : fJ9_max_7cf53 A (I a) (I b) = some (I (max a b)) := by
  unfold fJ9_max_7cf53
  by_cases q : a < b
  · rw [if_pos (lt_y ⟨ha, hb, q⟩), Int.max_eq_right (by omega)]
  · rw [if_neg (lt_n ⟨ha, hb, by omega⟩), Int.max_eq_left (by omega)]
theorem C_isIn (A : AH) {s k : Nat} (hs : s < 2147483648) (hk : k < 32) : fX11_isIn A (I s) (I k) = some (bI (s.testBit k = true)) := by
  unfold fX11_isIn
  rw [some_bI]
  congr 1
  exact bIc (I_bit1 hs hk)
theorem C_isEven (A : AH) {k : Nat} (hk : k < 2147483648) : fX11_isEven A (I k) = some (bI (k % 2 = 0)) := by
  unfold fX11_isEven
  rw [some_bI, show (1 : Int32) = I ((1 : Nat) : Int) from rfl, I_and, Nat.and_one_is_mod]
  congr 1
  exact bIc (by rw [L_0, I_eq (by omega) (by omega)]; omega)
theorem C_bitCount (A : AH) {s : Nat} (hs : s < 256) : fJ6_bitCount_0f7a4 A (I s) = some (I (cnt s 16)) := by
  have key : ∀ s : Fin 256, fJ6_bitCount_0f7a4 (A00 0) (I ((s.val : Nat) : Int)) = some (I ((cnt s.val 16 : Nat) : Int)) := by
    unfold fJ6_bitCount_0f7a4
    decide +kernel
  exact key ⟨s, hs⟩
