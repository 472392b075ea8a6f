/-! the class's heap as a whole: all rows and words are well made -/
abbrev Gm := Nat → Nat × (Nat → Nat)
abbrev gW (G : Gm) (r sg : Nat) : Wrd := ((G r).1, (G r).2, sg)
abbrev gP (G : Gm) (r : Nat) : Nat → Nat := wP (gW G r 0)
abbrev gQ (G : Gm) (r : Nat) : Nat → Nat := wQ (gW G r 0)
def RowOK (A : AH) (x : Nat) (G : Gm) (r : Nat) : Prop := RD A x r (G r).1 (G r).2 (gP G r) (gQ G r) ∧ VW (G r).1 (G r).2 (gP G r) (gQ G r) ∧ RC A r (G r).1 (G r).2 (gP G r) (gQ G r)
def isRow (A : AH) (x r : Nat) : Prop := x + 34 ≤ r ∧ r < Hs A ∧ Hk A r = 8
def isWd (A : AH) (x w : Nat) : Prop := x + 34 ≤ w ∧ w < Hs A ∧ Hk A w = 11
def WdOK (A : AH) (x : Nat) (G : Gm) (w : Nat) : Prop := ∃ r sg : Nat, Hr A 320 w = some r ∧ isRow A x r ∧ Hi A 321 w = I sg ∧ sg < 2 ^ (G r).1 ∧ (Hr A 322 w = none ∨ ∃ f, Hr A 322 w = some f ∧ FO A x f r (G r).1 (G r).2 (gP G r) sg)
def GI (A : AH) (x : Nat) (G : Gm) : Prop := (∀ r, isRow A x r → RowOK A x G r) ∧ ∀ w, isWd A x w → WdOK A x G w
def IV (A : AH) (x : Nat) (G : Gm) : Prop := CI A x ∧ Cl A ∧ GI A x G
/-- a word of the class -/
def WD (A : AH) (x : Nat) (G : Gm) (w : Nat) (wd : Wrd) : Prop := isWd A x w ∧ ∃ r, Hr A 320 w = some r ∧ wd.1 = (G r).1 ∧ wd.2.1 = (G r).2 ∧ Hi A 321 w = I wd.2.2 ∧ wd.2.2 < 2 ^ wd.1
/-- a quiet step: what is kept and the scratch rows may change, and there may be new cells -/
def Qt (x : Nat) (A B : AH) : Prop := Hs A ≤ Hs B ∧ (∀ a, a < Hs A → Hk B a = Hk A a ∧ Hn B a = Hn A a) ∧ (∀ f a, a < Hs A → f ≠ 322 → Hr B f a = Hr A f a) ∧ (∀ a, a < x + 34 → ¬ (x + 18 ≤ a ∧ a ≤ x + 21) → Eq8 A B a) ∧ (∀ a, x + 34 ≤ a → a < Hs A → (Hk A a = 9 ∨ Hk A a = 11) → ∀ f, Hi B f a = Hi A f a) ∧ ∀ a, x + 34 ≤ a → a < Hs A → Hk A a = 18 → Hq B a = Hq A a
section
variable {A B C : AH} {x r w f : Nat} {G : Gm} {S : Nat → Prop} {wd : Wrd}
theorem Qt.rf : Qt x A A := ⟨Nat.le_refl _, fun _ _ => ⟨rfl, rfl⟩, fun _ _ _ _ => rfl, fun _ _ _ => Eq8.rf, fun _ _ _ _ _ => rfl, fun _ _ _ _ => rfl⟩
theorem Qt.tr (h : Qt x A B) (g : Qt x B C) : Qt x A C := by
  obtain ⟨h1, h2, h3, h4, h5, h6⟩ := h
  obtain ⟨g1, g2, g3, g4, g5, g6⟩ := g
  refine ⟨by omega, fun a ha => ?_, fun f a ha hf => ?_, fun a ha hn => (h4 a ha hn).tr (g4 a ha hn), fun a h0 ha hk f => ?_, fun a h0 ha hk => ?_⟩
  · have x := h2 a ha
    have y := g2 a (by omega)
    exact ⟨y.1.trans x.1, y.2.trans x.2⟩
  · rw [g3 f a (by omega) hf, h3 f a ha hf]
  · rw [g5 a h0 (by omega) (by rw [(h2 a ha).1]; exact hk) f, h5 a h0 ha hk f]
  · rw [g6 a h0 (by omega) (by rw [(h2 a ha).1]; exact hk), h6 a h0 ha hk]
theorem isRow.fr (h : isRow A x r) (g : Fr S A B) : isRow B x r := ⟨h.1, Nat.lt_of_lt_of_le h.2.1 g.1, by rw [(g.2.1 r h.2.1).1]; exact h.2.2⟩
theorem isRow.qt (h : isRow A x r) (g : Qt x A B) : isRow B x r := ⟨h.1, Nat.lt_of_lt_of_le h.2.1 g.1, by rw [(g.2.1 r h.2.1).1]; exact h.2.2⟩
theorem isWd.qt (h : isWd A x w) (g : Qt x A B) : isWd B x w := ⟨h.1, Nat.lt_of_lt_of_le h.2.1 g.1, by rw [(g.2.1 w h.2.1).1]; exact h.2.2⟩
theorem WD.qt (h : WD A x G w wd) (g : Qt x A B) : WD B x G w wd := by
  obtain ⟨h1, r, h2, h3, h4, h5, h6⟩ := h
  exact ⟨h1.qt g, r, by rw [g.2.2.1 _ _ h1.2.1 (by decide)]; exact h2, h3, h4, by rw [g.2.2.2.2.1 w h1.1 h1.2.1 (Or.inr h1.2.2)]; exact h5, h6⟩
/-- a row or a word of B that is old was one of A -/
theorem old_row (g : Fr S A B) (h : isRow B x r) : isRow A x r := by
  obtain ⟨h1, h2, h3⟩ := h
  by_cases q : r < Hs A
  · exact ⟨h1, q, by rw [← (g.2.1 r q).1]; exact h3⟩
  · exact absurd h3 (g.2.2.2.2 r (by omega) h2).1
theorem old_wd (g : Fr S A B) (h : isWd B x w) : isWd A x w := by
  obtain ⟨h1, h2, h3⟩ := h
  by_cases q : w < Hs A
  · exact ⟨h1, q, by rw [← (g.2.1 w q).1]; exact h3⟩
  · exact absurd h3 (g.2.2.2.2 w (by omega) h2).2
/-- rows that a step leaves -/
theorem RowOK.fr (h : RowOK A x G r) (g : Fr S A B) (hS : ∀ a, r ≤ a → a ≤ r + 5 → ¬ S a) : RowOK B x G r := by
  have ha := h.1.a
  exact ⟨h.1.fr g hS, h.2.1, h.2.2.e8 (g.2.2.2.1 r (Or.inl ⟨by omega, hS r (by omega) (by omega)⟩)) (g.2.2.2.1 (r + 1) (Or.inl ⟨by omega, hS _ (by omega) (by omega)⟩))⟩
theorem WdOK.fr (h : WdOK A x G w) (hw : isWd A x w) (g : Fr S A B) (hi : ∀ f, Hi B f w = Hi A f w) (h322 : Hr B 322 w = Hr A 322 w) (hS : ∀ f, Hr A 322 w = some f → Hk A f = 4 → (∀ j, 1 ≤ j → j ≤ 5 → Hk A (f + j) = 14) → f + 5 < Hs A → x + 34 ≤ f → ∀ a, f ≤ a → a ≤ f + 5 → ¬ S a) : WdOK B x G w := by
  obtain ⟨r, sg, h1, h2, h3, h4, h5⟩ := h
  refine ⟨r, sg, by rw [g.2.2.1 _ _ hw.2.1 (by decide)]; exact h1, h2.fr g, by rw [hi]; exact h3, h4, ?_⟩
  rw [h322]
  rcases h5 with h5 | ⟨f, h5, h6⟩
  · exact Or.inl h5
  · refine Or.inr ⟨f, h5, h6.fr g (hS f h5 h6.1.k (fun j j1 j2 => ?_) h6.1.a.2 h6.1.a.1)⟩
    have z : j = 1 ∨ j = 2 ∨ j = 3 ∨ j = 4 ∨ j = 5 := by omega
    rcases z with rfl | rfl | rfl | rfl | rfl
    · exact h6.1.k1.1
    · exact h6.1.k2.1
    · exact h6.1.k3.1
    · exact h6.1.k4.1
    · exact h6.1.k5.1
/-- a step that writes scratch alone -/
theorem GI.hp (h : IV A x G) (g : Fr S A B) (hS : ∀ a, S a → x + 18 ≤ a ∧ a ≤ x + 21) : IV B x G ∧ Qt x A B := by
  obtain ⟨hC, hcl, hr, hw⟩ := h
  have hs := hC.2.2
  refine ⟨⟨hC.fr g, hcl.fr g, fun r h => ?_, fun w h => ?_⟩, g.1, g.2.1, g.2.2.1, fun a ha hn => g.2.2.2.1 a (Or.inl ⟨by omega, fun q => hn (hS a q)⟩), fun a h0 ha _ f => (g.2.2.2.1 a (Or.inl ⟨ha, fun q => by have := hS a q; omega⟩)).1 f, fun a h0 ha _ => (g.2.2.2.1 a (Or.inl ⟨ha, fun q => by have := hS a q; omega⟩)).2.2.2.2⟩
  · have h0 := old_row g h
    exact (hr r h0).fr g (fun a h1 h2 q => by have := hS a q; have := h0.1; omega)
  · have h0 := old_wd g h
    have e := g.2.2.2.1 w (Or.inl ⟨h0.2.1, fun q => by have := hS w q; have := h0.1; omega⟩)
    exact (hw w h0).fr h0 g e.1 (e.2.2.1 _) (fun f _ _ _ _ hf a h1 h2 q => by have := hS a q; omega)
/-- a step that writes what row r keeps -/
theorem GI.row (h : IV A x G) (g : Fr (fun a => hS x a ∨ a = r ∨ a = r + 1) A B) (h0 : isRow A x r) (hB : RowOK B x G r) : IV B x G ∧ Qt x A B := by
  obtain ⟨hC, hcl, hr, hw⟩ := h
  have hs := hC.2.2
  have k1 : Hk A (r + 1) = 14 := (hr r h0).1.k1.1
  have al : r + 5 < Hs A := (hr r h0).1.a.2
  refine ⟨⟨hC.fr g, hcl.fr g, fun r' h => ?_, fun w h => ?_⟩, g.1, g.2.1, g.2.2.1, fun a ha hn => g.2.2.2.1 a (Or.inl ⟨by omega, fun q => by have := h0.1; rcases q with (q | q) | q | q <;> omega⟩), fun a hx ha hk f => (g.2.2.2.1 a (Or.inl ⟨ha, fun q => ?_⟩)).1 f, fun a hx ha hk => (g.2.2.2.1 a (Or.inl ⟨ha, fun q => ?_⟩)).2.2.2.2⟩
  · by_cases e : r' = r
    · rw [e]; exact hB
    · have h1 := old_row g h
      have o := hr r' h1
      have kk : ∀ j, 1 ≤ j → j ≤ 5 → Hk A (r' + j) = 14 := fun j j1 j2 => by
        have z : j = 1 ∨ j = 2 ∨ j = 3 ∨ j = 4 ∨ j = 5 := by omega
        rcases z with rfl | rfl | rfl | rfl | rfl
        · exact o.1.k1.1
        · exact o.1.k2.1
        · exact o.1.k3.1
        · exact o.1.k4.1
        · exact o.1.k5.1
      refine o.fr g (fun a a1 a2 q => ?_)
      have := h1.1
      rcases q with (q | q) | q | q
      · omega
      · omega
      · have := kk (r - r') (by omega) (by omega)
        rw [show r' + (r - r') = r by omega, h0.2.2] at this
        cases this
      · by_cases z : r' = r + 1
        · have := h1.2.2
          rw [z, k1] at this
          cases this
        · have := kk (r - r') (by omega) (by omega)
          rw [show r' + (r - r') = r by omega, h0.2.2] at this
          cases this
  · have h1 := old_wd g h
    have e := g.2.2.2.1 w (Or.inl ⟨h1.2.1, fun q => ?_⟩)
    · refine (hw w h1).fr h1 g e.1 (e.2.2.1 _) (fun f _ f4 f14 fs hf a a1 a2 q => ?_)
      rcases q with (q | q) | q | q
      · omega
      · omega
      · by_cases z : f = r
        · rw [z, h0.2.2] at f4; cases f4
        · have := f14 (r - f) (by omega) (by omega)
          rw [show f + (r - f) = r by omega, h0.2.2] at this
          cases this
      · by_cases z : f = r + 1
        · rw [z, k1] at f4; cases f4
        · by_cases y : f = r
          · rw [y, h0.2.2] at f4; cases f4
          · have := f14 (r - f) (by omega) (by omega)
            rw [show f + (r - f) = r by omega, h0.2.2] at this
            cases this
    · have := h1.1
      rcases q with (q | q) | q | q
      · omega
      · omega
      · rw [q] at h1; have := h1.2.2; rw [h0.2.2] at this; cases this
      · rw [q] at h1; have := h1.2.2; rw [k1] at this; cases this
  · rcases q with (q | q) | q | q
    · omega
    · omega
    · rw [q, h0.2.2] at hk; rcases hk with hk | hk <;> cases hk
    · rw [q, k1] at hk; rcases hk with hk | hk <;> cases hk
  · rcases q with (q | q) | q | q
    · omega
    · omega
    · rw [q, h0.2.2] at hk; cases hk
    · rw [q, k1] at hk; cases hk
/-- a step that writes what word w keeps -/
theorem GI.word (h : IV A x G) (g : Fr (fun a => hS x a ∨ a = w) A B) (h0 : isWd A x w) (hi : ∀ f, Hi B f w = Hi A f w) (hB : WdOK B x G w) : IV B x G ∧ Qt x A B := by
  obtain ⟨hC, hcl, hr, hw⟩ := h
  have hs := hC.2.2
  refine ⟨⟨hC.fr g, hcl.fr g, fun r' h => ?_, fun w' h => ?_⟩, g.1, g.2.1, g.2.2.1, fun a ha hn => g.2.2.2.1 a (Or.inl ⟨by omega, fun q => by have := h0.1; rcases q with (q | q) | q <;> omega⟩), fun a hx ha hk f => ?_, fun a hx ha hk => (g.2.2.2.1 a (Or.inl ⟨ha, fun q => ?_⟩)).2.2.2.2⟩
  · have h1 := old_row g h
    have o := hr r' h1
    have kk : ∀ j, 1 ≤ j → j ≤ 5 → Hk A (r' + j) = 14 := fun j j1 j2 => by
      have z : j = 1 ∨ j = 2 ∨ j = 3 ∨ j = 4 ∨ j = 5 := by omega
      rcases z with rfl | rfl | rfl | rfl | rfl
      · exact o.1.k1.1
      · exact o.1.k2.1
      · exact o.1.k3.1
      · exact o.1.k4.1
      · exact o.1.k5.1
    refine o.fr g (fun a a1 a2 q => ?_)
    have := h1.1
    rcases q with (q | q) | q
    · omega
    · omega
    · by_cases z : r' = w
      · have := h1.2.2
        rw [z, h0.2.2] at this
        cases this
      · have := kk (w - r') (by omega) (by omega)
        rw [show r' + (w - r') = w by omega, h0.2.2] at this
        cases this
  · by_cases e : w' = w
    · rw [e]; exact hB
    · have h1 := old_wd g h
      have e := g.2.2.2.1 w' (Or.inl ⟨h1.2.1, fun q => by have := h1.1; rcases q with (q | q) | q <;> omega⟩)
      refine (hw w' h1).fr h1 g e.1 (e.2.2.1 _) (fun f _ f4 f14 fs hf a a1 a2 q => ?_)
      rcases q with (q | q) | q
      · omega
      · omega
      · by_cases z : f = w
        · rw [z, h0.2.2] at f4; cases f4
        · have := f14 (w - f) (by omega) (by omega)
          rw [show f + (w - f) = w by omega, h0.2.2] at this
          cases this
  · by_cases e : a = w
    · rw [e]; exact hi f
    · exact (g.2.2.2.1 a (Or.inl ⟨ha, fun q => by rcases q with (q | q) | q <;> omega⟩)).1 f
  · rcases q with (q | q) | q
    · omega
    · omega
    · rw [q, h0.2.2] at hk; cases hk
/-! what a word is asked, with the whole heap kept well -/
theorem G_turns (h : IV A x G) (h0 : isRow A x r) : ∃ B, fX7_tryTurns A (some r) = some B ∧ Hj B 231 r = mnC (G r).1 (G r).2 (4 * (G r).1) ∧ Hi B 232 r = I (knC (G r).1 (G r).2 (4 * (G r).1)) ∧ IV B x G ∧ Qt x A B := by
  obtain ⟨o1, o2, o3⟩ := h.2.2.1 r h0
  obtain ⟨B, b1, b2, b3, b4, b5⟩ := C_tryTurns o1 o2 o3.1
  have ha := o1.a
  have e1 := b2.1.2.2.2.1 (r + 1) (Or.inl ⟨by omega, by omega⟩)
  have ee := fun j (h1 : 1 ≤ j) (hj : j ≤ 5) => b2.1.2.2.2.1 (r + j) (Or.inl ⟨by omega, by omega⟩)
  have hRB : RD B x r (G r).1 (G r).2 (gP G r) (gQ G r) := o1.mv b2.1.1 b2.1.2.1 (b2.2 _ (by decide) (by decide)) (b2.2 _ (by decide) (by decide)) (fun f hf => b2.1.2.2.1 f r (by omega) hf) (fun j h2 h5 => (ee j (by omega) h5).2.2.2.1)
  have hB : RowOK B x G r := ⟨hRB, o2, b5, o3.2.1.mv (b2.2 _ (by decide) (by decide)) (b2.2 _ (by decide) (by decide)) (b2.2 _ (by decide) (by decide)), o3.2.2.mv (b2.2 _ (by decide) (by decide)) e1.2.2.2.1⟩
  have := GI.row h (b2.1.wk (fun a q _ => Or.inr (Or.inl q))) h0 hB
  exact ⟨B, b1, b3, b4, this.1, this.2⟩
theorem G_kin (h : IV A x G) (h0 : isRow A x r) : ∃ y, fX7_kin A (some r) = some y ∧ y.1 = I (knC (G r).1 (G r).2 (4 * (G r).1)) ∧ IV y.2 x G ∧ Qt x A y.2 := by
  obtain ⟨B, b1, b2, b3, b4, b5⟩ := G_turns h h0
  unfold fX7_kin
  rw [rcv_ok h0.2.2, bs, b1, bs, gI_ok (h0.qt b5).2.2, bs]
  exact ⟨_, rfl, b3, b4, b5⟩
theorem G_code (h : IV A x G) (h0 : isRow A x r) : ∃ y, fX7_leastCode A (some r) = some y ∧ y.1 = mnC (G r).1 (G r).2 (4 * (G r).1) ∧ IV y.2 x G ∧ Qt x A y.2 := by
  obtain ⟨B, b1, b2, b3, b4, b5⟩ := G_turns h h0
  unfold fX7_leastCode
  rw [rcv_ok h0.2.2, bs, b1, bs, gJ_ok (h0.qt b5).2.2, bs]
  exact ⟨_, rfl, b2, b4, b5⟩
theorem G_isLike (h : IV A x G) {q : Nat} (h0 : isRow A x r) (h1 : isRow A x q) : ∃ y, fX7_isLike A (some r) (some q) = some y ∧ y.1 = bI ((G r).1 = (G q).1 ∧ mnC (G r).1 (G r).2 (4 * (G r).1) = mnC (G q).1 (G q).2 (4 * (G q).1)) ∧ IV y.2 x G ∧ Qt x A y.2 := by
  obtain ⟨B, b1, b2, b3, b4, b5⟩ := G_turns h h0
  have h1B := h1.qt b5
  have h0B := h0.qt b5
  obtain ⟨C, c1, c2, c3, c4, c5⟩ := G_turns b4 h1B
  have h0C := h0B.qt c5
  have h1C := h1B.qt c5
  have oR := (c4.2.2.1 r h0C)
  have oQ := (c4.2.2.1 q h1C)
  have n1 := oR.2.1.1
  have n2 := oQ.2.1.1
  -- the second's turns leave what the first keeps
  have eJ : Hj C 231 r = mnC (G r).1 (G r).2 (4 * (G r).1) := by
    obtain ⟨o1, o2, o3⟩ := b4.2.2.1 q h1B
    obtain ⟨D, d1, d2, d3, d4, d5⟩ := C_tryTurns o1 o2 o3.1
    have : D = C := Option.some.inj (d1.symm.trans c1)
    subst this
    by_cases e : r = q
    · subst e; exact d3
    · rw [(d2.1.2.2.2.1 r (Or.inl ⟨h0B.2.1, e⟩)).2.1]; exact b2
  unfold fX7_isLike
  rw [rcv_ok h0.2.2, bs, b1, bs, c1, bs, gI_ok h0C.2.2, bs, oR.1.i0, gI_ok h1C.2.2, bs, oQ.1.i0]
  by_cases e : (G r).1 = (G q).1
  · rw [if_pos (by rw [e]), gJ_ok h0C.2.2, bs, gJ_ok h1C.2.2, bs, eJ, c2]
    by_cases z : mnC (G r).1 (G r).2 (4 * (G r).1) = mnC (G q).1 (G q).2 (4 * (G q).1)
    · rw [if_pos (lgc_eq.mpr z)]
      exact ⟨_, rfl, (bI1.mpr ⟨e, z⟩).symm, c4, b5.tr c5⟩
    · rw [if_neg (fun y => z (lgc_eq.mp y))]
      exact ⟨_, rfl, (bI0.mpr (fun y => z y.2)).symm, c4, b5.tr c5⟩
  · rw [if_neg (eq_n (by omega))]
    exact ⟨_, rfl, (bI0.mpr (fun y => e y.1)).symm, c4, b5.tr c5⟩
theorem G_signs (h : IV A x G) (h0 : isRow A x r) : ∃ B, fX7_trySigns A (some r) (some (x + 20)) = some B ∧ Hi B 234 r = I (dwn (G r).1 (G r).2 (gP G r) (2 ^ (G r).1)) ∧ Hi B 235 r = I (dws (G r).1 (G r).2 (gP G r) (2 ^ (G r).1)) ∧ IV B x G ∧ Qt x A B := by
  obtain ⟨o1, o2, o3⟩ := h.2.2.1 r h0
  obtain ⟨B, b1, b2, b3, b4, b5⟩ := C_trySigns h.1 o1 o2 o3.2.1
  have ha := o1.a
  have e1 := b2.1.2.2.2.1 (r + 1) (Or.inl ⟨by omega, fun q => by rcases q with (q | q) | q <;> omega⟩)
  have hB : RowOK B x G r := ⟨b2.rd o1, o2, o3.1.mv (b2.2.1 _ (by decide) (by decide) (by decide)) (b2.2.2 _) (b2.2.1 _ (by decide) (by decide) (by decide)), b5, o3.2.2.mv (b2.2.1 _ (by decide) (by decide) (by decide)) e1.2.2.2.1⟩
  have := GI.row h (b2.1.wk (fun a q _ => q.elim Or.inl (fun z => Or.inr (Or.inl z)))) h0 hB
  exact ⟨B, b1, b3, b4, this.1, this.2⟩
theorem G_drawn (h : IV A x G) (h0 : isRow A x r) : ∃ y, fX7_drawnSigns A (some r) (some (x + 20)) = some y ∧ y.1 = I (dwn (G r).1 (G r).2 (gP G r) (2 ^ (G r).1)) ∧ IV y.2 x G ∧ Qt x A y.2 := by
  obtain ⟨B, b1, b2, b3, b4, b5⟩ := G_signs h h0
  unfold fX7_drawnSigns
  rw [rcv_ok h0.2.2, bs, b1, bs, gI_ok (h0.qt b5).2.2, bs]
  exact ⟨_, rfl, b2, b4, b5⟩
theorem G_drawings (h : IV A x G) (h0 : isRow A x r) : ∃ y, fX7_drawings A (some r) (some (x + 20)) = some y ∧ y.1 = I (dws (G r).1 (G r).2 (gP G r) (2 ^ (G r).1)) ∧ IV y.2 x G ∧ Qt x A y.2 := by
  obtain ⟨B, b1, b2, b3, b4, b5⟩ := G_signs h h0
  unfold fX7_drawings
  rw [rcv_ok h0.2.2, bs, b1, bs, gI_ok (h0.qt b5).2.2, bs]
  exact ⟨_, rfl, b3, b4, b5⟩
theorem G_sets (h : IV A x G) (h0 : isRow A x r) {k : Nat} (hk : k < 10) : ∃ y, fX7_setsWithRings A (some r) (I k) (some (x + 20)) = some y ∧ y.1 = I (sts (G r).1 (gP G r) (gQ G r) k (2 ^ (G r).1)) ∧ IV y.2 x G ∧ Qt x A y.2 := by
  obtain ⟨o1, o2, o3⟩ := h.2.2.1 r h0
  obtain ⟨y, b1, b2, b3, b4⟩ := C_setsWithRings h.1 o1 o2 o3.2.2 hk
  have hB : RowOK y.2 x G r := ⟨b3.rd o1, o2, o3.1.mv (b3.2.1 _ (by decide)) (b3.2.2 _) (b3.2.1 _ (by decide)), o3.2.1.mv (b3.2.1 _ (by decide)) (b3.2.1 _ (by decide)) (b3.2.1 _ (by decide)), b4⟩
  have := GI.row h b3.1 h0 hB
  exact ⟨y, b1, b2, this.1, this.2⟩
theorem hS_d {a : Nat} (q : hS x a) : x + 18 ≤ a ∧ a ≤ x + 21 := by rcases q with q | q <;> omega
theorem G_parts (h : IV A x G) (h0 : isRow A x r) : ∃ y, fX7_parts A (some r) (some (x + 20)) = some y ∧ y.1 = I (comps (G r).1 (ptR (gP G r) (gQ G r) (G r).1)) ∧ IV y.2 x G ∧ Qt x A y.2 := by
  obtain ⟨o1, o2, o3⟩ := h.2.2.1 r h0
  obtain ⟨y, b1, b2, b3⟩ := C_parts h.1 o1 o2.1
  exact ⟨y, b1, b2, GI.hp h b3 (fun a q => hS_d q)⟩
theorem G_broken (h : IV A x G) (h0 : isRow A x r) : ∃ y, fX7_brokenLaw A (some r) (some (x + 20)) = some y ∧ y.1 = I (brk (gP G r) (gQ G r) (G r).1) ∧ IV y.2 x G ∧ Qt x A y.2 := by
  obtain ⟨o1, o2, o3⟩ := h.2.2.1 r h0
  obtain ⟨y, b1, b2, b3⟩ := C_broken h.1 o1 o2.1
  exact ⟨y, b1, b2, GI.hp h b3 (fun a q => hS_d q)⟩
theorem G_rings (h : IV A x G) (h0 : isRow A x r) {s : Nat} (hs : s < 2147483648) : ∃ y, fX7_ringsOf A (some r) (I s) (some (x + 20)) = some y ∧ y.1 = I (rings (G r).1 (gP G r) (gQ G r) s) ∧ IV y.2 x G ∧ Qt x A y.2 := by
  obtain ⟨o1, o2, o3⟩ := h.2.2.1 r h0
  obtain ⟨y, b1, b2, b3⟩ := C_ringsOf h.1 o1 o2 hs
  exact ⟨y, b1, b2, GI.hp h b3 (fun a q => hS_d q)⟩
/-- a word's faces -/
theorem G_faces (h : IV A x G) (hw : WD A x G w wd) : ∃ f r B, fX10_faces A (some w) (some (x + 20)) = some (some f, B) ∧ IV B x G ∧ Qt x A B ∧ FO B x f r wd.1 wd.2.1 (wP wd) wd.2.2 ∧ RD B x r wd.1 wd.2.1 (wP wd) (wQ wd) ∧ VW wd.1 wd.2.1 (wP wd) (wQ wd) ∧ Hr B 322 w = some f := by
  obtain ⟨h0, r, h1, h2, h3, h4, h5⟩ := hw
  obtain ⟨r', sg, k1, k2, k3, k4, k5⟩ := h.2.2.2 w h0
  have er : r' = r := Option.some.inj (k1.symm.trans h1)
  subst er
  obtain ⟨o1, o2, o3⟩ := h.2.2.1 r' k2
  have hp := p2_lt o2.1
  obtain ⟨f, B, b1, b2, b3, b4, b5⟩ := C_faces h.1 h.2.1 o1 o2 (sg := sg) (by omega) h0.2.2 h0.2.1 h0.1 k1 k3 k5
  have ew : Hr B 320 w = some r' := by rw [b3.2.2.1 _ _ h0.2.1 (by decide)]; exact k1
  have hB : WdOK B x G w := ⟨r', sg, ew, k2.fr b3, by rw [b5]; exact k3, k4, Or.inr ⟨f, b4, b2⟩⟩
  obtain ⟨i1, i2⟩ := GI.word h b3 h0 b5 hB
  have es : sg = wd.2.2 := by
    rw [h2] at h5
    have e : I (sg : Int) = I (wd.2.2 : Int) := k3.symm.trans h4
    have := (I_eq (a := (sg : Int)) (b := (wd.2.2 : Int)) (by omega) (by omega)).mp e
    omega
  obtain ⟨N, L, s⟩ := wd
  dsimp only at h2 h3 h4 h5 es
  subst h2; subst h3; subst es
  have hR : RD B x r' (G r').1 (G r').2 (gP G r') (gQ G r') := (i1.2.2.1 r' (k2.fr b3)).1
  exact ⟨f, r', B, b1, i1, i2, b2, hR, o2, b4⟩
/-- a word's row -/
theorem G_row (h : IV A x G) (hw : WD A x G w wd) : ∃ r, fX10_row A (some w) = some (some r) ∧ isRow A x r ∧ wd.1 = (G r).1 ∧ wd.2.1 = (G r).2 ∧ wP wd = gP G r ∧ wQ wd = gQ G r ∧ VW wd.1 wd.2.1 (wP wd) (wQ wd) ∧ RD A x r wd.1 wd.2.1 (wP wd) (wQ wd) ∧ wC wd = mnC (G r).1 (G r).2 (4 * (G r).1) ∧ wK wd = knC (G r).1 (G r).2 (4 * (G r).1) := by
  obtain ⟨h0, r, h1, h2, h3, h4, h5⟩ := hw
  obtain ⟨r', sg, k1, k2, k3, k4, k5⟩ := h.2.2.2 w h0
  have er : r' = r := Option.some.inj (k1.symm.trans h1)
  subst er
  obtain ⟨o1, o2, o3⟩ := h.2.2.1 r' k2
  obtain ⟨N, L, s⟩ := wd
  dsimp only at h2 h3 h4 h5
  subst h2; subst h3
  unfold fX10_row
  rw [rcv_ok h0.2.2, bs, gR_ok h0.2.2, bs, k1]
  exact ⟨r', rfl, k2, rfl, rfl, rfl, rfl, o2, o1, rfl, rfl⟩
theorem G_signSet (hw : WD A x G w wd) : fX10_signSet A (some w) = some (I wd.2.2) := by
  unfold fX10_signSet
  obtain ⟨h0, r, h1, h2, h3, h4, h5⟩ := hw
  rw [rcv_ok h0.2.2, bs, gI_ok h0.2.2, bs, h4]
end
