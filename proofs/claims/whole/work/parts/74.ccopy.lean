/-! the class: shelves copied, the shelf remembered -/
theorem hq_sq {A : AH} {a i k : Nat} {v : Option Nat} : Hq (sq A a i v) a k = if k = i then v else Hq A a k := by
  by_cases h : k = i
  · rw [if_pos h, h]; exact up2_eq
  · rw [if_neg h]; exact up2_ne (fun q => h q.2)
theorem hq_sq_ne {A : AH} {a b i : Nat} {v : Option Nat} (h : b ≠ a) : Hq (sq A a i v) b = Hq A b := funext fun k => up2_ne (fun q => h q.1)
section
variable {A B C : AH} {x r w a b : Nat} {G : Gm} {T : Nat → Prop} {wd : Wrd} {s : St} {sh : Sh}
/-- cells that a deed may write: none of a row, a word, faces -/
def okT (A : AH) (x : Nat) (T : Nat → Prop) : Prop := ∀ a, T a → a < Hs A → a < x + 34 ∨ Hk A a = 9 ∨ Hk A a = 18
theorem IV.fr (h : IV A x G) (g : Fr T A B) (hT : okT A x T) : IV B x G := by
  obtain ⟨hC, hcl, hr, hw⟩ := h
  refine ⟨hC.fr g, hcl.fr g, fun r h => ?_, fun w h => ?_⟩
  · have h0 := old_row g h
    have o := hr r h0
    have ha := o.1.a
    refine o.fr g (fun a a1 a2 q => ?_)
    have k := hT a q (by omega)
    have h00 := h0.1
    have z : a = r ∨ a = r + 1 ∨ a = r + 2 ∨ a = r + 3 ∨ a = r + 4 ∨ a = r + 5 := by omega
    rcases z with e | e | e | e | e | e
    · rw [e, h0.2.2] at k; omega
    · rw [e, o.1.k1.1] at k; omega
    · rw [e, o.1.k2.1] at k; omega
    · rw [e, o.1.k3.1] at k; omega
    · rw [e, o.1.k4.1] at k; omega
    · rw [e, o.1.k5.1] at k; omega
  · have h0 := old_wd g h
    have h00 := h0.1
    have e := g.2.2.2.1 w (Or.inl ⟨h0.2.1, fun q => by have k := hT w q h0.2.1; rw [h0.2.2] at k; omega⟩)
    refine (hw w h0).fr h0 g e.1 (e.2.2.1 _) (fun f _ f4 f14 fs hf a a1 a2 q => ?_)
    have k := hT a q (by omega)
    by_cases z : a = f
    · rw [z, f4] at k; omega
    · have := f14 (a - f) (by omega) (by omega)
      rw [show f + (a - f) = a by omega] at this
      rw [this] at k; omega
theorem WD.fr (h : WD A x G w wd) (g : Fr T A B) (hT : okT A x T) : WD B x G w wd := by
  obtain ⟨h1, r, h2, h3, h4, h5, h6⟩ := h
  have h00 := h1.1
  have e := g.2.2.2.1 w (Or.inl ⟨h1.2.1, fun q => by have k := hT w q h1.2.1; rw [h1.2.2] at k; omega⟩)
  exact ⟨⟨h1.1, Nat.lt_of_lt_of_le h1.2.1 g.1, by rw [(g.2.1 w h1.2.1).1]; exact h1.2.2⟩, r, by rw [e.2.2.1]; exact h2, h3, h4, by rw [e.1]; exact h5, h6⟩
theorem ShL.fr (h : ShL A a) (g : Fr T A B) : ShL B a := by
  obtain ⟨h1, h2, ⟨h3, h4⟩, h5⟩ := h
  exact ⟨by rw [(g.2.1 a (by omega)).1]; exact h1, by rw [g.2.2.1 _ _ (by omega) (by decide)]; exact h2, ⟨by rw [(g.2.1 (a + 1) (by omega)).1]; exact h3, by rw [(g.2.1 (a + 1) (by omega)).2]; exact h4⟩, Nat.lt_of_lt_of_le h5 g.1⟩
theorem SHo.fr (h : SHo A x G a sh) (hl : ShL A a) (g : Fr T A B) (hT : okT A x T) (h0 : ¬ T a) (h1 : ¬ T (a + 1)) : SHo B x G a sh := by
  have hs := hl.2.2.2
  have e0 := g.2.2.2.1 a (Or.inl ⟨by omega, h0⟩)
  have e1 := g.2.2.2.1 (a + 1) (Or.inl ⟨hs, h1⟩)
  refine ⟨by rw [e0.1]; exact h.1, fun t ht => ?_⟩
  obtain ⟨w, w1, w2⟩ := h.2 t ht
  exact ⟨w, by rw [e1.2.2.2.2]; exact w1, w2.fr g hT⟩
theorem HO.fr {u : Nat} {H : Nat → Sh} (h : HO A x G u H) (hC : CI A x) (g : Fr T A B) (hT : okT A x T) (h8 : ¬ T (x + 8)) (h9 : ¬ T (x + 9)) (hd : ∀ a, x + 34 ≤ a → ¬ T a) : HO B x G u H := by
  obtain ⟨lt, h1, h2, h3, h4, h5, h6⟩ := h
  have hs := hC.2.2
  have e8 := g.2.2.2.1 (x + 8) (Or.inl ⟨by omega, h8⟩)
  have e9 := (g.2.2.2.1 (x + 9) (Or.inl ⟨by omega, h9⟩)).2.2.2.2
  refine ⟨lt, h1, by rw [e8.1]; exact h2, by rw [e8.1]; exact h3, fun k hk => ?_, fun k k' hh hk hk' q1 q2 => h5 k k' hh hk hk' (by rw [e9] at q1; exact q1) (by rw [e9] at q2; exact q2), fun j hj => ?_⟩
  · rw [e9]
    rcases h4 k hk with q | ⟨hh, q1, q2, q3⟩
    · exact Or.inl q
    · exact Or.inr ⟨hh, q1, q2, q3.fr g⟩
  · obtain ⟨hh, q1, q2⟩ := h6 j hj
    refine ⟨hh, by rw [e9]; exact q1, ?_⟩
    rcases h4 _ (Nat.mod_lt _ (by decide)) with q | ⟨h', q3, q4, q5⟩
    · rw [q] at q1; cases q1
    · rw [q3] at q1
      have := Option.some.inj q1
      subst this
      exact q2.fr q5 g hT (hd _ q4) (hd _ (by omega))
theorem IMo.fr (h : IMo A x G s) (hC : CI A x) (g : Fr T A B) (hT : okT A x T) (h0 : ∀ a, x + 10 ≤ a → a ≤ x + 16 → ¬ T a) : IMo B x G s := fun i hi => by
  have hs := hC.2.2
  obtain ⟨q1, q2, q3⟩ := h i hi
  have e := g.2.2.2.1 (x + 11 + 3 * i) (Or.inl ⟨by omega, h0 _ (by omega) (by omega)⟩)
  exact ⟨by rw [(g.2.2.2.1 (x + 10) (Or.inl ⟨by omega, h0 _ (by omega) (by omega)⟩)).2.2.2.2]; exact q1, by rw [e.1]; exact q2, fun z => ⟨(q3 z).1.fr (hC.si hi).1 g hT (h0 _ (by omega) (by omega)) (h0 _ (by omega) (by omega)), by rw [e.1]; exact (q3 z).2⟩⟩
theorem TXo.fr (h : TXo A x s) (hC : CI A x) (g : Fr T A B) (h3 : ¬ T (x + 3)) (h4 : ¬ T (x + 4)) : TXo B x s := by
  have hs := hC.2.2
  have e3 := g.2.2.2.1 (x + 3) (Or.inl ⟨by omega, h3⟩)
  have e4 := g.2.2.2.1 (x + 4) (Or.inl ⟨by omega, h4⟩)
  exact ⟨by rw [e3.1]; exact h.1, fun i hi => by rw [e4.2.2.2.1]; exact h.2.1 i hi, by rw [e3.1]; exact h.2.2⟩
theorem BKo.fr (h : BKo A x s) (hC : CI A x) (g : Fr T A B) (h5 : ¬ T (x + 5)) (h6 : ¬ T (x + 6)) (h7 : ¬ T (x + 7)) : BKo B x s := by
  have hs := hC.2.2
  have e5 := g.2.2.2.1 (x + 5) (Or.inl ⟨by omega, h5⟩)
  have e6 := g.2.2.2.1 (x + 6) (Or.inl ⟨by omega, h6⟩)
  have e7 := g.2.2.2.1 (x + 7) (Or.inl ⟨by omega, h7⟩)
  exact ⟨by rw [e5.1]; exact h.1, fun i hi => by rw [e6.2.2.2.1, e7.2.2.2.1]; exact h.2 i hi⟩
theorem Fr.kp (g : Fr T A B) (hC : CI A x) (h0 : ∀ a, x + 22 ≤ a → a ≤ x + 33 → ¬ T a) : Kp x A B := fun a a1 a2 => by
  have hs := hC.2.2
  exact ⟨g.2.2.2.1 a (Or.inl ⟨by omega, h0 a a1 a2⟩), g.2.1 a (by omega)⟩
/-- a shelf becomes as another -/
theorem S_copy (hla : ShL A a) (hlb : ShL A b) (hb : SHo A x G b sh) (h6 : sh.1 ≤ 6) (hab : a ≠ b) : ∃ B, fX8_copyFrom A (some a) (some b) = some B ∧ Fr (fun c => c = a ∨ c = a + 1) A B ∧ Hi B 257 a = I sh.1 ∧ ∀ t, t < sh.1 → Hq B (a + 1) t = Hq A (b + 1) t := by
  obtain ⟨a1, a2, a3, a4⟩ := hla
  obtain ⟨b1, b2, b3, b4⟩ := hlb
  have n1 : b ≠ a + 1 := fun e => by rw [e, a3.1] at b1; cases b1
  have n2 : b + 1 ≠ a := fun e => by rw [e, a1] at b3; cases b3.1
  unfold fX8_copyFrom
  rw [rcv_ok a1, bs, C_scount ⟨b1, b2, b3, b4⟩ hb, bs, pI_ok a1, bs]
  refine for_eb sh.1 (fun t u => u.1 = I t ∧ Fr (fun c => c = a ∨ c = a + 1) A u.2 ∧ Hi u.2 257 a = I sh.1 ∧ ∀ k, k < t → Hq u.2 (a + 1) k = Hq A (b + 1) k) (fun r => Fr (fun c => c = a ∨ c = a + 1) A r ∧ Hi r 257 a = I sh.1 ∧ ∀ k, k < sh.1 → Hq r (a + 1) k = Hq A (b + 1) k) ⟨rfl, Fr.rf.wI (Or.inl (Or.inl rfl)) (by omega), hi_si, fun k hk => by omega⟩ ?_ ?_ (fun r hr => ⟨r, rfl, hr⟩)
  · rintro t ⟨u1, u2⟩ ht ⟨e1, g, e2, e3⟩
    dsimp only at e1 g e2 e3 ⊢
    subst e1
    have la : ShL u2 a := ShL.fr ⟨a1, a2, a3, a4⟩ g
    have lb : ShL u2 b := ShL.fr ⟨b1, b2, b3, b4⟩ g
    have eb := g.2.2.2.1 b (Or.inl ⟨by omega, fun q => q.elim (fun z => hab z.symm) n1⟩)
    have eb1 := g.2.2.2.1 (b + 1) (Or.inl ⟨b4, fun q => q.elim n2 (fun z => hab (by omega))⟩)
    obtain ⟨w, w1, w2⟩ := hb.2 t ht
    have gt : fX8_get u2 (some b) (I t) = some (some w) := by
      unfold fX8_get
      rw [rcv_ok lb.1, bs, if_neg (show ¬ I (t : Int) < 0 from lt_n (b := 0) (by omega)), gI_ok lb.1, bs, eb.1, hb.1, if_neg (le_n (by omega)), gR_ok lb.1, bs, lb.2.1, aL_at lb.2.2.1, bs, if_neg (le_n (by omega)), bs, aR_ok lb.2.2.1.1 (by omega) (by rw [lb.2.2.1.2]; omega) (by rw [lb.2.2.1.2]; decide), bs, Int.toNat_natCast, eb1.2.2.2.2, w1]
    have ok : okR u2 11 (some w) = true := by
      show decide (Hk u2 w = 11) = true
      rw [(g.2.1 w w2.1.2.1).1]
      exact decide_eq_true w2.1.2.2
    rw [gI_ok la.1, bs, e2, if_neg (le_n (by omega)), gR_ok la.1, bs, la.2.1, gt, bs, sR_ok ok la.2.2.1.1 (by omega) (by rw [la.2.2.1.2]; omega) (by rw [la.2.2.1.2]; decide), bs, Int.toNat_natCast]
    refine ⟨_, rfl, by dsimp only; rw [L_1, I_add, ← cst], g.wQ (Or.inl (Or.inr rfl)) la.2.2.2, e2, fun k hk => ?_⟩
    dsimp only
    rw [hq_sq]
    by_cases q : k = t
    · rw [if_pos q, q, w1]
    · rw [if_neg q]; exact e3 k (by omega)
  · rintro ⟨u1, u2⟩ ⟨e1, g, e2, e3⟩
    dsimp only at e1 g e2 e3 ⊢
    subst e1
    have la : ShL u2 a := ShL.fr ⟨a1, a2, a3, a4⟩ g
    exact ⟨u2, by rw [gI_ok la.1, bs, e2, if_pos (le_y (by omega))], g, e2, e3⟩
theorem S_copied (hb : SHo A x G b sh) (g : Fr T A B) (hT : okT A x T) (h1 : Hi B 257 a = I sh.1) (h2 : ∀ t, t < sh.1 → Hq B (a + 1) t = Hq A (b + 1) t) : SHo B x G a sh := ⟨h1, fun t ht => by
    obtain ⟨w, w1, w2⟩ := hb.2 t ht
    exact ⟨w, by rw [h2 t ht]; exact w1, w2.fr g hT⟩⟩
/-- a new shelf -/
theorem S_new (hcl : Cl A) : ∃ B, fX8_init (nw A 9 0) (some (Hs A)) = some B ∧ Fr T A B ∧ ShL B (Hs A) ∧ Hs B = Hs A + 2 := by
  have k0 : Hk (nw A 9 0) (Hs A) = 9 := if_pos rfl
  have s0 : Hs (nw A 9 0) = Hs A + 1 := rfl
  unfold fX8_init
  have n6 : nA (nw A 9 0) 18 6 6 = some (nw (nw A 9 0) 18 6) := nA_ok (j := 6) (by omega) (by omega) (by omega)
  rw [rcv_ok k0, bs, n6, bs, pR_ok (show Hk (nw (nw A 9 0) 18 6) (Hs A) = 9 from (if_neg (by omega)).trans k0), bs]
  obtain ⟨B1, b1, b1k, b1o, b1r, b1n, b1i, b1e, b1s, b1j⟩ := mkA (nw A 9 0) 18 (Hs A) 256 6
  have gb1 : Fr T A B1 := by rw [b1]; exact ((Fr.rf.nW (by decide)).nW (by decide)).wR (Or.inr (by omega)) (by show Hs A < Hs (nw A 9 0) + 1; omega)
  have kb1 : Hk B1 (Hs A) = 9 := by rw [(b1o _ (by omega)).1]; exact k0
  rw [← b1, pI_ok kb1, bs]
  rw [s0] at b1k b1r b1s
  exact ⟨_, rfl, gb1.wI (Or.inr (Nat.le_refl _)) (by omega), ⟨kb1, b1r, b1k, by show Hs A + 1 < Hs B1; omega⟩, by show Hs B1 = _; omega⟩
end
