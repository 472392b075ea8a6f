/-! the class's shelves and the state that they hold -/
theorem srch_ebF {S T β : Type} {b : S → Option (S ⊕ T)} {K : T → Option β} {Qr : β → Prop} (n F : Nat) (hF : n < F) (G : Nat → S → Prop) (Post : T → Prop) {s : S} (h0 : G 0 s) (hs : ∀ j s, j < n → G j s → (∃ s', b s = some (.inl s') ∧ G (j + 1) s') ∨ (∃ t, b s = some (.inr t) ∧ Post t)) (he : ∀ s, G n s → ∃ t, b s = some (.inr t) ∧ Post t) (hK : ∀ t, Post t → ∃ r, K t = some r ∧ Qr r) : ∃ r, (itN b F s).bind K = some r ∧ Qr r := by
  have key : ∀ (f j : Nat) (s : S), j + f = n → G j s → ∃ t, itN b (f + 1) s = some t ∧ Post t := by
    intro f
    induction f with
    | zero =>
      intro j s hj hg
      obtain ⟨t, h1, h2⟩ := he s (by rw [← hj]; exact hg)
      exact ⟨t, by unfold itN; rw [h1], h2⟩
    | succ f ih =>
      intro j s hj hg
      rcases hs j s (by omega) hg with ⟨s', h1, h2⟩ | ⟨t, h1, h2⟩
      · obtain ⟨t, h3, h4⟩ := ih (j + 1) s' (by omega) h2
        exact ⟨t, by unfold itN; rw [h1]; exact h3, h4⟩
      · exact ⟨t, by unfold itN; rw [h1], h2⟩
  obtain ⟨t, h1, h2⟩ := key n 0 s (by omega) h0
  have h3 := itN_add h1 (F - (n + 1))
  rw [show n + 1 + (F - (n + 1)) = F by omega] at h3
  rw [h3]
  exact hK t h2
/-- a shelf's object at a, its row of words at a + 1 -/
def ShL (A : AH) (a : Nat) : Prop := Hk A a = 9 ∧ Hr A 256 a = some (a + 1) ∧ (Hk A (a + 1) = 18 ∧ Hn A (a + 1) = 6) ∧ a + 1 < Hs A
def SHo (A : AH) (x : Nat) (G : Gm) (a : Nat) (sh : Sh) : Prop := Hi A 257 a = I sh.1 ∧ ∀ t, t < sh.1 → ∃ w, Hq A (a + 1) t = some w ∧ WD A x G w (sh.2 t)
def HO (A : AH) (x : Nat) (G : Gm) (u : Nat) (H : Nat → Sh) : Prop := ∃ lt : Nat, lt < 16 ∧ Hi A 161 (x + 8) = I lt ∧ Hi A 162 (x + 8) = I u ∧ (∀ k, k < 16 → Hq A (x + 9) k = none ∨ ∃ h, Hq A (x + 9) k = some h ∧ x + 34 ≤ h ∧ ShL A h) ∧ (∀ k k' h, k < 16 → k' < 16 → Hq A (x + 9) k = some h → Hq A (x + 9) k' = some h → k = k') ∧ ∀ j, j < u → ∃ h, Hq A (x + 9) ((lt + 17 + j - u) % 16) = some h ∧ SHo A x G h (H j)
def IMo (A : AH) (x : Nat) (G : Gm) (s : St) : Prop := ∀ i, i < 2 → Hq A (x + 10) i = some (x + 11 + 3 * i) ∧ Hi A 194 (x + 11 + 3 * i) = bI (sKe s i = true) ∧ (sKe s i = true → SHo A x G (x + 12 + 3 * i) (sIm s i) ∧ Hi A 193 (x + 11 + 3 * i) = I (sIs s i))
def TXo (A : AH) (x : Nat) (s : St) : Prop := Hi A 289 (x + 3) = I (sTn s) ∧ (∀ i, i < sTn s → He A (x + 4) i = I (sT s i)) ∧ Hi A 290 (x + 3) = I (sFt s)
def BKo (A : AH) (x : Nat) (s : St) : Prop := Hi A 2 (x + 5) = I (sEn s) ∧ ∀ i, i < sEn s → He A (x + 6) i = I (sBw s i) ∧ He A (x + 7) i = sBm s i
def CF (A : AH) (x : Nat) (G : Gm) (s : St) : Prop := IV A x G ∧ SHo A x G (x + 1) (sSh s) ∧ HO A x G (sU s) (sH s) ∧ IMo A x G s ∧ TXo A x s ∧ BKo A x s ∧ Hi A 64 (x + 17) = I (sSd s)
/-- the reference's cells stay -/
def Kp (x : Nat) (A B : AH) : Prop := ∀ a, x + 22 ≤ a → a ≤ x + 33 → Eq8 A B a ∧ Hk B a = Hk A a ∧ Hn B a = Hn A a
section
variable {A B C : AH} {x r w a : Nat} {G : Gm} {wd : Wrd} {s : St} {sh : Sh}
theorem Kp.rf : Kp x A A := fun _ _ _ => ⟨Eq8.rf, rfl, rfl⟩
theorem Kp.tr (h : Kp x A B) (g : Kp x B C) : Kp x A C := fun a h1 h2 => ⟨(h a h1 h2).1.tr (g a h1 h2).1, (g a h1 h2).2.1.trans (h a h1 h2).2.1, (g a h1 h2).2.2.trans (h a h1 h2).2.2⟩
theorem Qt.kp (h : Qt x A B) (hC : CI A x) : Kp x A B := fun a h1 h2 => by
  have := hC.2.2
  exact ⟨h.2.2.2.1 a (by omega) (by omega), h.2.1 a (by omega)⟩
theorem ShL.qt (h : ShL A a) (g : Qt x A B) : ShL B a := by
  obtain ⟨h1, h2, ⟨h3, h4⟩, h5⟩ := h
  exact ⟨by rw [(g.2.1 a (by omega)).1]; exact h1, by rw [g.2.2.1 _ _ (by omega) (by decide)]; exact h2, ⟨by rw [(g.2.1 (a + 1) (by omega)).1]; exact h3, by rw [(g.2.1 (a + 1) (by omega)).2]; exact h4⟩, Nat.lt_of_lt_of_le h5 g.1⟩
theorem SHo.qt (h : SHo A x G a sh) (hl : ShL A a) (g : Qt x A B) (ha : x + 34 ≤ a ∨ a + 1 < x + 18) : SHo B x G a sh := by
  obtain ⟨h1, h2⟩ := h
  obtain ⟨k1, k2, ⟨k3, k4⟩, k5⟩ := hl
  have e1 : Hi B 257 a = Hi A 257 a := by
    rcases ha with ha | ha
    · exact g.2.2.2.2.1 a ha (by omega) (Or.inl k1) _
    · exact (g.2.2.2.1 a (by omega) (by omega)).1 _
  have e2 : Hq B (a + 1) = Hq A (a + 1) := by
    rcases ha with ha | ha
    · exact g.2.2.2.2.2 (a + 1) (by omega) k5 k3
    · exact (g.2.2.2.1 (a + 1) (by omega) (by omega)).2.2.2.2
  refine ⟨by rw [e1]; exact h1, fun t ht => ?_⟩
  obtain ⟨w, w1, w2⟩ := h2 t ht
  exact ⟨w, by rw [e2]; exact w1, w2.qt g⟩
theorem CI.s1 (h : CI A x) : ShL A (x + 1) := ⟨h.k1, by have := h.1 (1, 256, 2) (by decide); exact this, h.k2, by have := h.2.2; omega⟩
theorem CI.si (h : CI A x) {i : Nat} (hi : i < 2) : ShL A (x + 12 + 3 * i) ∧ Hk A (x + 11 + 3 * i) = 7 ∧ Hr A 192 (x + 11 + 3 * i) = some (x + 12 + 3 * i) := by
  have hs := h.2.2
  have z : i = 0 ∨ i = 1 := by omega
  rcases z with rfl | rfl
  · exact ⟨⟨h.k12, h.1 (12, 256, 13) (by decide), h.k13, by omega⟩, h.k11, h.1 (11, 192, 12) (by decide)⟩
  · exact ⟨⟨h.k15, h.1 (15, 256, 16) (by decide), h.k16, by omega⟩, h.k14, h.1 (14, 192, 15) (by decide)⟩
theorem HO.qt {u : Nat} {H : Nat → Sh} (h : HO A x G u H) (hC : CI A x) (g : Qt x A B) : HO B x G u H := by
  obtain ⟨lt, h1, h2, h3, h4, h5, h6⟩ := h
  have hs := hC.2.2
  have e8 := g.2.2.2.1 (x + 8) (by omega) (by omega)
  have e9 := (g.2.2.2.1 (x + 9) (by omega) (by omega)).2.2.2.2
  refine ⟨lt, h1, by rw [e8.1]; exact h2, by rw [e8.1]; exact h3, fun k hk => ?_, fun k k' hh hk hk' q1 q2 => h5 k k' hh hk hk' (by rw [e9] at q1; exact q1) (by rw [e9] at q2; exact q2), fun j hj => ?_⟩
  · rw [e9]
    rcases h4 k hk with q | ⟨hh, q1, q2, q3⟩
    · exact Or.inl q
    · exact Or.inr ⟨hh, q1, q2, q3.qt g⟩
  · obtain ⟨hh, q1, q2⟩ := h6 j hj
    refine ⟨hh, by rw [e9]; exact q1, ?_⟩
    rcases h4 _ (Nat.mod_lt _ (by decide)) with q | ⟨h', q3, q4, q5⟩
    · rw [q] at q1; cases q1
    · rw [q3] at q1
      have := Option.some.inj q1
      subst this
      exact q2.qt q5 g (Or.inl q4)
theorem CF.qt (h : CF A x G s) (g : Qt x A B) (hI : IV B x G) : CF B x G s := by
  obtain ⟨h1, h2, h3, h4, h5, h6, h7⟩ := h
  have hC := h1.1
  have e := fun j (hj : j < 18) => g.2.2.2.1 (x + j) (by omega) (by omega)
  refine ⟨hI, h2.qt hC.s1 g (Or.inr (by omega)), h3.qt hC g, fun i hi => ?_, ⟨by rw [(e 3 (by omega)).1]; exact h5.1, fun i hi => by rw [(e 4 (by omega)).2.2.2.1]; exact h5.2.1 i hi, by rw [(e 3 (by omega)).1]; exact h5.2.2⟩, ⟨by rw [(e 5 (by omega)).1]; exact h6.1, fun i hi => by rw [(e 6 (by omega)).2.2.2.1, (e 7 (by omega)).2.2.2.1]; exact h6.2 i hi⟩, by rw [(e 17 (by omega)).1]; exact h7⟩
  obtain ⟨q1, q2, q3⟩ := h4 i hi
  have ei := g.2.2.2.1 (x + 11 + 3 * i) (by omega) (by omega)
  exact ⟨by rw [(e 10 (by omega)).2.2.2.2]; exact q1, by rw [ei.1]; exact q2, fun z => ⟨(q3 z).1.qt (hC.si hi).1 g (Or.inr (by omega)), by rw [ei.1]; exact (q3 z).2⟩⟩
/-- a word of a shelf -/
theorem C_get (hl : ShL A a) (h : SHo A x G a sh) (h6 : sh.1 ≤ 6) (v : Int32) : (0 ≤ v.toInt ∧ v.toInt < sh.1 ∧ ∃ w, fX8_get A (some a) v = some (some w) ∧ WD A x G w (sh.2 v.toInt.toNat)) ∨ (¬ (0 ≤ v.toInt ∧ v.toInt < sh.1) ∧ fX8_get A (some a) v = some none) := by
  have hb := Bd_of v
  obtain ⟨k1, k2, k3, k5⟩ := hl
  have hr : gR A 9 256 (some a) = some (some (a + 1)) := by rw [gR_ok k1, k2]
  unfold fX8_get
  rw [rcv_ok k1, bs, gI_ok k1, bs, h.1]
  by_cases q : v.toInt < 0
  · right
    exact ⟨by omega, if_pos (by rw [I_of v]; exact lt_y (b := 0) (by omega))⟩
  rw [if_neg (show ¬ v < 0 by rw [I_of v]; exact lt_n (b := 0) (by omega))]
  by_cases q2 : v.toInt < sh.1
  · left
    obtain ⟨t, ht, t2⟩ : ∃ t : Nat, t < sh.1 ∧ v.toInt = t := ⟨v.toInt.toNat, by omega, by omega⟩
    have hv : v = I (t : Int) := lit_eq t2
    obtain ⟨w, w1, w2⟩ := h.2 t ht
    refine ⟨by omega, q2, w, ?_, by rw [t2, Int.toNat_natCast]; exact w2⟩
    rw [hv, if_neg (le_n (by omega)), hr, bs, aL_at k3, bs, if_neg (le_n (by omega)), bs, aR_ok k3.1 (by omega) (by rw [k3.2]; omega) (by rw [k3.2]; decide), bs, Int.toNat_natCast, w1]
  · right
    exact ⟨by omega, if_pos (by rw [I_of v]; exact le_y (by omega))⟩
theorem C_getN (hl : ShL A a) (h : SHo A x G a sh) (h6 : sh.1 ≤ 6) {t : Nat} (ht : t < sh.1) : ∃ w, fX8_get A (some a) (I t) = some (some w) ∧ WD A x G w (sh.2 t) := by
  rcases C_get hl h h6 (I (t : Int)) with ⟨-, -, w, w1, w2⟩ | ⟨q, -⟩
  · rw [I_toInt (by omega), Int.toNat_natCast] at w2
    exact ⟨w, w1, w2⟩
  · rw [I_toInt (by omega)] at q
    omega
theorem C_scount (hl : ShL A a) (h : SHo A x G a sh) : fX8_count A (some a) = some (I sh.1) := by
  unfold fX8_count
  rw [rcv_ok hl.1, bs, gI_ok hl.1, bs, h.1]
theorem C_isFull (hl : ShL A a) (h : SHo A x G a sh) (h6 : sh.1 ≤ 6) : fX8_isFull A (some a) = some (bI (sh.1 = 6)) := by
  obtain ⟨k1, k2, k3, k5⟩ := hl
  unfold fX8_isFull
  rw [rcv_ok k1, bs, gI_ok k1, bs, h.1, gR_ok k1, bs, k2, aL_at k3, bs]
  by_cases q : sh.1 = 6
  · rw [if_neg (lt_n (by omega))]; exact congrArg some (bI1.mpr q).symm
  · rw [if_pos (lt_y (by omega))]; exact congrArg some (bI0.mpr q).symm
/-! the questions, asked of the class -/
theorem W_get (h : CF A x G s) (hk : StOK s) (v : Int32) : (wIn s v ∧ ∃ w, fX8_get A (some (x + 1)) v = some (some w) ∧ WD A x G w (sW s v)) ∨ (¬ wIn s v ∧ fX8_get A (some (x + 1)) v = some none) := by
  rcases C_get h.1.1.s1 h.2.1 hk.1.1 v with ⟨h1, h2, h3⟩ | h1
  · exact Or.inl ⟨⟨h1, h2⟩, h3⟩
  · exact Or.inr h1
theorem some_ne {w : Nat} : ¬ (some w : Option Nat) = none := by simp
theorem CF.c0 (h : CF A x G s) : Hk A x = 12 := h.1.1.k0
theorem W_code (h : CF A x G s) (hk : StOK s) (v : Int32) : ∃ y, fX11_code A (some x) v = some y ∧ y.1 = qCode s v ∧ CF y.2 x G s ∧ Kp x A y.2 := by
  unfold fX11_code qCode
  rw [rcv_ok h.c0, bs, h.1.1.sh, bs]
  rcases W_get h hk v with ⟨q, w, w1, w2⟩ | ⟨q, w1⟩
  · obtain ⟨r, r1, r2, r3, r4, r5, r6, r7, r8, r9, r10⟩ := G_row h.1 w2
    obtain ⟨y, y1, y2, y3, y4⟩ := G_code h.1 r2
    rw [w1, bs, if_neg some_ne, if_pos q, r1, bs, y1, bs]
    exact ⟨_, rfl, by dsimp only; rw [y2, ← r9], h.qt y4 y3, y4.kp h.1.1⟩
  · rw [w1, bs, if_pos rfl, if_neg q]
    exact ⟨_, rfl, rfl, h, Kp.rf⟩
theorem W_at (h : CF A x G s) (hk : StOK s) (v z : Int32) : fX11_at A (some x) v z = some (qAt s v z) := by
  unfold fX11_at qAt
  rw [rcv_ok h.c0, bs, h.1.1.sh, bs]
  rcases W_get h hk v with ⟨q, w, w1, w2⟩ | ⟨q, w1⟩
  · obtain ⟨r, r1, r2, r3, r4, r5, r6, r7, r8, r9, r10⟩ := G_row h.1 w2
    have hN := r7.1
    have hz := Bd_of z
    rw [w1, bs, if_neg some_ne, if_pos q, r1, bs]
    by_cases q2 : 0 ≤ z.toInt ∧ z.toInt < 2 * (sW s v).1
    · obtain ⟨j, j1, j2⟩ : ∃ j : Nat, j < 2 * (sW s v).1 ∧ z.toInt = j := ⟨z.toInt.toNat, by omega, by omega⟩
      have hzj : z = I (j : Int) := lit_eq j2
      rw [if_pos q2, hzj, C_letterOn r8 hN j1, bs, I_toInt (by omega), Int.toNat_natCast]
    · have := C_letterOn0 r8 hN hz (by omega)
      rw [← I_of] at this
      rw [if_neg q2, this, bs]
  · rw [w1, bs, if_pos rfl, if_neg q]
theorem W_rings (h : CF A x G s) (hk : StOK s) (v z : Int32) : ∃ y, fX11_rings A (some x) v z = some y ∧ y.1 = qRings s v z ∧ CF y.2 x G s ∧ Kp x A y.2 := by
  unfold fX11_rings qRings
  rw [rcv_ok h.c0, bs, h.1.1.sh, bs]
  rcases W_get h hk v with ⟨q, w, w1, w2⟩ | ⟨q, w1⟩
  · obtain ⟨r, r1, r2, r3, r4, r5, r6, r7, r8, r9, r10⟩ := G_row h.1 w2
    have hN := r7.1
    have hp := p2_lt hN
    have e := C_hasLetters r8 hN (Bd_of z)
    rw [← I_of] at e
    rw [w1, bs, if_neg some_ne, r1, bs, e, bs]
    by_cases q2 : 0 ≤ z.toInt ∧ z.toInt < ((2 ^ (sW s v).1 : Nat) : Int)
    · obtain ⟨k, k1, k2⟩ := wz q2
      have hzk : z = I (k : Int) := lit_eq k2
      obtain ⟨y, y1, y2, y3, y4⟩ := G_rings h.1 r2 (s := k) (by omega)
      rw [if_neg (fun z => bI0.mp z q2), if_pos ⟨q.1, q.2, q2.1, q2.2⟩, bs, h.1.1.hp, bs, k2, Int.toNat_natCast, hzk, y1, bs]
      refine ⟨_, rfl, ?_, h.qt y4 y3, y4.kp h.1.1⟩
      dsimp only
      rw [y2, ← r3, ← r5, ← r6]
    · rw [if_pos (bI0.mpr q2), if_neg (fun z => q2 ⟨z.2.2.1, z.2.2.2⟩)]
      exact ⟨_, rfl, rfl, h, Kp.rf⟩
  · rw [w1, bs, if_pos rfl, if_neg (fun z => q ⟨z.1, z.2.1⟩)]
    exact ⟨_, rfl, rfl, h, Kp.rf⟩
theorem W_states (h : CF A x G s) (hk : StOK s) (v z : Int32) : ∃ y, fX11_states A (some x) v z = some y ∧ y.1 = qStates s v z ∧ CF y.2 x G s ∧ Kp x A y.2 := by
  have hz := Bd_of z
  unfold fX11_states qStates
  rw [rcv_ok h.c0, bs, h.1.1.sh, bs]
  rcases W_get h hk v with ⟨q, w, w1, w2⟩ | ⟨q, w1⟩
  · obtain ⟨r, r1, r2, r3, r4, r5, r6, r7, r8, r9, r10⟩ := G_row h.1 w2
    rw [w1, bs, if_neg some_ne, if_pos q]
    by_cases q2 : 1 ≤ z.toInt
    · rw [if_neg (show ¬ z < 1 by rw [I_of z]; exact lt_n (b := 1) (by omega))]
      by_cases q3 : z.toInt ≤ 9
      · obtain ⟨k, k1, k2⟩ : ∃ k : Nat, k < 10 ∧ z.toInt = k := ⟨z.toInt.toNat, by omega, by omega⟩
        have hzk : z = I (k : Int) := lit_eq k2
        obtain ⟨y, y1, y2, y3, y4⟩ := G_sets h.1 r2 k1
        rw [if_pos (show z ≤ 9 by rw [I_of z]; exact le_y (b := 9) (by omega)), if_pos ⟨q2, q3⟩, r1, bs, h.1.1.hp, bs, k2, hzk, y1, bs]
        refine ⟨_, rfl, ?_, h.qt y4 y3, y4.kp h.1.1⟩
        dsimp only
        rw [y2]
        unfold wSts
        rw [← r3, ← r5, ← r6]
      · rw [if_neg (show ¬ z ≤ 9 by rw [I_of z]; exact le_n (b := 9) (by omega)), if_neg (fun y => q3 y.2)]
        exact ⟨_, rfl, rfl, h, Kp.rf⟩
    · rw [if_pos (show z < 1 by rw [I_of z]; exact lt_y (b := 1) (by omega)), if_neg (fun y => q2 y.1)]
      exact ⟨_, rfl, rfl, h, Kp.rf⟩
  · rw [w1, bs, if_pos rfl, if_neg q]
    exact ⟨_, rfl, rfl, h, Kp.rf⟩
theorem W_same (h : CF A x G s) (hk : StOK s) (v z : Int32) : ∃ y, fX11_same A (some x) v z = some y ∧ y.1 = qSame s v z ∧ CF y.2 x G s ∧ Kp x A y.2 := by
  unfold fX11_same qSame
  rw [rcv_ok h.c0, bs, h.1.1.sh, bs]
  rcases W_get h hk v with ⟨q, w, w1, w2⟩ | ⟨q, w1⟩
  · rcases W_get h hk z with ⟨p, u, u1, u2⟩ | ⟨p, u1⟩
    · obtain ⟨r, r1, r2, r3, r4, r5, r6, r7, r8, r9, r10⟩ := G_row h.1 w2
      obtain ⟨t, t1, t2, t3, t4, t5, t6, t7, t8, t9, t10⟩ := G_row h.1 u2
      obtain ⟨y, y1, y2, y3, y4⟩ := G_isLike h.1 r2 t2
      rw [← r3, ← t3, ← r4, ← t4] at y2
      have y2 : y.1 = bI (wSame (sW s v) (sW s z)) := y2
      rw [w1, bs, bs, u1, bs, if_neg some_ne, if_neg some_ne, if_pos ⟨q, p⟩, r1, bs, t1, bs, y1, bs, y2]
      by_cases e : wSame (sW s v) (sW s z)
      · rw [if_neg (fun z => bI0.mp z e)]
        exact ⟨_, rfl, (bI1.mpr e).symm, h.qt y4 y3, y4.kp h.1.1⟩
      · rw [if_pos (bI0.mpr e)]
        exact ⟨_, rfl, (bI0.mpr e).symm, h.qt y4 y3, y4.kp h.1.1⟩
    · rw [w1, bs, bs, u1, bs, if_neg some_ne, if_pos rfl, if_neg (fun y => p y.2)]
      exact ⟨_, rfl, rfl, h, Kp.rf⟩
  · rcases W_get h hk z with ⟨p, u, u1, u2⟩ | ⟨p, u1⟩
    · rw [w1, bs, bs, u1, bs, if_pos rfl, if_neg (fun y => q y.1)]
      exact ⟨_, rfl, rfl, h, Kp.rf⟩
    · rw [w1, bs, bs, u1, bs, if_pos rfl, if_neg (fun y => q y.1)]
      exact ⟨_, rfl, rfl, h, Kp.rf⟩
theorem W_fault (h : CF A x G s) : fX11_fault A (some x) = some (I (sFt s)) := by
  unfold fX11_fault fX9_faultPlace
  rw [rcv_ok h.c0, bs, h.1.1.tx, bs, rcv_ok h.1.1.k3, bs, gI_ok h.1.1.k3, bs, bs, h.2.2.2.2.1.2.2]
end
