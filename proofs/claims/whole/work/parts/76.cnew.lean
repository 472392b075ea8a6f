/-! the class: new rows and words; words come and go -/
section
variable {A B C : AH} {x r w a b f : Nat} {G G' : Gm} {T : Nat → Prop} {wd : Wrd} {s : St} {sh : Sh} {N : Nat} {L P Q : Nat → Nat} {l : List Nat}
theorem RD.ex (h : RD A x r N L P Q) (g : Ex A B) : RD B x r N L P Q := by
  have ha := h.a
  exact h.mv g.1 (fun a ha => ⟨(g.2.1 a ha).1, (g.2.1 a ha).2.1⟩) ((g.2.1 r (by omega)).2.2.1 _) ((g.2.1 r (by omega)).2.2.1 _) (fun f _ => (g.2.1 r (by omega)).2.2.2.2.1 f) (fun j _ h5 => (g.2.1 (r + j) (by omega)).2.2.2.2.2.1)
theorem FO.ex {sg : Nat} (h : FO A x f r N L P sg) (g : Ex A B) : FO B x f r N L P sg := by
  obtain ⟨h1, h2, h3, h4, h5, h6⟩ := h
  have ha := h1.a
  have e := fun j (hj : j ≤ 5) => (g.2.1 (f + j) (by omega)).2.2.2.2.2.1
  have hs := g.1
  refine ⟨?_, h2, fun c hc => by rw [e 1 (by omega)]; exact h3 c hc, fun c hc => by rw [e 2 (by omega)]; exact h4 c hc, fun c hc => by rw [e 3 (by omega), e 4 (by omega)]; exact h5 c hc, fun q c hc => by rw [e 5 (by omega)]; exact h6 q c hc⟩
  obtain ⟨⟨a1, a2⟩, a3, a4, a5, ⟨b1, b2, b3, b4, b5⟩, a6, c1, c2, c3, c4, c5⟩ := h1
  have e0 := (g.2.1 f (by omega)).2.2
  have z := fun j (hj : j ≤ 5) => g.2.1 (f + j) (by omega)
  exact ⟨⟨a1, by omega⟩, by rw [(g.2.1 f (by omega)).1]; exact a3, by rw [e0.2.2.1]; exact a4, by rw [e0.1]; exact a5, ⟨by rw [e0.2.2.1]; exact b1, by rw [e0.2.2.1]; exact b2, by rw [e0.2.2.1]; exact b3, by rw [e0.2.2.1]; exact b4, by rw [e0.2.2.1]; exact b5⟩, by rw [e0.1]; exact a6, by rw [(z 1 (by omega)).1, (z 1 (by omega)).2.1]; exact c1, by rw [(z 2 (by omega)).1, (z 2 (by omega)).2.1]; exact c2, by rw [(z 3 (by omega)).1, (z 3 (by omega)).2.1]; exact c3, by rw [(z 4 (by omega)).1, (z 4 (by omega)).2.1]; exact c4, by rw [(z 5 (by omega)).1, (z 5 (by omega)).2.1]; exact c5⟩
theorem IV.ext (h : IV A x G) (g : Ex A B) (hG : ∀ r, r < Hs A → G' r = G r) (hrow : ∀ r, Hs A ≤ r → isRow B x r → RowOK B x G' r) (hwd : ∀ w, Hs A ≤ w → isWd B x w → WdOK B x G' w) : IV B x G' := by
  obtain ⟨hC, hcl, hr, hw⟩ := h
  refine ⟨g.ci hC, g.cl hcl, fun r h => ?_, fun w h => ?_⟩
  · by_cases q : r < Hs A
    · have o := hr r ⟨h.1, q, by rw [← (g.2.1 r q).1]; exact h.2.2⟩
      have ha := o.1.a
      unfold RowOK gP gQ gW
      rw [hG r q]
      exact ⟨o.1.ex g, o.2.1, o.2.2.e8 (g.2.1 r q).2.2 (g.2.1 (r + 1) (by omega)).2.2⟩
    · exact hrow r (by omega) h
  · by_cases q : w < Hs A
    · obtain ⟨r, sg, h1, h2, h3, h4, h5⟩ := hw w ⟨h.1, q, by rw [← (g.2.1 w q).1]; exact h.2.2⟩
      have e := (g.2.1 w q).2.2
      refine ⟨r, sg, by rw [e.2.2.1]; exact h1, ⟨h2.1, Nat.lt_of_lt_of_le h2.2.1 g.1, by rw [(g.2.1 r h2.2.1).1]; exact h2.2.2⟩, by rw [e.1]; exact h3, by rw [hG r h2.2.1]; exact h4, ?_⟩
      unfold gP gW
      rw [e.2.2.1, hG r h2.2.1]
      rcases h5 with h5 | ⟨f, h5, h6⟩
      · exact Or.inl h5
      · exact Or.inr ⟨f, h5, h6.ex g⟩
    · exact hwd w (by omega) h
theorem WD.ex (h : WD A x G w wd) (hI : IV A x G) (g : Ex A B) (hG : ∀ r, r < Hs A → G' r = G r) : WD B x G' w wd := by
  obtain ⟨h1, r, h2, h3, h4, h5, h6⟩ := h
  obtain ⟨r', sg, k1, k2, -⟩ := hI.2.2.2 w h1
  have er : r' = r := Option.some.inj (k1.symm.trans h2)
  subst er
  have e := (g.2.1 w h1.2.1)
  exact ⟨⟨h1.1, Nat.lt_of_lt_of_le h1.2.1 g.1, by rw [e.1]; exact h1.2.2⟩, r', by rw [e.2.2.2.2.1]; exact h2, by rw [hG r' k2.2.1]; exact h3, by rw [hG r' k2.2.1]; exact h4, by rw [e.2.2.1]; exact h5, h6⟩
theorem ShL.ex (h : ShL A a) (g : Ex A B) : ShL B a := by
  obtain ⟨h1, h2, ⟨h3, h4⟩, h5⟩ := h
  have e := g.2.1 a (by omega)
  have e1 := g.2.1 (a + 1) h5
  exact ⟨by rw [e.1]; exact h1, by rw [e.2.2.2.2.1]; exact h2, ⟨by rw [e1.1]; exact h3, by rw [e1.2.1]; exact h4⟩, Nat.lt_of_lt_of_le h5 g.1⟩
theorem SHo.ex (h : SHo A x G a sh) (hl : ShL A a) (hI : IV A x G) (g : Ex A B) (hG : ∀ r, r < Hs A → G' r = G r) : SHo B x G' a sh := by
  have hs := hl.2.2.2
  refine ⟨by rw [(g.2.1 a (by omega)).2.2.1]; exact h.1, fun t ht => ?_⟩
  obtain ⟨w, w1, w2⟩ := h.2 t ht
  exact ⟨w, by rw [(g.2.1 (a + 1) hs).2.2.2.2.2.2]; exact w1, w2.ex hI g hG⟩
theorem CF.ex (h : CF A x G s) (g : Ex A B) (hG : ∀ r, r < Hs A → G' r = G r) (hI : IV B x G') : CF B x G' s := by
  obtain ⟨h1, h2, h3, h4, h5, h6, h7⟩ := h
  have hC := h1.1
  have hs := hC.2.2
  have e := fun j (hj : j < 34) => (g.2.1 (x + j) (by omega)).2.2
  refine ⟨hI, h2.ex hC.s1 h1 g hG, ?_, fun i hi => ?_, ⟨by rw [(e 3 (by omega)).1]; exact h5.1, fun i hi => by rw [(e 4 (by omega)).2.2.2.1]; exact h5.2.1 i hi, by rw [(e 3 (by omega)).1]; exact h5.2.2⟩, ⟨by rw [(e 5 (by omega)).1]; exact h6.1, fun i hi => by rw [(e 6 (by omega)).2.2.2.1, (e 7 (by omega)).2.2.2.1]; exact h6.2 i hi⟩, by rw [(e 17 (by omega)).1]; exact h7⟩
  · obtain ⟨lt, l1, l2, l3, l4, l5, l6⟩ := h3
    have e9 := (e 9 (by omega)).2.2.2.2
    refine ⟨lt, l1, by rw [(e 8 (by omega)).1]; exact l2, by rw [(e 8 (by omega)).1]; exact l3, fun k hk => ?_, fun k k' hh hk hk' q1 q2 => l5 k k' hh hk hk' (by rw [e9] at q1; exact q1) (by rw [e9] at q2; exact q2), fun j hj => ?_⟩
    · rw [e9]
      rcases l4 k hk with q | ⟨hh, q1, q2, q3⟩
      · exact Or.inl q
      · exact Or.inr ⟨hh, q1, q2, q3.ex g⟩
    · obtain ⟨hh, q1, q2⟩ := l6 j hj
      refine ⟨hh, by rw [e9]; exact q1, ?_⟩
      rcases l4 _ (Nat.mod_lt _ (by decide)) with q | ⟨h', q3, q4, q5⟩
      · rw [q] at q1; cases q1
      · rw [q3] at q1
        have := Option.some.inj q1
        subst this
        exact q2.ex q5 h1 g hG
  · obtain ⟨q1, q2, q3⟩ := h4 i hi
    have ei := (g.2.1 (x + 11 + 3 * i) (by omega)).2.2
    exact ⟨by rw [(e 10 (by omega)).2.2.2.2]; exact q1, by rw [ei.1]; exact q2, fun z => ⟨(q3 z).1.ex (hC.si hi).1 h1 g hG, by rw [ei.1]; exact (q3 z).2⟩⟩
theorem Ex.kp (g : Ex A B) (hC : CI A x) : Kp x A B := fun a a1 a2 => by
  have hs := hC.2.2
  have e := g.2.1 a (by omega)
  exact ⟨e.2.2, e.1, e.2.1⟩
/-- word w becomes a word of row r -/
theorem W_init (hw : Hk C w = 11) (r : Nat) (sg : Int32) : ∃ D, fX10_init C (some w) (some r) sg = some D ∧ D = si (sr (sr C 322 w none) 320 w (some r)) 321 w sg ∧ Hr D 320 w = some r ∧ Hr D 322 w = none ∧ Hi D 321 w = sg := by
  unfold fX10_init
  rw [rcv_ok hw, bs, pR_ok hw, bs, pR_ok (A := sr C 322 w none) hw, bs, pI_ok (A := sr (sr C 322 w none) 320 w (some r)) hw, bs]
  exact ⟨_, rfl, rfl, hr_sr, (hr_sr_ne (by omega)).trans hr_sr, hi_si⟩
/-- a new word of a row that there is -/
theorem W_new (h : IV A x G) (hr : isRow A x r) {sg : Nat} (hsg : sg < 2 ^ (G r).1) : ∃ D, fX10_init (nw A 11 0) (some (Hs A)) (some r) (I sg) = some D ∧ Ex A D ∧ IV D x G ∧ WD D x G (Hs A) (gW G r sg) ∧ Hs D = Hs A + 1 := by
  have hxs := h.1.2.2
  have k0 : Hk (nw A 11 0) (Hs A) = 11 := if_pos rfl
  obtain ⟨D, d1, d2, d3, d4, d5⟩ := W_init k0 r (I (sg : Int))
  have sD : Hs D = Hs A + 1 := by rw [d2]; rfl
  have gD : Ex A D := by
    rw [d2]
    have s0 : Hs (nw A 11 0) = Hs A + 1 := rfl
    exact ((Ex.rf.nW.wR (Nat.le_refl _) (by omega)).wR (Nat.le_refl _) (by show Hs A < Hs (nw A 11 0); omega)).wI (Nat.le_refl _) (by show Hs A < Hs (nw A 11 0); omega)
  have kD : Hk D (Hs A) = 11 := by rw [d2]; exact k0
  have hrD : isRow D x r := ⟨hr.1, Nat.lt_of_lt_of_le hr.2.1 gD.1, by rw [(gD.2.1 r hr.2.1).1]; exact hr.2.2⟩
  have hI : IV D x G := h.ext gD (fun _ _ => rfl) (fun r' q1 q2 => by
    have e : r' = Hs A := by have := q2.2.1; omega
    have := q2.2.2
    rw [e, kD] at this
    cases this) (fun w' q1 q2 => by
    have e : w' = Hs A := by have := q2.2.1; omega
    rw [e]
    exact ⟨r, sg, d3, hrD, d5, hsg, Or.inl d4⟩)
  exact ⟨D, d1, gD, hI, ⟨⟨by omega, by omega, kD⟩, r, d3, rfl, rfl, d5, hsg⟩, sD⟩
/-- word t of the shelf is another -/
theorem S_replace (h : CF A x G s) (hk : StOK s) {t : Nat} (ht : t < (sSh s).1) (hw : WD A x G w wd) : ∃ B, fX8_replace A (some (x + 1)) (I t) (some w) = some B ∧ CF B x G (setW s t wd) ∧ Fr (fun a => a = x + 2) A B := by
  have hC := h.1.1
  have hxs := hC.2.2
  have h6 := hk.1.1
  have hl := hC.s1
  unfold fX8_replace
  have ok : okR A 11 (some w) = true := decide_eq_true hw.1.2.2
  have hr2 : gR A 9 256 (some (x + 1)) = some (some (x + 2)) := by rw [gR_ok hl.1, hl.2.1]
  rw [rcv_ok hl.1, bs, if_neg (show ¬ I (t : Int) < 0 from lt_n (b := 0) (by omega)), gI_ok hl.1, bs, h.2.1.1, if_neg (le_n (by omega)), hr2, bs, sR_ok ok hC.k2.1 (by omega) (by rw [hC.k2.2]; omega) (by rw [hC.k2.2]; decide), bs, Int.toNat_natCast]
  have g : Fr (fun a => a = x + 2) A (sq A (x + 2) t (some w)) := Fr.rf.wQ (Or.inl rfl) (by omega)
  have hT : okT A x (fun a => a = x + 2) := fun a q _ => Or.inl (by omega)
  refine ⟨_, rfl, ⟨h.1.fr g hT, ⟨h.2.1.1, fun u hu => ?_⟩, h.2.2.1.fr hC g hT (by omega) (by omega) (fun a ha => by omega), h.2.2.2.1.fr hC g hT (fun a a1 a2 => by omega), h.2.2.2.2.1.fr hC g (by omega) (by omega), h.2.2.2.2.2.1.fr hC g (by omega) (by omega) (by omega), h.2.2.2.2.2.2⟩, g⟩
  show ∃ w_1, Hq (sq A (x + 2) t (some w)) (x + 2) u = some w_1 ∧ WD _ x G w_1 (if u = t then wd else s.1.2 u)
  rw [hq_sq]
  by_cases q : u = t
  · rw [if_pos q, if_pos q]; exact ⟨w, rfl, hw.fr g hT⟩
  · rw [if_neg q, if_neg q]
    obtain ⟨w', w1, w2⟩ := h.2.1.2 u hu
    exact ⟨w', w1, w2.fr g hT⟩
/-- one more word -/
theorem S_add (h : CF A x G s) (h6 : (sSh s).1 < 6) (hw : WD A x G w wd) : ∃ B, fX8_add A (some (x + 1)) (some w) = some B ∧ CF B x G (addW s wd) ∧ Fr (fun a => a = x + 1 ∨ a = x + 2) A B := by
  have hC := h.1.1
  have hxs := hC.2.2
  have hl := hC.s1
  unfold fX8_add
  have ok : okR A 11 (some w) = true := decide_eq_true hw.1.2.2
  have hr2 : gR A 9 256 (some (x + 1)) = some (some (x + 2)) := by rw [gR_ok hl.1, hl.2.1]
  rw [rcv_ok hl.1, bs, C_isFull hl h.2.1 (by omega), bs, if_pos (bI0.mpr (by omega)), hr2, bs, gI_ok hl.1, bs, h.2.1.1, sR_ok ok hC.k2.1 (by omega) (by rw [hC.k2.2]; omega) (by rw [hC.k2.2]; decide), bs, Int.toNat_natCast]
  have hl2 : Hk (sq A (x + 2) (sSh s).1 (some w)) (x + 1) = 9 := hl.1
  have e1 : Hi (sq A (x + 2) (sSh s).1 (some w)) 257 (x + 1) = I (sSh s).1 := h.2.1.1
  rw [gI_ok hl2, bs, e1, pI_ok hl2, bs, L_1, I_add, ← cst]
  have g : Fr (fun a => a = x + 1 ∨ a = x + 2) A (si (sq A (x + 2) (sSh s).1 (some w)) 257 (x + 1) (I (((sSh s).1 + 1 : Nat) : Int))) := (Fr.rf.wQ (Or.inl (Or.inr rfl)) (by omega)).wI (Or.inl (Or.inl rfl)) (by show x + 1 < Hs A; omega)
  have hT : okT A x (fun a => a = x + 1 ∨ a = x + 2) := fun a q _ => Or.inl (by omega)
  refine ⟨_, rfl, ⟨h.1.fr g hT, ⟨hi_si, fun u hu => ?_⟩, h.2.2.1.fr hC g hT (by omega) (by omega) (fun a ha => by omega), h.2.2.2.1.fr hC g hT (fun a a1 a2 => by omega), h.2.2.2.2.1.fr hC g (by omega) (by omega), h.2.2.2.2.2.1.fr hC g (by omega) (by omega) (by omega), by rw [hi_si_ne (by decide)]; exact h.2.2.2.2.2.2⟩, g⟩
  have hu' : u < s.1.1 + 1 := hu
  show ∃ w_1, Hq (sq A (x + 2) (sSh s).1 (some w)) (x + 2) u = some w_1 ∧ WD _ x G w_1 (if u = s.1.1 then wd else s.1.2 u)
  rw [hq_sq]
  by_cases q : u = s.1.1
  · rw [if_pos (show u = (sSh s).1 from q), if_pos q]; exact ⟨w, rfl, hw.fr g hT⟩
  · rw [if_neg (show ¬ u = (sSh s).1 from q), if_neg q]
    obtain ⟨w', w1, w2⟩ := h.2.1.2 u (show u < (sSh s).1 by show u < s.1.1; omega)
    exact ⟨w', w1, w2.fr g hT⟩
/-- word t becomes another, the shelf being remembered -/
theorem W_becomes (h : CF A x G s) (hk : StOK s) {t : Nat} (ht : t < (sSh s).1) (hw : WD A x G w wd) : ∃ B, fX11_becomes A (some x) (I t) (some w) = some B ∧ CF B x G (setW (stMind s) t wd) ∧ Kp x A B ∧ WD B x G w wd := by
  have hC := h.1.1
  obtain ⟨B, T, b1, b2, b3, b4, b5⟩ := H_remember h hk
  have hk' := stMind_ok hk
  obtain ⟨C, c1, c2, c3⟩ := S_replace b5 hk' (t := t) ht (hw.fr b2 b3)
  unfold fX11_becomes
  rw [rcv_ok hC.k0, bs, hC.hi, bs, hC.sh, bs, b1, bs, b5.1.1.sh, bs, c1, bs]
  exact ⟨C, rfl, c2, (b2.kp hC (fun a a1 a2 q => by have := b4 a q; omega)).tr (c3.kp b5.1.1 (fun a a1 a2 q => by omega)), (hw.fr b2 b3).fr c3 (fun a q _ => Or.inl (by omega))⟩
def setG (G : Gm) (r N : Nat) (L : Nat → Nat) : Gm := fun a => if a = r then (N, L) else G a
theorem setG_s (G : Gm) (r N : Nat) (L : Nat → Nat) : setG G r N L r = (N, L) := if_pos rfl
/-- the draft becomes word t -/
theorem W_draft (h : CF A x G s) (hk : StOK s) {t : Nat} (ht : t < (sSh s).1) (hD : DrL A x l) (hb : ∀ k, k < l.length → lD l k < 1000) (hdb : Dbl (lD l) l.length) {E : Nat → Nat} (hE : ∀ i j, i < l.length → j < l.length → (lD l i = lD l j ↔ E i = E j)) : ∃ r B G', fX11_becomesDraft A (some x) (I t) = some (some r, B) ∧ CF B x G' (reW s t E l.length) ∧ Kp x A B ∧ isRow B x r ∧ G' r = (l.length / 2, fun i => nn E (E i) i) := by
  have hC := h.1.1
  have hxs := hC.2.2
  obtain ⟨B, b1, b2, b3, b4, b5⟩ := R_init hC h.1.2.1 hD hb hdb hE
  obtain ⟨N, hN⟩ : ∃ N, N = l.length / 2 := ⟨_, rfl⟩
  obtain ⟨L, hL⟩ : ∃ L, L = fun i => nn E (E i) i := ⟨_, rfl⟩
  rw [← hN, ← hL] at b4 b5
  obtain ⟨r, hr⟩ : ∃ r, r = Hs A := ⟨_, rfl⟩
  rw [← hr] at b1 b3 b4
  have hG : ∀ q, q < Hs A → setG G r N L q = G q := fun q hq => if_neg (by omega)
  have eG : setG G r N L r = (N, L) := setG_s G r N L
  have kk : ∀ j, 1 ≤ j → j ≤ 5 → Hk B (r + j) = 14 := fun j j1 j2 => by
    have z : j = 1 ∨ j = 2 ∨ j = 3 ∨ j = 4 ∨ j = 5 := by omega
    rcases z with rfl | rfl | rfl | rfl | rfl
    · exact b4.1.k1.1
    · exact b4.1.k2.1
    · exact b4.1.k3.1
    · exact b4.1.k4.1
    · exact b4.1.k5.1
  have rowr : isRow B x r := ⟨by omega, by omega, b4.1.k⟩
  have hIB : IV B x (setG G r N L) := h.1.ext b2 hG (fun r' q1 q2 => by
    by_cases e : r' = r
    · rw [e]
      unfold RowOK gP gQ gW
      rw [eG]
      exact ⟨b4.1, b5.1, b4.2⟩
    · have := q2.2.1
      have k := kk (r' - r) (by omega) (by omega)
      rw [show r + (r' - r) = r' by omega, q2.2.2] at k
      cases k) (fun w' q1 q2 => by
    have := q2.2.1
    by_cases e : w' = r
    · have k := q2.2.2
      rw [e, b4.1.k] at k
      cases k
    · have k := kk (w' - r) (by omega) (by omega)
      rw [show r + (w' - r) = w' by omega, q2.2.2] at k
      cases k)
  have hFB := h.ex b2 hG hIB
  obtain ⟨D, d1, d2, d3, d4, d5⟩ := W_new hIB rowr (sg := 0) (Nat.two_pow_pos _)
  have hFD := hFB.ex d2 (fun _ _ => rfl) d3
  have ew : gW (setG G r N L) r 0 = wMade E l.length := by unfold gW; rw [eG, hN, hL]; rfl
  rw [ew] at d4
  obtain ⟨F, f1, f2, f3, f4⟩ := W_becomes hFD hk ht d4
  have d1 : fX10_init (nw B 11 0) (some (Hs B)) (some r) 0 = some D := d1
  unfold fX11_becomesDraft
  have k0 : CI (nw A 8 0) x := Ex.rf.nW.ci hC
  rw [rcv_ok hC.k0, bs, k0.df, bs, ← hr, b1, bs, d1, bs, f1, bs]
  have rowD : isRow D x r := ⟨rowr.1, Nat.lt_of_lt_of_le rowr.2.1 d2.1, by rw [(d2.2.1 r rowr.2.1).1]; exact rowr.2.2⟩
  have rowF : isRow F x r := by
    obtain ⟨B2, T2, y1, y2, y3, y4, y5⟩ := H_remember hFD hk
    obtain ⟨C2, c1, c2, c3⟩ := S_replace y5 (stMind_ok hk) (t := t) ht (d4.fr y2 y3)
    have : C2 = F := by
      unfold fX11_becomes at f1
      rw [rcv_ok hFD.1.1.k0, bs, hFD.1.1.hi, bs, hFD.1.1.sh, bs, y1, bs, y5.1.1.sh, bs, c1, bs] at f1
      exact Option.some.inj f1
    rw [← this]
    exact (rowD.fr y2).fr c3
  exact ⟨r, F, setG G r N L, rfl, f2, (b2.kp hC).tr ((d2.kp hIB.1).tr f3), rowF, by rw [eG, hN, hL]⟩
/-- the draft comes as a word -/
theorem W_comes (h : CF A x G s) (hk : StOK s) (h6 : (sSh s).1 < 6) (hD : DrL A x l) (hb : ∀ k, k < l.length → lD l k < 1000) (hdb : Dbl (lD l) l.length) {E : Nat → Nat} (hE : ∀ i j, i < l.length → j < l.length → (lD l i = lD l j ↔ E i = E j)) : ∃ B G', fX11_comesAsWord A (some x) = some (I (sSh s).1, B) ∧ CF B x G' (addW (stMind s) (wMade E l.length)) ∧ Kp x A B := by
  have hC := h.1.1
  obtain ⟨B, T, b1, b2, b3, b4, b5⟩ := H_remember h hk
  have hCB := b5.1.1
  have hxs := hCB.2.2
  have hDB : DrL B x l := hD.mv ((b2.2.2.2.1 (x + 18) (Or.inl ⟨by have := hC.2.2; omega, fun q => by have := b4 _ q; omega⟩)).1 _) (b2.2.2.2.1 (x + 19) (Or.inl ⟨by have := hC.2.2; omega, fun q => by have := b4 _ q; omega⟩)).2.2.2.1
  obtain ⟨w, hw⟩ : ∃ w, w = Hs B := ⟨_, rfl⟩
  have g1 : Ex B (nw B 11 0) := Ex.rf.nW
  have s1 : Hs (nw B 11 0) = w + 1 := by rw [hw]; rfl
  have k1 : Hk (nw B 11 0) w = 11 := by rw [hw]; exact if_pos rfl
  have hD1 : DrL (nw B 11 0) x l := hDB
  obtain ⟨C, c1, c2, c3, c4, c5⟩ := R_init (g1.ci hCB) (g1.cl b5.1.2.1) hD1 hb hdb hE
  obtain ⟨N, hN⟩ : ∃ N, N = l.length / 2 := ⟨_, rfl⟩
  obtain ⟨L, hL⟩ : ∃ L, L = fun i => nn E (E i) i := ⟨_, rfl⟩
  rw [← hN, ← hL] at c4 c5
  rw [s1] at c1 c3 c4
  have kC : Hk C w = 11 := by rw [(c2.2.1 w (by omega)).1]; exact k1
  obtain ⟨D, d1, d2, d3, d4, d5⟩ := W_init kC (w + 1) 0
  have sD : Hs D = w + 7 := by rw [d2]; show Hs C = _; omega
  have gBC : Ex B C := g1.tr c2
  have gD : Ex B D := by
    rw [d2]
    exact ((gBC.wR (by omega) (by omega)).wR (by omega) (by show w < Hs C; omega)).wI (by omega) (by show w < Hs C; omega)
  have kD : ∀ a, Hk D a = Hk C a := fun a => by rw [d2]; rfl
  obtain ⟨r, hr⟩ : ∃ r, r = w + 1 := ⟨_, rfl⟩
  rw [← hr] at c1 c4 d1 d2 d3
  have hG : ∀ q, q < Hs B → setG G r N L q = G q := fun q hq => if_neg (by omega)
  have eG : setG G r N L r = (N, L) := setG_s G r N L
  have rdD : RD D x r N L (wP (N, L, 0)) (wQ (N, L, 0)) := by
    refine c4.1.mv (by rw [d2]; exact Nat.le_refl _) (fun a _ => by rw [d2]; exact ⟨rfl, rfl⟩) (by rw [d2]; exact hi_si' (by omega)) (by rw [d2]; exact hi_si' (by omega)) (fun f hf => ?_) (fun j _ _ => by rw [d2]; rfl)
    rw [d2]
    show Hr (sr (sr C 322 w none) 320 w (some r)) f r = _
    rw [hr_sr_ne (by omega), hr_sr_ne (by omega)]
  have rcD : RC D r N L (wP (N, L, 0)) (wQ (N, L, 0)) := by
    have e0 : Eq8 C D r := by
      rw [d2]
      refine ⟨fun f => hi_si' (by omega), fun _ => rfl, fun f => ?_, rfl, rfl⟩
      show Hr (sr (sr C 322 w none) 320 w (some r)) f r = _
      rw [hr_sr_ne (by omega), hr_sr_ne (by omega)]
    have e1 : Eq8 C D (r + 1) := by
      rw [d2]
      refine ⟨fun f => hi_si' (by omega), fun _ => rfl, fun f => ?_, rfl, rfl⟩
      show Hr (sr (sr C 322 w none) 320 w (some r)) f (r + 1) = _
      rw [hr_sr_ne (by omega), hr_sr_ne (by omega)]
    exact c4.2.e8 e0 e1
  have kk : ∀ j, 1 ≤ j → j ≤ 5 → Hk D (r + j) = 14 := fun j j1 j2 => by
    rw [kD]
    have z : j = 1 ∨ j = 2 ∨ j = 3 ∨ j = 4 ∨ j = 5 := by omega
    rcases z with rfl | rfl | rfl | rfl | rfl
    · exact c4.1.k1.1
    · exact c4.1.k2.1
    · exact c4.1.k3.1
    · exact c4.1.k4.1
    · exact c4.1.k5.1
  have rowr : isRow D x r := ⟨by omega, by omega, rdD.k⟩
  have kw : Hk D w = 11 := by rw [kD]; exact kC
  have hIB : IV D x (setG G r N L) := b5.1.ext gD hG (fun r' q1 q2 => by
    have := q2.2.1
    by_cases e : r' = r
    · rw [e]
      unfold RowOK gP gQ gW
      rw [eG]
      exact ⟨rdD, c5.1, rcD⟩
    · by_cases e2 : r' = w
      · have k := q2.2.2
        rw [e2, kw] at k
        cases k
      · have k := kk (r' - r) (by omega) (by omega)
        rw [show r + (r' - r) = r' by omega, q2.2.2] at k
        cases k) (fun w' q1 q2 => by
    have := q2.2.1
    by_cases e : w' = w
    · rw [e]
      exact ⟨r, 0, d3, rowr, d5, Nat.two_pow_pos _, Or.inl d4⟩
    · by_cases e2 : w' = r
      · have k := q2.2.2
        rw [e2, rdD.k] at k
        cases k
      · have k := kk (w' - r) (by omega) (by omega)
        rw [show r + (w' - r) = w' by omega, q2.2.2] at k
        cases k)
  have hFD := b5.ex gD hG hIB
  have ew : wMade E l.length = (N, L, 0) := by rw [hN, hL]; rfl
  have hWD : WD D x (setG G r N L) w (wMade E l.length) := by
    rw [ew]
    exact ⟨⟨by omega, by omega, kw⟩, r, d3, by rw [eG], by rw [eG], d5, Nat.two_pow_pos _⟩
  obtain ⟨F, f1, f2, f3⟩ := S_add hFD h6 hWD
  unfold fX11_comesAsWord
  have k0 : CI (nw (nw B 11 0) 8 0) x := (g1.nW).ci hCB
  rw [rcv_ok hC.k0, bs, hC.hi, bs, hC.sh, bs, b1, bs, hCB.sh, bs, k0.df, bs, ← hw, s1, ← hr, c1, bs, d1, bs, f1, bs, f2.1.1.sh, bs, C_scount f2.1.1.s1 f2.2.1, bs]
  refine ⟨F, setG G r N L, ?_, f2, (b2.kp hC (fun a a1 a2 q => by have := b4 a q; omega)).tr ((gD.kp hCB).tr (f3.kp hIB.1 (fun a a1 a2 q => by omega)))⟩
  show some (I ((s.1.1 + 1 : Nat) : Int) - 1, F) = _
  rw [L_1, I_sub]
  show some (I (((s.1.1 + 1 : Nat) : Int) - 1), F) = some (I ((s.1.1 : Nat) : Int), F)
  rw [show ((s.1.1 + 1 : Nat) : Int) - 1 = ((s.1.1 : Nat) : Int) by omega]
end
