/-! the class: the shelf is remembered -/
section
variable {A B C : AH} {x r w a b : Nat} {G : Gm} {T : Nat → Prop} {wd : Wrd} {s : St} {sh : Sh}
theorem H_fin (h : CF A x G s) (hk : StOK s) {lt n hh : Nat} (hlt : lt < 16) (hn : n = (lt + 1) % 16) (l4 : ∀ k, k < 16 → Hq A (x + 9) k = none ∨ ∃ h, Hq A (x + 9) k = some h ∧ x + 34 ≤ h ∧ ShL A h) (l5 : ∀ k k' h, k < 16 → k' < 16 → Hq A (x + 9) k = some h → Hq A (x + 9) k' = some h → k = k') (l6 : ∀ j, j < sU s → ∃ h, Hq A (x + 9) ((lt + 17 + j - sU s) % 16) = some h ∧ SHo A x G h (sH s j))
    (gC : Fr (fun a => a = x + 8 ∨ a = x + 9) A C) (c1 : Hi C 161 (x + 8) = I n) (c2 : Hi C 162 (x + 8) = I (sU s)) (c3 : ∀ k, Hq C (x + 9) k = if k = n then some hh else Hq A (x + 9) k) (c4 : x + 34 ≤ hh) (c5 : ShL C hh) (c6 : ∀ k, k < 16 → k ≠ n → Hq A (x + 9) k ≠ some hh) (c7 : hh < Hs A → Hk A hh = 9) (c8 : hh + 1 < Hs A → Hk A (hh + 1) = 18) :
    ∃ E T, ((gR C 6 160 (some (x + 8))).bind fun v14 => (gI C 6 161 (some (x + 8))).bind fun v15 => (aR C 17 v14 v15).bind fun v16 => (fX8_copyFrom C v16 (some (x + 1))).bind fun r17 => (gI r17 6 162 (some (x + 8))).bind fun v18 => (fJ9_min_7cf53 r17 (v18 + 1) 16).bind fun r19 => (pI r17 6 162 (some (x + 8)) r19).bind fun A20 => some A20) = some E ∧ Fr T A E ∧ okT A x T ∧ (∀ a, T a → a = x + 8 ∨ a = x + 9 ∨ x + 34 ≤ a) ∧ CF E x G (stMind s) := by
  have hC := h.1.1
  have hxs := hC.2.2
  have h6 := hk.1.1
  have hU := hk.2.1.1
  have hn16 : n < 16 := by omega
  have T0 : okT A x (fun a => a = x + 8 ∨ a = x + 9) := fun a q _ => Or.inl (by omega)
  have hCC := hC.fr gC
  have shC : SHo C x G (x + 1) (sSh s) := h.2.1.fr hC.s1 gC T0 (by omega) (by omega)
  obtain ⟨D, d1, d2, d3, d4⟩ := S_copy c5 hCC.s1 shC h6 (show hh ≠ x + 1 by omega)
  have hCD := hCC.fr d2
  have e8 := d2.2.2.2.1 (x + 8) (Or.inl ⟨by have := hCC.2.2; omega, by omega⟩)
  have e9 := d2.2.2.2.1 (x + 9) (Or.inl ⟨by have := hCC.2.2; omega, by omega⟩)
  have rd : aR C 17 (some (x + 9)) (I n) = some (some hh) := by
    rw [aR_ok hCC.k9.1 (by omega) (by rw [hCC.k9.2]; omega) (by rw [hCC.k9.2]; decide), Int.toNat_natCast, c3, if_pos rfl]
  have e162 : Hi D 162 (x + 8) = I (sU s) := by rw [e8.1]; exact c2
  have emin : fJ9_min_7cf53 D (I (sU s : Int) + 1) 16 = some (I ((min (sU s + 1) 16 : Nat) : Int)) := by
    rw [L_1, I_add, show (16 : Int32) = I 16 from rfl, C_min D (by omega) (by omega)]; congr 2; omega
  rw [hCC.hi2, bs, gI_ok hCC.k8, bs, c1, rd, bs, d1, bs, gI_ok hCD.k8, bs, e162, emin, bs, pI_ok hCD.k8, bs]
  obtain ⟨u', hu'⟩ : ∃ u', u' = min (sU s + 1) 16 := ⟨_, rfl⟩
  rw [← hu']
  let T1 : Nat → Prop := fun a => a = x + 8 ∨ a = x + 9 ∨ a = hh ∨ a = hh + 1
  have hT1 : okT A x T1 := fun a q ha => by
    rcases q with q | q | q | q
    · exact Or.inl (by omega)
    · exact Or.inl (by omega)
    · exact Or.inr (Or.inl (by rw [q]; exact c7 (by omega)))
    · exact Or.inr (Or.inr (by rw [q]; exact c8 (by omega)))
  have gD : Fr T1 A D := (gC.wk (T := T1) (fun a q _ => q.elim Or.inl (fun z => Or.inr (Or.inl z)))).tr d2 (fun a q _ => q.elim (fun z => Or.inr (Or.inr (Or.inl z))) (fun z => Or.inr (Or.inr (Or.inr z))))
  have gE : Fr T1 A (si D 162 (x + 8) (I (u' : Int))) := gD.wI (Or.inl (Or.inl rfl)) (by have := hCD.2.2; omega)
  have no : ∀ a, a < x + 34 → a ≠ x + 8 → a ≠ x + 9 → ¬ T1 a := fun a a1 a2 a3 q => by rcases q with q | q | q | q <;> omega
  have qE : ∀ a, Hq (si D 162 (x + 8) (I (u' : Int))) a = Hq D a := fun _ => rfl
  have e9q : Hq D (x + 9) = Hq C (x + 9) := e9.2.2.2.2
  obtain ⟨E, hE⟩ : ∃ E, E = si D 162 (x + 8) (I (u' : Int)) := ⟨_, rfl⟩
  have lD := c5.fr d2
  have lE : ShL E hh := by rw [hE]; exact lD
  have qE9 : Hq E (x + 9) = Hq C (x + 9) := by rw [hE]; exact e9q
  have iE : Hi E 161 (x + 8) = I n := by rw [hE, hi_si_ne (by decide), e8.1]; exact c1
  have uE : Hi E 162 (x + 8) = I u' := by rw [hE]; exact hi_si
  rw [← hE] at gE ⊢
  have okC : okT C x (fun c => c = hh ∨ c = hh + 1) := fun a q _ => by
    rcases q with q | q
    · exact Or.inr (Or.inl (by rw [q]; exact c5.1))
    · exact Or.inr (Or.inr (by rw [q]; exact c5.2.2.1.1))
  have sD := S_copied shC d2 okC d3 d4
  have sE : SHo E x G hh (sSh s) := by
    rw [hE]
    exact sD.fr (T := fun a => a = x + 8) lD (Fr.rf.wI (Or.inl rfl) (by have := hCD.2.2; omega)) (fun a q _ => Or.inl (by omega)) (by omega) (by omega)
  have old : ∀ k h1 sh, k < 16 → k ≠ n → Hq A (x + 9) k = some h1 → SHo A x G h1 sh → Hq E (x + 9) k = some h1 ∧ SHo E x G h1 sh := by
    intro k h1 sh hk hkn q1 q2
    refine ⟨by rw [qE9, c3, if_neg hkn]; exact q1, ?_⟩
    have hne := c6 k hk hkn
    rw [q1] at hne
    have hne : h1 ≠ hh := fun e => hne (by rw [e])
    rcases l4 k hk with z | ⟨h', z1, z2, z3⟩
    · rw [z] at q1; cases q1
    · rw [z1] at q1
      have := Option.some.inj q1
      subst this
      obtain ⟨y1, y2, y3, y4⟩ := z3
      have n1 : h' ≠ hh + 1 := fun e => by
        have := c8 (by omega)
        rw [← e, y1] at this
        cases this
      have n2 : h' + 1 ≠ hh := fun e => by
        have := c7 (by omega)
        rw [← e, y3.1] at this
        cases this
      exact q2.fr ⟨y1, y2, y3, y4⟩ gE hT1 (fun q => by rcases q with q | q | q | q <;> omega) (fun q => by rcases q with q | q | q | q <;> omega)
  refine ⟨E, T1, rfl, gE, hT1, fun a q => by rcases q with q | q | q | q <;> omega, h.1.fr gE hT1, h.2.1.fr hC.s1 gE hT1 (no _ (by omega) (by omega) (by omega)) (no _ (by omega) (by omega) (by omega)), ?_, h.2.2.2.1.fr hC gE hT1 (fun a a1 a2 => no _ (by omega) (by omega) (by omega)), h.2.2.2.2.1.fr hC gE (no _ (by omega) (by omega) (by omega)) (no _ (by omega) (by omega) (by omega)), h.2.2.2.2.2.1.fr hC gE (no _ (by omega) (by omega) (by omega)) (no _ (by omega) (by omega) (by omega)) (no _ (by omega) (by omega) (by omega)), by rw [(gE.2.2.2.1 (x + 17) (Or.inl ⟨by omega, no _ (by omega) (by omega) (by omega)⟩)).1]; exact h.2.2.2.2.2.2⟩
  have slots : ∀ k, k < 16 → Hq E (x + 9) k = none ∨ ∃ h, Hq E (x + 9) k = some h ∧ x + 34 ≤ h ∧ ShL E h := fun k hk => by
    rw [qE9, c3]
    by_cases q : k = n
    · rw [if_pos q]; exact Or.inr ⟨hh, rfl, c4, lE⟩
    · rw [if_neg q]
      rcases l4 k hk with z | ⟨h', z1, z2, z3⟩
      · exact Or.inl z
      · exact Or.inr ⟨h', z1, z2, z3.fr gE⟩
  have dist : ∀ k k' h, k < 16 → k' < 16 → Hq E (x + 9) k = some h → Hq E (x + 9) k' = some h → k = k' := fun k k' h hk hk' q1 q2 => by
    rw [qE9, c3] at q1 q2
    by_cases z1 : k = n
    · by_cases z2 : k' = n
      · rw [z1, z2]
      · rw [if_pos z1] at q1
        rw [if_neg z2] at q2
        rw [← Option.some.inj q1] at q2
        exact absurd q2 (c6 k' hk' z2)
    · by_cases z2 : k' = n
      · rw [if_neg z1] at q1
        rw [if_pos z2] at q2
        rw [← Option.some.inj q2] at q1
        exact absurd q1 (c6 k hk z1)
      · rw [if_neg z1] at q1
        rw [if_neg z2] at q2
        exact l5 k k' h hk hk' q1 q2
  have atn : Hq E (x + 9) n = some hh := by rw [qE9, c3, if_pos rfl]
  by_cases hu : sU s = 16
  · have e1 : sU (stMind s) = 16 := by show (stMind s).2.1.1 = _; unfold stMind; rw [if_pos hu]
    have e2 : sH (stMind s) = fun j => if j < 15 then sH s (j + 1) else sSh s := by show (stMind s).2.1.2 = _; unfold stMind; rw [if_pos hu]
    have eu : u' = 16 := by omega
    rw [e1, e2]
    refine ⟨n, hn16, iE, by rw [uE, eu], slots, dist, fun j hj => ?_⟩
    by_cases q : j < 15
    · obtain ⟨h1, q1, q2⟩ := l6 (j + 1) (by omega)
      have ek : (n + 17 + j - 16) % 16 = (lt + 17 + (j + 1) - sU s) % 16 := by omega
      rw [ek]
      have := old _ h1 _ (Nat.mod_lt _ (by decide)) (by omega) q1 q2
      refine ⟨h1, this.1, ?_⟩
      dsimp only
      rw [if_pos q]; exact this.2
    · have ek : (n + 17 + j - 16) % 16 = n := by omega
      rw [ek]
      refine ⟨hh, atn, ?_⟩
      dsimp only
      rw [if_neg q]; exact sE
  · have e1 : sU (stMind s) = sU s + 1 := by show (stMind s).2.1.1 = _; unfold stMind; rw [if_neg hu]
    have e2 : sH (stMind s) = fun j => if j < sU s then sH s j else sSh s := by show (stMind s).2.1.2 = _; unfold stMind; rw [if_neg hu]
    have eu : u' = sU s + 1 := by omega
    rw [e1, e2]
    refine ⟨n, hn16, iE, by rw [uE, eu], slots, dist, fun j hj => ?_⟩
    by_cases q : j < sU s
    · obtain ⟨h1, q1, q2⟩ := l6 j q
      have ek : (n + 17 + j - (sU s + 1)) % 16 = (lt + 17 + j - sU s) % 16 := by omega
      rw [ek]
      have := old _ h1 _ (Nat.mod_lt _ (by decide)) (by omega) q1 q2
      refine ⟨h1, this.1, ?_⟩
      dsimp only
      rw [if_pos q]; exact this.2
    · have ek : (n + 17 + j - (sU s + 1)) % 16 = n := by omega
      rw [ek]
      refine ⟨hh, atn, ?_⟩
      dsimp only
      rw [if_neg q]; exact sE
theorem H_remember (h : CF A x G s) (hk : StOK s) : ∃ B T, fX5_remember A (some (x + 8)) (some (x + 1)) = some B ∧ Fr T A B ∧ okT A x T ∧ (∀ a, T a → a = x + 8 ∨ a = x + 9 ∨ x + 34 ≤ a) ∧ CF B x G (stMind s) := by
  have hC := h.1.1
  have hxs := hC.2.2
  obtain ⟨lt, l1, l2, l3, l4, l5, l6⟩ := h.2.2.1
  obtain ⟨n, hn⟩ : ∃ n, n = (lt + 1) % 16 := ⟨_, rfl⟩
  have en : rmI (I (lt : Int) + 1) 16 = some (I (n : Int)) := by
    rw [L_1, I_add, show (16 : Int32) = I 16 from rfl, I_rem (by omega) (by omega) (by omega) (by omega), hn]; congr 2
  unfold fX5_remember
  rw [rcv_ok hC.k8, bs, gI_ok hC.k8, bs, l2, en, bs, pI_ok hC.k8, bs]
  obtain ⟨A3, hA3⟩ : ∃ A3, A3 = si A 161 (x + 8) (I (n : Int)) := ⟨_, rfl⟩
  have g3 : Fr (fun a => a = x + 8 ∨ a = x + 9) A A3 := by rw [hA3]; exact Fr.rf.wI (Or.inl (Or.inl rfl)) (by omega)
  have hC3 := hC.fr g3
  have i161 : Hi A3 161 (x + 8) = I n := by rw [hA3]; exact hi_si
  have i162 : Hi A3 162 (x + 8) = I (sU s) := by rw [hA3, hi_si_ne (by decide)]; exact l3
  have q3 : ∀ a, Hq A3 a = Hq A a := fun a => by rw [hA3]; rfl
  have rd : aR A3 17 (some (x + 9)) (I n) = some (Hq A (x + 9) n) := by
    rw [aR_ok hC3.k9.1 (by omega) (by rw [hC3.k9.2]; omega) (by rw [hC3.k9.2]; decide), Int.toNat_natCast, q3]
  rw [← hA3, hC3.hi2, bs, gI_ok hC3.k8, bs, i161, rd, bs, jp_eq]
  rcases l4 n (by omega) with z | ⟨hh, z1, z2, z3⟩
  · -- a new shelf
    have hcl3 := h.1.2.1.fr g3
    obtain ⟨B, b1, b2, b3, b4⟩ := S_new (T := fun a => a = x + 8 ∨ a = x + 9) hcl3
    have gB := g3.tr' b2
    have hCB := hC.fr gB
    have hs3 : Hs A3 = Hs A := by rw [hA3]; rfl
    rw [z, if_pos rfl, bs, bs, b1, bs]
    have ok : okR B 9 (some (Hs A3)) = true := decide_eq_true b3.1
    rw [sR_ok ok hCB.k9.1 (by omega) (by rw [hCB.k9.2]; omega) (by rw [hCB.k9.2]; decide), bs, Int.toNat_natCast]
    have e8 := b2.2.2.2.1 (x + 8)
    have gS : Fr (fun a => a = x + 8 ∨ a = x + 9) A (sq B (x + 9) n (some (Hs A3))) := gB.wQ (Or.inl (Or.inr rfl)) (by have := hCB.2.2; omega)
    -- the new shelf leaves what lies in the history's cells
    have b2' : Fr (fun _ => False) A3 B := by
      obtain ⟨B', y1, y2, y3, y4⟩ := S_new (T := fun _ => False) hcl3
      have : B' = B := Option.some.inj (y1.symm.trans b1)
      subst this
      exact y2
    have f8 := b2'.2.2.2.1 (x + 8) (Or.inl ⟨by omega, fun q => q⟩)
    have f9 := b2'.2.2.2.1 (x + 9) (Or.inl ⟨by omega, fun q => q⟩)
    refine H_fin h hk l1 hn l4 l5 l6 gS (hh := Hs A3) ?_ ?_ (fun k => ?_) (by omega) b3 (fun k hk hkn e => ?_) (fun q => by omega) (fun q => by omega)
    · show Hi B 161 (x + 8) = _; rw [f8.1]; exact i161
    · show Hi B 162 (x + 8) = _; rw [f8.1]; exact i162
    · rw [hq_sq, f9.2.2.2.2, q3]
    · rcases l4 k hk with y | ⟨h', y1, y2, y3⟩
      · rw [y] at e; cases e
      · rw [y1] at e
        have := Option.some.inj e
        have := y3.2.2.2
        omega
  · rw [z1, if_neg some_ne]
    refine H_fin h hk l1 hn l4 l5 l6 g3 (hh := hh) i161 i162 (fun k => ?_) z2 (z3.fr g3) (fun k hk hkn e => hkn (l5 k n hh hk (by omega) e z1)) (fun _ => z3.1) (fun _ => z3.2.2.1.1)
    rw [q3]
    by_cases q : k = n
    · rw [if_pos q, q, z1]
    · rw [if_neg q]
end
