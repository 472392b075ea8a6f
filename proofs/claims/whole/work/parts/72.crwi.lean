/-! the class: a row is made of the draft -/
/-- a row's layout, without what lies in it -/
def RwL (B : AH) (x r N : Nat) : Prop := (x + 34 ≤ r ∧ r + 5 < Hs B) ∧ Hk B r = 8 ∧ Hi B 224 r = I N ∧ Hi B 225 r = I ((2 * N : Nat) : Int) ∧ (Hr B 226 r = some (r + 2) ∧ Hr B 227 r = some (r + 3) ∧ Hr B 228 r = some (r + 4) ∧ Hr B 229 r = some (r + 5) ∧ Hr B 237 r = some (r + 1)) ∧ (Hk B (r + 1) = 14 ∧ Hn B (r + 1) = 10) ∧ (Hk B (r + 2) = 14 ∧ Hn B (r + 2) = 2 * N) ∧ (Hk B (r + 3) = 14 ∧ Hn B (r + 3) = N) ∧ (Hk B (r + 4) = 14 ∧ Hn B (r + 4) = N) ∧ (Hk B (r + 5) = 14 ∧ Hn B (r + 5) = N)
section
variable {A B C : AH} {a x r N : Nat} {l : List Nat} {L P Q : Nat → Nat}
theorem RwL.st (h : RwL B x r N) (hC : CI B x) (hD : DrL B x l) (w : Wr (r + 2) (r + 5) B C) : Hk C r = 8 ∧ gR C 8 226 (some r) = some (some (r + 2)) ∧ gR C 8 227 (some r) = some (some (r + 3)) ∧ gR C 8 228 (some r) = some (some (r + 4)) ∧ gR C 8 229 (some r) = some (some (r + 5)) ∧ gI C 8 224 (some r) = some (I N) ∧ gI C 8 225 (some r) = some (I ((2 * N : Nat) : Int)) ∧ (Hk C (r + 2) = 14 ∧ Hn C (r + 2) = 2 * N) ∧ (Hk C (r + 3) = 14 ∧ Hn C (r + 3) = N) ∧ (Hk C (r + 4) = 14 ∧ Hn C (r + 4) = N) ∧ (Hk C (r + 5) = 14 ∧ Hn C (r + 5) = N) ∧ CI C x ∧ DrL C x l := by
  obtain ⟨⟨a1, a2⟩, a3, a4, a5, ⟨R2, R3, R4, R5, R1⟩, K1, K2, K3, K4, K5⟩ := h
  have kc : Hk C r = 8 := by rw [w.1]; exact a3
  have hx := hC.2.2
  have hCC : CI C x := by
    refine ⟨fun q hq => by rw [w.2.2.2.1]; exact hC.1 q hq, fun q hq => by rw [w.1, w.2.2.2.2.1]; exact hC.2.1 q hq, by rw [w.2.2.2.2.2.2.1]; exact hx⟩
  exact ⟨kc, by rw [gR_ok kc, w.2.2.2.1, R2], by rw [gR_ok kc, w.2.2.2.1, R3], by rw [gR_ok kc, w.2.2.2.1, R4], by rw [gR_ok kc, w.2.2.2.1, R5], by rw [gI_ok kc, w.2.1, a4], by rw [gI_ok kc, w.2.1, a5], by rw [w.1, w.2.2.2.2.1]; exact K2, by rw [w.1, w.2.2.2.2.1]; exact K3, by rw [w.1, w.2.2.2.2.1]; exact K4, by rw [w.1, w.2.2.2.2.1]; exact K5, hCC, hD.mv (by rw [w.2.1]) (w.2.2.2.2.2.2.2 _ (by omega))⟩
theorem R_fill1 (h : RwL B x r N) (hC : CI B x) (hD : DrL B x l) (hn2 : l.length = 2 * N) (hN8 : N ≤ 8) (hb : ∀ k, k < l.length → lD l k < 1000) (hV : VW N L P Q) (hLd : ∀ i, i < 2 * N → L i = nn (lD l) (lD l i) i) (hLeq : ∀ i j, i < 2 * N → j < 2 * N → (L i = L j ↔ lD l i = lD l j)) (hz5 : ∀ c, He B (r + 5) c = 0) : ∃ T, ((iter (S := Int32 × Int32 × AH) (T := AH) (fun s27 => (gI s27.2.2 8 225 (some r)).bind fun v30 => if v30 ≤ s27.2.1 then some (.inr s27.2.2) else (fX1_earlierTwin s27.2.2 (some (x + 18)) s27.2.1).bind fun r31 => jp (fun (x48 : Int32 × AH) => some (.inl (x48.1, (s27.2.1 + 1), x48.2))) fun K32 => if r31 = (-1) then (gI s27.2.2 8 224 (some r)).bind fun v33 => if v33 ≤ s27.1 then K32 (s27.1, s27.2.2) else (gR s27.2.2 8 226 (some r)).bind fun v34 => (sI s27.2.2 14 v34 s27.2.1 s27.1).bind fun A35 => (gR A35 8 227 (some r)).bind fun v36 => (sI A35 14 v36 s27.1 s27.2.1).bind fun A37 => K32 ((s27.1 + 1), A37) else (gR s27.2.2 8 226 (some r)).bind fun v39 => (gR s27.2.2 8 226 (some r)).bind fun v40 => (aI s27.2.2 14 v40 r31).bind fun v41 => (sI s27.2.2 14 v39 s27.2.1 v41).bind fun A42 => (gR A42 8 228 (some r)).bind fun v43 => (gR A42 8 226 (some r)).bind fun v44 => (aI A42 14 v44 s27.2.1).bind fun v45 => (sI A42 14 v43 v45 s27.2.1).bind fun A46 => K32 (s27.1, A46)) (0, 0, B)).bind fun t => some t) = some T ∧ Wr (r + 2) (r + 5) B T ∧ (∀ k, k < 2 * N → He T (r + 2) k = I (L k)) ∧ (∀ c, c < N → He T (r + 3) c = I (P c)) ∧ (∀ c, c < N → He T (r + 4) c = I (Q c)) ∧ ∀ c, He T (r + 5) c = 0 := by
  have ha := h.1
  have st := fun {C : AH} (w : Wr (r + 2) (r + 5) B C) => h.st hC hD w
  refine for_eb2 (2 * N) (fun i u => u.1 = I (cn (lD l) i) ∧ u.2.1 = I i ∧ Wr (r + 2) (r + 5) B u.2.2 ∧ (∀ k, k < i → He u.2.2 (r + 2) k = I (L k)) ∧ (∀ c, c < N → (P c < i → He u.2.2 (r + 3) c = I (P c)) ∧ (Q c < i → He u.2.2 (r + 4) c = I (Q c))) ∧ ∀ c, He u.2.2 (r + 5) c = 0) (fun t => Wr (r + 2) (r + 5) B t ∧ (∀ k, k < 2 * N → He t (r + 2) k = I (L k)) ∧ (∀ c, c < N → He t (r + 3) c = I (P c)) ∧ (∀ c, c < N → He t (r + 4) c = I (Q c)) ∧ ∀ c, He t (r + 5) c = 0) ⟨rfl, rfl, Wr.rf, fun k hk => by omega, fun c hc => ⟨fun q => by omega, fun q => by omega⟩, hz5⟩ ?_ ?_ (fun t ht => ⟨t, rfl, ht⟩)
  · rintro i ⟨u1, u2, u3⟩ hi ⟨e1, e2, w, e3, e4, e5⟩
    dsimp only at e1 e2 w e3 e4 e5 ⊢
    subst e1; subst e2
    obtain ⟨c8, c226, c227, c228, c229, c224, c225, d2, d3, d4, d5, dC, dD⟩ := st w
    have hLi := (hV.2.2 i hi).1
    have hPQ := (hV.2.2 i hi).2
    obtain ⟨q1, q2, q3, q4⟩ := hV.2.1 (L i) hLi
    have hcn := cn_le (lD l) i
    rw [c225, bs, if_neg (le_n (by omega)), D_twin dC dD hb (by omega), bs, jp_eq]
    rcases frst_f (f := fun k => decide (lD l k = lD l i)) (n := i) with ⟨f1, f2⟩ | ⟨k, f1, f2, f3⟩
    · -- the letter is new
      have hnew : ∀ k, k < i → L k ≠ L i := fun k hk e => by
        have := f2 k hk
        rw [decide_eq_true ((hLeq k i (by omega) hi).mp e)] at this
        cases this
      have hPi : P (L i) = i := by
        rcases hPQ with z | z
        · exact z.symm
        · exact absurd q3 (hnew (P (L i)) (by omega))
      have hcL : cn (lD l) i = L i := by
        rw [hLd i hi, nn_cn]
        exact fr0_n.mpr fun k hk e => hnew k hk ((hLeq k i (by omega) hi).mpr e)
      have hcs : cn (lD l) (i + 1) = cn (lD l) i + 1 := by
        rw [cn_s, if_pos (occ_fr0.mpr (fr0_n.mpr fun k hk e => hnew k hk ((hLeq k i (by omega) hi).mpr e)))]
      rw [f1, if_pos (show I (-1) = (-1 : Int32) from rfl), c224, bs, hcL, if_neg (le_n (by omega)), c226, bs, sI_at d2 hi (by omega), bs]
      have w1 : Wr (r + 2) (r + 5) B (se u3 (r + 2) i (I (L i))) := w.wE (by omega)
      obtain ⟨-, -, x227, -, -, -, -, -, y3, -⟩ := st w1
      rw [x227, bs, sI_at y3 hLi (by omega), bs]
      refine ⟨_, rfl, _, rfl, by dsimp only; rw [hcs, hcL, L_1, I_add, ← cst], by dsimp only; rw [L_1, I_add, ← cst], w1.wE (by omega), fun k hk => ?_, fun c hc => ⟨fun z => ?_, fun z => ?_⟩, fun c => ?_⟩
      · dsimp only
        rw [he_se_ne (by omega), he_se]
        by_cases z : k = i
        · rw [if_pos z, z]
        · rw [if_neg z]; exact e3 k (by omega)
      · dsimp only
        rw [he_se, he_se_ne (by omega)]
        by_cases y : c = L i
        · rw [if_pos y, y, hPi]
        · rw [if_neg y]
          refine (e4 c hc).1 ?_
          obtain ⟨-, -, z3, -⟩ := hV.2.1 c hc
          by_cases v : P c = i
          · rw [v] at z3; exact absurd z3.symm y
          · omega
      · dsimp only
        rw [he_se_ne (by omega), he_se_ne (by omega)]
        refine (e4 c hc).2 ?_
        obtain ⟨z1, -, z3, z4⟩ := hV.2.1 c hc
        by_cases v : Q c = i
        · rw [v] at z4
          exact absurd (by rw [z3, z4]) (hnew (P c) (by omega))
        · omega
      · dsimp only
        rw [he_se_ne (by omega), he_se_ne (by omega)]; exact e5 c
    · -- the letter stood before
      have hk : lD l k = lD l i := of_decide_eq_true f3
      have hLk : L k = L i := (hLeq k i (by omega) hi).mpr hk
      have hQi : Q (L i) = i := by
        rcases hPQ with z | z
        · have := (hV.2.2 k (by omega)).2
          rw [hLk] at this
          omega
        · exact z.symm
      have hcs : cn (lD l) (i + 1) = cn (lD l) i := by
        rw [cn_s, if_neg (fun z => occ_0 z k f2 hk)]; rfl
      rw [f1, if_neg (show ¬ I _ = (-1 : Int32) from eq_n (b := -1) (by omega)), c226, bs, bs, aI_at d2 (show k < 2 * N by omega) (by omega), bs, e3 k f2, hLk, sI_at d2 hi (by omega), bs]
      have w1 : Wr (r + 2) (r + 5) B (se u3 (r + 2) i (I (L i))) := w.wE (by omega)
      obtain ⟨-, x226, -, x228, -, -, -, y2, -, y4, -⟩ := st w1
      rw [x228, bs, x226, bs, aI_at y2 hi (by omega), bs, he_se, if_pos rfl, sI_at y4 hLi (by omega), bs]
      refine ⟨_, rfl, _, rfl, by dsimp only; rw [hcs], by dsimp only; rw [L_1, I_add, ← cst], w1.wE (by omega), fun j hj => ?_, fun c hc => ⟨fun z => ?_, fun z => ?_⟩, fun c => ?_⟩
      · dsimp only
        rw [he_se_ne (by omega), he_se]
        by_cases z : j = i
        · rw [if_pos z, z]
        · rw [if_neg z]; exact e3 j (by omega)
      · dsimp only
        rw [he_se_ne (by omega), he_se_ne (by omega)]
        refine (e4 c hc).1 ?_
        obtain ⟨z1, -, z3, z4⟩ := hV.2.1 c hc
        by_cases v : P c = i
        · rw [v] at z3
          have : Q (L i) = Q c := by rw [z3]
          omega
        · omega
      · dsimp only
        rw [he_se, he_se_ne (by omega)]
        by_cases y : c = L i
        · rw [if_pos y, y, hQi]
        · rw [if_neg y]
          refine (e4 c hc).2 ?_
          obtain ⟨-, -, -, z4⟩ := hV.2.1 c hc
          by_cases v : Q c = i
          · rw [v] at z4; exact absurd z4.symm y
          · omega
      · dsimp only
        rw [he_se_ne (by omega), he_se_ne (by omega)]; exact e5 c
  · rintro ⟨u1, u2, u3⟩ ⟨e1, e2, w, e3, e4, e5⟩
    dsimp only at e1 e2 w e3 e4 e5 ⊢
    subst e1; subst e2
    obtain ⟨c8, c226, c227, c228, c229, c224, c225, d2, d3, d4, d5, dC, dD⟩ := st w
    exact ⟨u3, by rw [c225, bs, if_pos (le_y (by omega))], w, e3, fun c hc => (e4 c hc).1 (by have := hV.2.1 c hc; omega), fun c hc => (e4 c hc).2 (hV.2.1 c hc).2.1, e5⟩
theorem R_fill2 (h : RwL B x r N) (hC : CI B x) (hD : DrL B x l) (hN8 : N ≤ 8) (hV : VW N L P Q) (e3 : ∀ k, k < 2 * N → He B (r + 2) k = I (L k)) (e4 : ∀ c, c < N → He B (r + 3) c = I (P c)) (e5 : ∀ c, c < N → He B (r + 4) c = I (Q c)) (e6 : ∀ c, He B (r + 5) c = 0) : ∃ T, ((iter (S := Int32 × AH) (T := AH) (fun s50 => (gI s50.2 8 224 (some r)).bind fun v53 => if v53 ≤ s50.1 then some (.inr s50.2) else (iter (S := Int32 × AH) (T := AH) (fun s54 => (gI s54.2 8 224 (some r)).bind fun v57 => if v57 ≤ s54.1 then some (.inr s54.2) else (fX7_standsOnceBetween s54.2 (some r) s50.1 s54.1).bind fun r58 => jp (fun (x64 : AH) => some (.inl ((s54.1 + 1), x64))) fun K59 => if r58 = 0 then K59 s54.2 else (gR s54.2 8 229 (some r)).bind fun v60 => (aI s54.2 14 v60 s50.1).bind fun v61 => (sI s54.2 14 v60 s50.1 ((v61 ||| ((1 : Int32) <<< ((s54.1 : Int32) &&& 31))))).bind fun A62 => K59 A62) (0, s50.2)).bind fun t55 => some (.inl ((s50.1 + 1), t55))) (0, B)).bind fun t => some t) = some T ∧ Wr (r + 2) (r + 5) B T ∧ (∀ k, k < 2 * N → He T (r + 2) k = I (L k)) ∧ (∀ c, c < N → He T (r + 3) c = I (P c)) ∧ (∀ c, c < N → He T (r + 4) c = I (Q c)) ∧ ∀ d, d < N → He T (r + 5) d = I (bset P Q d N) := by
  have ha := h.1
  have st := fun {C : AH} (w : Wr (r + 2) (r + 5) B C) => h.st hC hD w
  have R3 := h.2.2.2.2.1.2.1
  have R4 := h.2.2.2.2.1.2.2.1
  refine for_eb2 N (fun c u => u.1 = I c ∧ Wr (r + 2) (r + 5) B u.2 ∧ (∀ k, k < 2 * N → He u.2 (r + 2) k = I (L k)) ∧ (∀ c, c < N → He u.2 (r + 3) c = I (P c)) ∧ (∀ c, c < N → He u.2 (r + 4) c = I (Q c)) ∧ ∀ d, He u.2 (r + 5) d = if d < c then I (bset P Q d N) else 0) (fun t => Wr (r + 2) (r + 5) B t ∧ (∀ k, k < 2 * N → He t (r + 2) k = I (L k)) ∧ (∀ c, c < N → He t (r + 3) c = I (P c)) ∧ (∀ c, c < N → He t (r + 4) c = I (Q c)) ∧ ∀ d, d < N → He t (r + 5) d = I (bset P Q d N)) ⟨rfl, Wr.rf, e3, e4, e5, fun d => by rw [if_neg (by omega)]; exact e6 d⟩ ?_ ?_ (fun t ht => ⟨t, rfl, ht⟩)
  · rintro c ⟨u1, u2⟩ hc ⟨f1, f2, f3, f4, f5, f6⟩
    dsimp only at f1 f2 f3 f4 f5 f6 ⊢
    subst f1
    obtain ⟨c8, c226, c227, c228, c229, c224, c225, d2, d3, d4, d5, dC, dD⟩ := st f2
    rw [c224, bs, if_neg (le_n (by omega))]
    refine for_eb N (fun d u => u.1 = I d ∧ Wr (r + 2) (r + 5) B u.2 ∧ (∀ k, k < 2 * N → He u.2 (r + 2) k = I (L k)) ∧ (∀ c, c < N → He u.2 (r + 3) c = I (P c)) ∧ (∀ c, c < N → He u.2 (r + 4) c = I (Q c)) ∧ ∀ e, He u.2 (r + 5) e = if e < c then I (bset P Q e N) else if e = c then I (bset P Q c d) else 0) (fun t => Wr (r + 2) (r + 5) B t ∧ (∀ k, k < 2 * N → He t (r + 2) k = I (L k)) ∧ (∀ c, c < N → He t (r + 3) c = I (P c)) ∧ (∀ c, c < N → He t (r + 4) c = I (Q c)) ∧ ∀ d, He t (r + 5) d = if d < c + 1 then I (bset P Q d N) else 0) ⟨rfl, f2, f3, f4, f5, fun e => ?_⟩ ?_ ?_ (fun t ht => ⟨_, rfl, _, rfl, by dsimp only; rw [L_1, I_add, ← cst], ht⟩)
    · rw [f6 e]
      by_cases q : e < c
      · rw [if_pos q, if_pos q]
      · rw [if_neg q, if_neg q]
        by_cases q' : e = c
        · rw [if_pos q']; rfl
        · rw [if_neg q']
    · rintro d ⟨v1, v2⟩ hd ⟨h1, h2, h3, h4, h5, h6⟩
      dsimp only at h1 h2 h3 h4 h5 h6 ⊢
      subst h1
      obtain ⟨c8, c226, c227, c228, c229, c224, c225, d2, d3, d4, d5, dC, dD⟩ := st h2
      have on : fX7_standsOnceBetween v2 (some r) (I c) (I d) = some (bI (Btw P Q c d)) := C_once c8 (by rw [h2.2.2.2.1]; exact R3) (by rw [h2.2.2.2.1]; exact R4) d3 d4 hV h4 h5 hc hd
      have ec : He v2 (r + 5) c = I (bset P Q c d) := by rw [h6 c, if_neg (by omega), if_pos rfl]
      have bs1 : bset P Q c (d + 1) = bset P Q c d ||| (if Btw P Q c d then 2 ^ d else 0) := rfl
      rw [c224, bs, if_neg (le_n (by omega)), on, bs, jp_eq]
      by_cases hb : Btw P Q c d
      · rw [if_neg (fun q => bI0.mp q hb), c229, bs, aI_at d5 hc (by omega), bs, ec, I_shl1 (by omega), I_or, sI_at d5 hc (by omega), bs]
        refine ⟨_, rfl, by dsimp only; rw [L_1, I_add, ← cst], h2.wE (by omega), fun k hk => ?_, fun e he => ?_, fun e he => ?_, fun e => ?_⟩
        · dsimp only; rw [he_se_ne (by omega)]; exact h3 k hk
        · dsimp only; rw [he_se_ne (by omega)]; exact h4 e he
        · dsimp only; rw [he_se_ne (by omega)]; exact h5 e he
        · dsimp only
          rw [he_se, bs1, if_pos hb]
          by_cases q : e = c
          · rw [if_pos q, if_neg (by omega), if_pos q]
          · rw [if_neg q, h6 e]
            by_cases q' : e < c
            · rw [if_pos q', if_pos q']
            · rw [if_neg q', if_neg q, if_neg q', if_neg q]
      · rw [if_pos (bI0.mpr hb)]
        refine ⟨_, rfl, by dsimp only; rw [L_1, I_add, ← cst], h2, h3, h4, h5, fun e => ?_⟩
        dsimp only
        rw [bs1, if_neg hb, Nat.or_zero]; exact h6 e
    · rintro ⟨v1, v2⟩ ⟨h1, h2, h3, h4, h5, h6⟩
      dsimp only at h1 h2 h3 h4 h5 h6 ⊢
      subst h1
      obtain ⟨c8, c226, c227, c228, c229, c224, c225, d2, d3, d4, d5, dC, dD⟩ := st h2
      refine ⟨v2, by rw [c224, bs, if_pos (le_y (by omega))], h2, h3, h4, h5, fun e => ?_⟩
      rw [h6 e]
      by_cases q : e < c
      · rw [if_pos q, if_pos (by omega)]
      · rw [if_neg q]
        by_cases q' : e = c
        · rw [if_pos q', if_pos (by omega), q']
        · rw [if_neg q', if_neg (by omega)]
  · rintro ⟨u1, u2⟩ ⟨f1, f2, f3, f4, f5, f6⟩
    dsimp only at f1 f2 f3 f4 f5 f6 ⊢
    subst f1
    obtain ⟨c8, c226, c227, c228, c229, c224, c225, d2, d3, d4, d5, dC, dD⟩ := st f2
    exact ⟨u2, by rw [c224, bs, if_pos (le_y (by omega))], f2, f3, f4, f5, fun d hd => by rw [f6 d, if_pos hd]⟩
theorem R_init (hC : CI A x) (hcl : Cl A) (hD : DrL A x l) (hb : ∀ k, k < l.length → lD l k < 1000) (hdb : Dbl (lD l) l.length) {E : Nat → Nat} (hE : ∀ i j, i < l.length → j < l.length → (lD l i = lD l j ↔ E i = E j)) : ∃ B, fX7_init (nw A 8 0) (some (Hs A)) (some (x + 18)) = some B ∧ Ex A B ∧ Hs B = Hs A + 6 ∧ RwN B x (Hs A) (l.length / 2) (fun i => nn E (E i) i) ∧ WOK (l.length / 2, (fun i => nn E (E i) i), 0) := by
  have hxs := hC.2.2
  have hl16 := hD.1
  have hhalf := cn_half hdb
  obtain ⟨N, hNe⟩ : ∃ N, N = l.length / 2 := ⟨_, rfl⟩
  have hn2 : l.length = 2 * N := by omega
  have hN8 : N ≤ 8 := by omega
  have hcnN : cn (lD l) (2 * N) = N := by rw [← hn2]; omega
  rw [← hNe]
  -- the word's letters
  obtain ⟨L, hL⟩ : ∃ L, L = fun i => nn E (E i) i := ⟨_, rfl⟩
  have hEd : Dbl E l.length := fun i hi => by
    have key : ∀ k, k ≤ l.length → occ E (E i) k = occ (lD l) (lD l i) k := by
      intro k
      induction k with
      | zero => intro _; rfl
      | succ k ih =>
        intro hk
        show occ E (E i) k + (if E k = E i then 1 else 0) = occ (lD l) (lD l i) k + (if lD l k = lD l i then 1 else 0)
        rw [ih (by omega)]
        congr 1
        by_cases q : lD l k = lD l i
        · rw [if_pos q, if_pos ((hE k i (by omega) hi).mp q)]
        · rw [if_neg q, if_neg (fun z => q ((hE k i (by omega) hi).mpr z))]
    rw [key _ (Nat.le_refl _)]; exact hdb i hi
  have hWok : WOK (N, L, 0) := by
    have := wMade_ok hl16 hEd
    rw [hNe, hL]; exact this
  have hV : VW N L (wP (N, L, 0)) (wQ (N, L, 0)) := hWok.1
  have hLd : ∀ i, i < 2 * N → L i = nn (lD l) (lD l i) i := fun i hi => by
    rw [hL]; exact (nn_cong hE (by omega)).symm
  have hLeq : ∀ i j, i < 2 * N → j < 2 * N → (L i = L j ↔ lD l i = lD l j) := fun i j hi hj => by
    rw [hLd i hi, hLd j hj]; exact nn_inj
  rw [← hL]
  obtain ⟨P, hP⟩ : ∃ P, P = wP (N, L, 0) := ⟨_, rfl⟩
  obtain ⟨Q, hQ⟩ : ∃ Q, Q = wQ (N, L, 0) := ⟨_, rfl⟩
  unfold RwN
  rw [← hP, ← hQ] at hV ⊢
  obtain ⟨r, hr⟩ : ∃ r, r = Hs A := ⟨_, rfl⟩
  rw [← hr]
  have g0 : Ex A (nw A 8 0) := Ex.rf.nW
  have s0 : Hs (nw A 8 0) = r + 1 := by rw [hr]; rfl
  have k0 : Hk (nw A 8 0) r = 8 := by rw [hr]; exact if_pos rfl
  have rl : r < Hs (nw A 8 0) := by omega
  unfold fX7_init
  rw [rcv_ok k0, bs, pZ_0 k0, bs, pJ_ok (A := si (nw A 8 0) 230 r 0) k0, bs, pI_ok (A := sj (si (nw A 8 0) 230 r 0) 231 r 0) k0, bs, pZ_0 (A := si (sj (si (nw A 8 0) 230 r 0) 231 r 0) 232 r 1) k0, bs, pI_ok (A := si (si (sj (si (nw A 8 0) 230 r 0) 231 r 0) 232 r 1) 233 r 0) k0, bs, pI_ok (A := si (si (si (sj (si (nw A 8 0) 230 r 0) 231 r 0) 232 r 1) 233 r 0) 234 r (-1)) k0, bs, pZ_0 (A := si (si (si (si (sj (si (nw A 8 0) 230 r 0) 231 r 0) 232 r 1) 233 r 0) 234 r (-1)) 235 r 0) k0, bs]
  obtain ⟨A7, hA7⟩ : ∃ A7, A7 = si (si (si (si (si (sj (si (nw A 8 0) 230 r 0) 231 r 0) 232 r 1) 233 r 0) 234 r (-1)) 235 r 0) 236 r 0 := ⟨_, rfl⟩
  have g7 : Ex A A7 := by
    rw [hA7]
    exact ((((((g0.wI (by omega) rl).wJ (by omega) rl).wI (by omega) rl).wI (by omega) rl).wI (by omega) rl).wI (by omega) rl).wI (by omega) rl
  have s7 : Hs A7 = r + 1 := by rw [hA7]; exact s0
  have k7 : Hk A7 r = 8 := by rw [hA7]; exact k0
  have e7 : He A7 = He A := by rw [hA7]; rfl
  have j7 : Hj A7 231 r = 0 := by rw [hA7, hj_si, hj_si, hj_si, hj_si, hj_si]; exact hj_sj
  have i230 : Hi A7 230 r = 0 := by rw [hA7, hi_si_ne (by decide), hi_si_ne (by decide), hi_si_ne (by decide), hi_si_ne (by decide), hi_si_ne (by decide), hi_sj]; exact hi_si
  have i232 : Hi A7 232 r = 1 := by rw [hA7, hi_si_ne (by decide), hi_si_ne (by decide), hi_si_ne (by decide), hi_si_ne (by decide)]; exact hi_si
  have i233 : Hi A7 233 r = 0 := by rw [hA7, hi_si_ne (by decide), hi_si_ne (by decide), hi_si_ne (by decide)]; exact hi_si
  have i234 : Hi A7 234 r = -1 := by rw [hA7, hi_si_ne (by decide), hi_si_ne (by decide)]; exact hi_si
  have i235 : Hi A7 235 r = 0 := by rw [hA7, hi_si_ne (by decide)]; exact hi_si
  have i236 : Hi A7 236 r = 0 := by rw [hA7]; exact hi_si
  rw [← hA7]
  have n10 : nA A7 14 10 10 = some (nw A7 14 10) := nA_ok (j := 10) (by omega) (by omega) (by omega)
  rw [n10, bs, pR_ok (show Hk (nw A7 14 10) r = 8 from (if_neg (by omega)).trans k7), bs]
  obtain ⟨B1, b1, b1k, b1o, b1r, b1n, b1i, b1e, b1s, b1j⟩ := mkA A7 14 r 237 10
  have gb1 : Ex A B1 := by rw [b1]; exact g7.nW.wR (by omega) (by show r < Hs A7 + 1; omega)
  have kb1 : Hk B1 r = 8 := by rw [(b1o r (by omega)).1]; exact k7
  have hC1 := gb1.ci hC
  have len1 : fX1_length B1 (some (x + 18)) = some (I ((2 * N : Nat) : Int)) := by
    unfold fX1_length
    rw [rcv_ok hC1.k18, bs, gI_ok hC1.k18, bs, (gb1.2.1 (x + 18) (by omega)).2.2.1, hD.2.1, hn2]
  have dv : dvI (I ((2 * N : Nat) : Int)) 2 = some (I (N : Int)) := by
    rw [L_2, I_div (by omega) (by omega) (by omega) (by omega)]; congr 2; omega
  rw [← b1, len1, bs, dv, bs, pI_ok kb1, bs, gI_ok (A := si B1 224 r (I N)) kb1, bs, hi_si, pI_ok (A := si B1 224 r (I N)) kb1, bs]
  have e2N : (2 : Int32) * I (N : Int) = I ((2 * N : Nat) : Int) := by rw [L_2, I_mul]; congr 1
  rw [e2N]
  obtain ⟨A14, hA14⟩ : ∃ A14, A14 = si (si B1 224 r (I N)) 225 r (I ((2 * N : Nat) : Int)) := ⟨_, rfl⟩
  have rl1 : r < Hs B1 := by omega
  have g14 : Ex A A14 := by rw [hA14]; exact (gb1.wI (by omega) rl1).wI (by omega) rl1
  have k14 : Hk A14 r = 8 := by rw [hA14]; exact kb1
  have i224 : Hi A14 224 r = I N := by rw [hA14, hi_si_ne (by decide)]; exact hi_si
  have i225 : Hi A14 225 r = I ((2 * N : Nat) : Int) := by rw [hA14]; exact hi_si
  have i14 : ∀ f, f ≠ 224 → f ≠ 225 → Hi A14 f r = Hi A7 f r := fun f f1 f2 => by rw [hA14, hi_si_ne f2, hi_si_ne f1, b1i]
  have s14 : Hs A14 = r + 2 := by rw [hA14]; show Hs B1 = _; rw [b1s, s7]
  have o14 : Hk A14 = Hk B1 ∧ Hn A14 = Hn B1 ∧ Hr A14 = Hr B1 ∧ He A14 = He B1 ∧ Hj A14 = Hj B1 := by rw [hA14]; exact ⟨rfl, rfl, rfl, rfl, rfl⟩
  rw [← hA14, gI_ok k14, bs, i225, nA_ok (by omega) (by omega) (by omega), bs, Int.toNat_natCast, pR_ok (show Hk (nw A14 14 (2 * N)) r = 8 from (if_neg (by omega)).trans k14), bs]
  obtain ⟨B2, b2, b2k, b2o, b2r, b2n, b2i, b2e, b2s, b2j⟩ := mkA A14 14 r 226 (2 * N)
  have gb2 : Ex A B2 := by rw [b2]; exact g14.nW.wR (by omega) (by show r < Hs A14 + 1; omega)
  have kb2 : Hk B2 r = 8 := by rw [(b2o r (by omega)).1]; exact k14
  rw [← b2, gI_ok kb2, bs, b2i, i224, nA_ok (by omega) (by omega) (by omega), bs, Int.toNat_natCast, pR_ok (show Hk (nw B2 14 N) r = 8 from (if_neg (by omega)).trans kb2), bs]
  obtain ⟨B3, b3, b3k, b3o, b3r, b3n, b3i, b3e, b3s, b3j⟩ := mkA B2 14 r 227 N
  have gb3 : Ex A B3 := by rw [b3]; exact gb2.nW.wR (by omega) (by show r < Hs B2 + 1; omega)
  have kb3 : Hk B3 r = 8 := by rw [(b3o r (by omega)).1]; exact kb2
  rw [← b3, gI_ok kb3, bs, b3i, b2i, i224, nA_ok (by omega) (by omega) (by omega), bs, Int.toNat_natCast, pR_ok (show Hk (nw B3 14 N) r = 8 from (if_neg (by omega)).trans kb3), bs]
  obtain ⟨B4, b4, b4k, b4o, b4r, b4n, b4i, b4e, b4s, b4j⟩ := mkA B3 14 r 228 N
  have gb4 : Ex A B4 := by rw [b4]; exact gb3.nW.wR (by omega) (by show r < Hs B3 + 1; omega)
  have kb4 : Hk B4 r = 8 := by rw [(b4o r (by omega)).1]; exact kb3
  rw [← b4, gI_ok kb4, bs, b4i, b3i, b2i, i224, nA_ok (by omega) (by omega) (by omega), bs, Int.toNat_natCast, pR_ok (show Hk (nw B4 14 N) r = 8 from (if_neg (by omega)).trans kb4), bs]
  obtain ⟨B5, b5, b5k, b5o, b5r, b5n, b5i, b5e, b5s, b5j⟩ := mkA B4 14 r 229 N
  have gb5 : Ex A B5 := by rw [b5]; exact gb4.nW.wR (by omega) (by show r < Hs B4 + 1; omega)
  have kb5 : Hk B5 r = 8 := by rw [(b5o r (by omega)).1]; exact kb4
  rw [← b5]
  have t1 : Hs A7 = r + 1 := s7
  have t3 : Hs B2 = r + 3 := by rw [b2s, s14]
  have t4 : Hs B3 = r + 4 := by rw [b3s, t3]
  have t5 : Hs B4 = r + 5 := by rw [b4s, t4]
  have t6 : Hs B5 = r + 6 := by rw [b5s, t5]
  rw [t1] at b1k b1o b1r
  rw [s14] at b2k b2o b2r
  rw [t3] at b3k b3o b3r
  rw [t4] at b4k b4o b4r
  rw [t5] at b5k b5o b5r
  have hi5 : Hi B5 = Hi A14 := by rw [b5i, b4i, b3i, b2i]
  have he5 : He B5 = He A := by rw [b5e, b4e, b3e, b2e, o14.2.2.2.1, b1e, e7]
  have hj5 : Hj B5 231 r = 0 := by rw [b5j, b4j, b3j, b2j, o14.2.2.2.2, b1j]; exact j7
  have K1 : Hk B5 (r + 1) = 14 ∧ Hn B5 (r + 1) = 10 := by
    rw [(b5o _ (by omega)).1, (b5o _ (by omega)).2, (b4o _ (by omega)).1, (b4o _ (by omega)).2, (b3o _ (by omega)).1, (b3o _ (by omega)).2, (b2o _ (by omega)).1, (b2o _ (by omega)).2, o14.1, o14.2.1]; exact b1k
  have K2 : Hk B5 (r + 2) = 14 ∧ Hn B5 (r + 2) = 2 * N := by
    rw [(b5o _ (by omega)).1, (b5o _ (by omega)).2, (b4o _ (by omega)).1, (b4o _ (by omega)).2, (b3o _ (by omega)).1, (b3o _ (by omega)).2]; exact b2k
  have K3 : Hk B5 (r + 3) = 14 ∧ Hn B5 (r + 3) = N := by
    rw [(b5o _ (by omega)).1, (b5o _ (by omega)).2, (b4o _ (by omega)).1, (b4o _ (by omega)).2]; exact b3k
  have K4 : Hk B5 (r + 4) = 14 ∧ Hn B5 (r + 4) = N := by
    rw [(b5o _ (by omega)).1, (b5o _ (by omega)).2]; exact b4k
  have R1 : Hr B5 237 r = some (r + 1) := by rw [b5n _ _ (by omega), b4n _ _ (by omega), b3n _ _ (by omega), b2n _ _ (by omega), o14.2.2.1]; exact b1r
  have R2 : Hr B5 226 r = some (r + 2) := by rw [b5n _ _ (by omega), b4n _ _ (by omega), b3n _ _ (by omega)]; exact b2r
  have R3 : Hr B5 227 r = some (r + 3) := by rw [b5n _ _ (by omega), b4n _ _ (by omega)]; exact b3r
  have R4 : Hr B5 228 r = some (r + 4) := by rw [b5n _ _ (by omega)]; exact b4r
  have hz : ∀ j i, He B5 (r + j) i = 0 := fun j i => by rw [he5]; exact (hcl (r + j) (by omega)).2.2.2.1 i
  have hC5 := gb5.ci hC
  have hD5 : DrL B5 x l := hD.mv ((gb5.2.1 (x + 18) (by omega)).2.2.1 _) (gb5.2.1 (x + 19) (by omega)).2.2.2.2.2.1
  have I0 : Hi B5 224 r = I N := by rw [hi5]; exact i224
  have I1 : Hi B5 225 r = I ((2 * N : Nat) : Int) := by rw [hi5]; exact i225
  have iB : ∀ f, f ≠ 224 → f ≠ 225 → Hi B5 f r = Hi A7 f r := fun f h1 h2 => by rw [hi5]; exact i14 f h1 h2
  have hRL : RwL B5 x r N := ⟨⟨by omega, by omega⟩, kb5, I0, I1, ⟨R2, R3, R4, b5r, R1⟩, K1, K2, K3, K4, b5k⟩
  clear b1 b1k b1o b1r b1n b1i b1e b1s b1j gb1 kb1 hC1 len1 dv hA14 rl1 g14 k14 i224 i225 i14 o14 b2 b2k b2o b2r b2n b2i b2e b2s b2j gb2 kb2 b3 b3k b3o b3r b3n b3i b3e b3s b3j gb3 kb3 b4 b4k b4o b4r b4n b4i b4e b4s b4j gb4 kb4 b5 b5k b5o b5r b5n b5i b5e b5s b5j t1 t3 t4 t5 hi5 he5 n10 K1 K2 K3 K4 R1 R2 R3 R4
  obtain ⟨T, t1, t2, t3, t4, t5, t7⟩ := R_fill1 hRL hC5 hD5 hn2 hN8 hb hV hLd hLeq (fun c => hz 5 c)
  have hCT : CI T x := (RwL.st hRL hC5 hD5 t2).2.2.2.2.2.2.2.2.2.2.2.1
  have hDT : DrL T x l := (RwL.st hRL hC5 hD5 t2).2.2.2.2.2.2.2.2.2.2.2.2
  have hRT : RwL T x r N := by
    unfold RwL
    rw [t2.1, t2.2.1, t2.2.2.2.1, t2.2.2.2.2.1, t2.2.2.2.2.2.2.1]
    exact hRL
  obtain ⟨U, u1, u2, u3, u4, u5, u7⟩ := R_fill2 hRT hCT hDT hN8 hV t3 t4 t5 t7
  obtain ⟨T', t1', t1⟩ := bnd_e t1
  have := Option.some.inj t1
  subst this
  obtain ⟨U', u1', u1⟩ := bnd_e u1
  have := Option.some.inj u1
  subst this
  have wU := t2.tr u2
  rw [t1', bs, u1', bs]
  refine ⟨_, rfl, wU.ex gb5 (by omega) (by omega), by rw [wU.2.2.2.2.2.2.1, t6], ⟨?_, ?_, ?_, ?_⟩, hWok⟩
  · have hRU : RwL U' x r N := by
      unfold RwL
      rw [wU.1, wU.2.1, wU.2.2.2.1, wU.2.2.2.2.1, wU.2.2.2.2.2.2.1]
      exact hRL
    obtain ⟨z1, z2, z3, z4, z5, z6, z7, z8, z9, z10⟩ := hRU
    exact ⟨z1, z2, z3, z4, z5, z6, z7, z8, z9, z10, u3, fun c hc => ⟨u4 c hc, u5 c hc, u7 c hc⟩⟩
  · refine ⟨false, by rw [wU.2.1, iB _ (by decide) (by decide)]; exact i230, fun q => ?_⟩
    rcases q with q | q
    · cases q
    · rw [wU.2.2.1, hj5, wU.2.1, iB _ (by decide) (by decide), i232, q]
      refine ⟨rfl, ?_⟩
      show (1 : Int32) = I ((knC 0 L 0 : Nat) : Int)
      unfold knC
      rw [if_pos rfl]; rfl
  · exact ⟨false, by rw [wU.2.1, iB _ (by decide) (by decide)]; exact i233, by rw [wU.2.1, iB _ (by decide) (by decide)]; exact i234, by rw [wU.2.1, iB _ (by decide) (by decide)]; exact i235⟩
  · exact ⟨false, by rw [wU.2.1, iB _ (by decide) (by decide)]; exact i236, fun k _ => by rw [wU.2.2.2.2.2.2.2 _ (by omega)]; exact hz 1 k⟩
end
