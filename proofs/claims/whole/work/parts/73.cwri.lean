/-! the class: what is written into the draft -/
theorem lD_apx {l : List Nat} {f : Nat → Nat} : ∀ {n k : Nat}, k < l.length + n → lD (apx l f n) k = if k < l.length then lD l k else f (k - l.length)
  | 0, k, h => by rw [if_pos (by omega)]; rfl
  | n + 1, k, h => by
    show lD (apx l f n ++ [f n]) k = _
    have hl := apx_len l f n
    rw [lD_app (by omega), hl]
    by_cases q : k = l.length + n
    · rw [if_pos q, if_neg (by omega)]; congr 1; omega
    · rw [if_neg q]; exact lD_apx (by omega)
theorem lD_apx0 {f : Nat → Nat} {n k : Nat} (h : k < n) : lD (apx [] f n) k = f k := by
  rw [lD_apx (by simp; exact h)]
  rfl
theorem apx0_len (f : Nat → Nat) (n : Nat) : (apx [] f n).length = n := by rw [apx_len]; simp
theorem lD_map {φ : Nat → Nat} : ∀ {l : List Nat} {k : Nat}, k < l.length → lD (l.map φ) k = φ (lD l k) := fun {l k} h => by
  unfold lD
  rw [List.getD_eq_getElem?_getD, List.getD_eq_getElem?_getD, List.getElem?_map, List.getElem?_eq_getElem h]
  rfl
theorem map_eq {φ : Nat → Nat} {l : List Nat} (S : Nat → Prop) (hS : ∀ v ∈ l, S v) (hφ : ∀ v u, S v → S u → φ v = φ u → v = u) : ∀ i j, i < (l.map φ).length → j < (l.map φ).length → (lD (l.map φ) i = lD (l.map φ) j ↔ lD l i = lD l j) := fun i j hi hj => by
  rw [List.length_map] at hi hj
  rw [lD_map hi, lD_map hj]
  have mem : ∀ k, k < l.length → lD l k ∈ l := fun k hk => by
    unfold lD
    rw [List.getD_eq_getElem?_getD, List.getElem?_eq_getElem hk]
    exact List.getElem_mem hk
  exact ⟨fun h => hφ _ _ (hS _ (mem i hi)) (hS _ (mem j hj)) h, fun h => by rw [h]⟩
section
variable {A B C : AH} {a x r N : Nat} {l : List Nat} {L P Q : Nat → Nat}
theorem RD.fd (h : RD A x r N L P Q) (g : Fr (dS x) A B) : RD B x r N L P Q := h.fr g (fun a h1 h2 q => by have := h.a; rcases q with q | q <;> omega)
theorem D_turned (hC : CI A x) (h : RD A x r N L P Q) (hV : VW N L P Q) {v : Nat} (hv : v < 4 * N) {z : Int32} (hz : z = bI (v % 2 = 1)) : ∃ B, fX1_writeTurned A (some (x + 18)) (some r) (I ((v / 2 : Nat) : Int)) z = some B ∧ Fr (dS x) A B ∧ DrL B x (apx [] (tD N L v) (2 * N)) := by
  have hN := hV.1
  unfold fX1_writeTurned
  obtain ⟨B0, b1, b2, b3⟩ := D_clear hC
  rw [rcv_ok hC.k18, bs, b1, bs]
  refine for_eb (2 * N) (fun j u => u.1 = I (psj N v j) ∧ u.2.1 = I j ∧ Fr (dS x) A u.2.2 ∧ DrL u.2.2 x (apx [] (tD N L v) j)) (fun t => Fr (dS x) A t ∧ DrL t x (apx [] (tD N L v) (2 * N))) ⟨by rw [psj_0 hv], rfl, b2, b3⟩ ?_ ?_ (fun t ht => ⟨t, rfl, ht⟩)
  · rintro j ⟨u1, u2, u3⟩ hj ⟨e1, e2, g, d⟩
    dsimp only at e1 e2 g d ⊢
    subst e1; subst e2
    have h1 := h.fd g
    have hp := psj_lt (N := N) (v := v) (j := j) (by omega)
    obtain ⟨C, c1, c2, c3⟩ := D_put (hC.fr g) d (by rw [apx0_len]; omega) (tD N L v j)
    have h2 := h1.fd c2
    rw [C_pc h1, bs, if_neg (le_n (by omega)), C_letterOn h1 hN hp, bs, ← tD_psj (N := N) (L := L) (v := v) (j := j), c1, bs, jp_eq, hz]
    by_cases q : v % 2 = 1
    · rw [if_neg (fun z => bI0.mp z q), C_ahead h2 hN hp, bs]
      exact ⟨_, rfl, by dsimp only; rw [psj_b (by omega) hj q], by dsimp only; rw [L_1, I_add, ← cst], g.tr' c2, c3⟩
    · rw [if_pos (bI0.mpr q), C_behind h2 hN hp, bs]
      exact ⟨_, rfl, by dsimp only; rw [psj_f (by omega) q], by dsimp only; rw [L_1, I_add, ← cst], g.tr' c2, c3⟩
  · rintro ⟨u1, u2, u3⟩ ⟨e1, e2, g, d⟩
    dsimp only at e1 e2 g d ⊢
    subst e1; subst e2
    exact ⟨u3, by rw [C_pc (h.fd g), bs, if_pos (le_y (by omega))], g, d⟩
theorem D_places (hC : CI A x) (h : RD A x r N L P Q) (hN : N ≤ 8) (hd : DrL A x l) {a b : Nat} (hab : a ≤ b) (hb : b ≤ 2 * N) (hl : l.length + (b - a) ≤ 16) : ∃ B, fX1_putPlaces A (some (x + 18)) (some r) (I a) (I b) = some B ∧ Fr (dS x) A B ∧ DrL B x (apx l (fun j => L (a + j)) (b - a)) := by
  unfold fX1_putPlaces
  rw [rcv_ok hC.k18, bs]
  refine for_eb (b - a) (fun j u => u.1 = I ((a + j : Nat) : Int) ∧ Fr (dS x) A u.2 ∧ DrL u.2 x (apx l (fun j => L (a + j)) j)) (fun t => Fr (dS x) A t ∧ DrL t x (apx l (fun j => L (a + j)) (b - a))) ⟨rfl, Fr.rf, hd⟩ ?_ ?_ (fun t ht => ⟨t, rfl, ht⟩)
  · rintro j ⟨u1, u2⟩ hj ⟨e1, g, d⟩
    dsimp only at e1 g d ⊢
    subst e1
    obtain ⟨C, c1, c2, c3⟩ := D_put (hC.fr g) d (by rw [apx_len]; omega) (L (a + j))
    rw [if_neg (le_n (by omega)), C_letterOn (h.fd g) hN (by omega), bs, c1, bs]
    exact ⟨_, rfl, by dsimp only; rw [L_1, I_add, ← cst]; rfl, g.tr' c2, c3⟩
  · rintro ⟨u1, u2⟩ ⟨e1, g, d⟩
    dsimp only at e1 g d ⊢
    subst e1
    exact ⟨u2, by rw [if_pos (le_y (by omega))], g, d⟩
def ph1 (N v : Nat) : Nat := if v = 10 then N else if v = 11 then N + 1 else v
theorem ph1_lt {N v : Nat} (h : v < 10) : ph1 N v = v := by unfold ph1; rw [if_neg (by omega), if_neg (by omega)]
theorem ph1_inj {N v u : Nat} (hN : N ≤ 8) (hv : v < N ∨ v = 10 ∨ v = 11) (hu : u < N ∨ u = 10 ∨ u = 11) (e : ph1 N v = ph1 N u) : v = u := by
  unfold ph1 at e
  split at e <;> split at e <;> (try split at e) <;> (try split at e) <;> omega
theorem D_loop (hC : CI A x) (h : RD A x r N L P Q) (hV : VW N L P Q) (hN7 : N ≤ 7) {k : Nat} (hk : k < max 1 (2 * N)) : ∃ B, fX1_writeWithLoop A (some (x + 18)) (some r) (I k) = some B ∧ Fr (dS x) A B ∧ DrL B x ((twL L (2 * N) k (max 1 (2 * N))).map (ph1 N)) := by
  have hN := hV.1
  unfold fX1_writeWithLoop
  obtain ⟨B0, b1, b2, b3⟩ := D_clear hC
  have h0 := h.fd b2
  have hC0 := hC.fr b2
  rw [rcv_ok hC.k18, bs, b1, bs, C_lc h0, bs, C_pc h0, bs, jp_eq]
  have p10 : ph1 N 10 = N := if_pos rfl
  by_cases z : N = 0
  · obtain ⟨C, c1, c2, c3⟩ := D_putTwo hC0 b3 (by show 0 + 1 < 16; omega) N N
    have hk0 : k = 0 := by omega
    rw [if_pos (by rw [z]; rfl), c1, bs]
    dsimp only
    refine for_eb 0 (fun j u => u = (I (j : Int), C)) (fun t => t = C) rfl (fun j _ hj => absurd hj (Nat.not_lt_zero j)) ?_ ?_
    · rintro u rfl
      refine ⟨C, ?_, rfl⟩
      rw [C_pc (h0.fd c2), bs, if_pos (le_y (by omega))]
    · rintro t rfl
      refine ⟨_, rfl, b2.tr' c2, ?_⟩
      have e : twL L (2 * N) k (max 1 (2 * N)) = [10, 10] := by
        rw [z, hk0]; rfl
      rw [e]
      show DrL _ x [ph1 N 10, ph1 N 10]
      rw [p10]; exact c3
  · have e1 : max 1 (2 * N) = 2 * N := by omega
    rw [if_neg (show ¬ I ((2 * N : Nat) : Int) = 0 from eq_n (b := 0) (by omega)), e1]
    rw [e1] at hk
    refine for_eb (2 * N) (fun i u => u.1 = I i ∧ Fr (dS x) A u.2 ∧ DrL u.2 x ((twL L (2 * N) k i).map (ph1 N))) (fun t => Fr (dS x) A t ∧ DrL t x ((twL L (2 * N) k (2 * N)).map (ph1 N))) ⟨rfl, b2, b3⟩ ?_ ?_ (fun t ht => ⟨t, rfl, ht⟩)
    · rintro i ⟨u1, u2⟩ hi ⟨e1, g, d⟩
      dsimp only at e1 g d ⊢
      subst e1
      have h1 := h.fd g
      have hli := (hV.2.2 i hi).1
      have hlen := twL_len L (2 * N) k i
      have hlen2 : ((twL L (2 * N) k i).map (ph1 N)).length = min i (2 * N) + (if k < i then 2 else 0) := by rw [List.length_map]; exact hlen
      have hlen3 : (if k < i then 2 else 0) ≤ 2 := by split <;> omega
      obtain ⟨C, c1, c2, c3⟩ := D_put (hC.fr g) d (by rw [hlen2]; split <;> omega) (L i)
      have hs : twL L (2 * N) k (i + 1) = if i = k then ((twL L (2 * N) k i ++ [L i]) ++ [10]) ++ [10] else twL L (2 * N) k i ++ [L i] := by
        show (if i = k then (twA L (2 * N) i (twL L (2 * N) k i) ++ [10]) ++ [10] else twA L (2 * N) i (twL L (2 * N) k i)) = _
        unfold twA
        rw [if_pos hi]
      have m1 : (twL L (2 * N) k i ++ [L i]).map (ph1 N) = (twL L (2 * N) k i).map (ph1 N) ++ [L i] := by
        rw [List.map_append]
        show _ ++ [ph1 N (L i)] = _
        rw [ph1_lt (by omega)]
      rw [C_pc h1, bs, if_neg (le_n (by omega)), C_letterOn h1 hN hi, bs, c1, bs, jp_eq]
      by_cases q : i = k
      · have hk' : ¬ k < i := by omega
        rw [if_neg hk'] at hlen2
        obtain ⟨D, d1, d2, d3⟩ := D_putTwo ((hC.fr g).fr c2) c3 (by rw [List.length_append, hlen2]; show _ + 1 + 1 < 16; omega) N N
        rw [if_pos (by rw [q]), d1, bs]
        refine ⟨_, rfl, by dsimp only; rw [L_1, I_add, ← cst], (g.tr' c2).tr' d2, ?_⟩
        dsimp only
        rw [hs, if_pos q, List.map_append, List.map_append, m1]
        show DrL _ x ((_ ++ [ph1 N 10]) ++ [ph1 N 10])
        rw [p10]; exact d3
      · rw [if_neg (eq_n (by omega))]
        refine ⟨_, rfl, by dsimp only; rw [L_1, I_add, ← cst], g.tr' c2, ?_⟩
        dsimp only
        rw [hs, if_neg q, m1]; exact c3
    · rintro ⟨u1, u2⟩ ⟨e1, g, d⟩
      dsimp only at e1 g d ⊢
      subst e1
      exact ⟨u2, by rw [C_pc (h.fd g), bs, if_pos (le_y (by omega))], g, d⟩
theorem D_poke (hC : CI A x) (h : RD A x r N L P Q) (hV : VW N L P Q) (hN6 : N ≤ 6) {k o : Nat} (hko : k ≠ o) (tw : Bool) {z : Int32} (hz : z = I (if tw = true then 1 else 0)) (hk : k < 2 * N) (ho : o < 2 * N) : ∃ B, fX1_writeWithPoke A (some (x + 18)) (some r) (I k) (I o) z = some B ∧ Fr (dS x) A B ∧ DrL B x ((pkL L k o tw (2 * N)).map (ph1 N)) := by
  have hN := hV.1
  unfold fX1_writeWithPoke
  obtain ⟨B0, b1, b2, b3⟩ := D_clear hC
  have h0 := h.fd b2
  have hC0 := hC.fr b2
  have p10 : ph1 N 10 = N := if_pos rfl
  have p11 : ph1 N 11 = N + 1 := by unfold ph1; rw [if_neg (by decide), if_pos rfl]
  have eN : I (N : Int) + 1 = I ((N + 1 : Nat) : Int) := by rw [L_1, I_add, ← cst]
  rw [rcv_ok hC.k18, bs, b1, bs, C_lc h0, bs, eN]
  refine for_eb (2 * N) (fun i u => u.1 = I i ∧ Fr (dS x) A u.2 ∧ DrL u.2 x ((pkL L k o tw i).map (ph1 N))) (fun t => Fr (dS x) A t ∧ DrL t x ((pkL L k o tw (2 * N)).map (ph1 N))) ⟨rfl, b2, b3⟩ ?_ ?_ (fun t ht => ⟨t, rfl, ht⟩)
  · rintro i ⟨u1, u2⟩ hi ⟨e1, g, d⟩
    dsimp only at e1 g d ⊢
    subst e1
    have h1 := h.fd g
    have hli := (hV.2.2 i hi).1
    have hlen2 : ((pkL L k o tw i).map (ph1 N)).length = i + (if k < i then 2 else 0) + (if o < i then 2 else 0) := by rw [List.length_map]; exact pkL_len L tw hko i
    obtain ⟨C, c1, c2, c3⟩ := D_put (hC.fr g) d (by rw [hlen2]; split <;> split <;> omega) (L i)
    have hs : pkL L k o tw (i + 1) = if i = k ∨ i = o then ((pkL L k o tw i ++ [L i]) ++ [if i = o ∧ tw = true then 11 else 10]) ++ [if i = o ∧ tw = true then 10 else 11] else pkL L k o tw i ++ [L i] := rfl
    have m1 : (pkL L k o tw i ++ [L i]).map (ph1 N) = (pkL L k o tw i).map (ph1 N) ++ [L i] := by
      rw [List.map_append]
      show _ ++ [ph1 N (L i)] = _
      rw [ph1_lt (by omega)]
    have hCc := (hC.fr g).fr c2
    rw [C_pc h1, bs, if_neg (le_n (by omega)), C_letterOn h1 hN hi, bs, c1, bs, jp_eq, jp_eq, jp_eq]
    have two : (i = k ∨ i = o) → ∀ v u : Nat, ∃ D, fX1_putTwo C (some (x + 18)) (I v) (I u) = some D ∧ Fr (dS x) C D ∧ DrL D x ((((pkL L k o tw i).map (ph1 N) ++ [L i]) ++ [v]) ++ [u]) := fun q v u => D_putTwo hCc c3 (by rw [List.length_append, hlen2]; show _ + 1 + 1 < 16; rcases q with q | q <;> split <;> split <;> omega) v u
    by_cases q1 : i = k
    · obtain ⟨D, d1, d2, d3⟩ := two (Or.inl q1) N (N + 1)
      rw [if_pos (by rw [q1]), d1, bs]
      refine ⟨_, rfl, by dsimp only; rw [L_1, I_add, ← cst], (g.tr' c2).tr' d2, ?_⟩
      dsimp only
      rw [hs, if_pos (Or.inl q1), List.map_append, List.map_append, m1, if_neg (fun z => hko (by omega)), if_neg (fun z => hko (by omega))]
      show DrL _ x ((_ ++ [ph1 N 10]) ++ [ph1 N 11])
      rw [p10, p11]; exact d3
    · rw [if_neg (eq_n (by omega))]
      by_cases q2 : i = o
      · have c0 : I (i : Int) = I (o : Int) := by rw [q2]
        cases tw with
        | true =>
          obtain ⟨D, d1, d2, d3⟩ := two (Or.inr q2) (N + 1) N
          rw [if_pos c0, hz, if_neg (show ¬ I (if (true = true) then 1 else 0) = (0 : Int32) from by decide), if_pos c0, d1, bs]
          refine ⟨_, rfl, by dsimp only; rw [L_1, I_add, ← cst], (g.tr' c2).tr' d2, ?_⟩
          dsimp only
          rw [hs, if_pos (Or.inr q2), List.map_append, List.map_append, m1, if_pos ⟨q2, rfl⟩, if_pos ⟨q2, rfl⟩]
          show DrL _ x ((_ ++ [ph1 N 11]) ++ [ph1 N 10])
          rw [p10, p11]; exact d3
        | false =>
          obtain ⟨D, d1, d2, d3⟩ := two (Or.inr q2) N (N + 1)
          rw [if_pos c0, hz, if_pos (show I (if (false = true) then 1 else 0) = (0 : Int32) from rfl), d1, bs]
          refine ⟨_, rfl, by dsimp only; rw [L_1, I_add, ← cst], (g.tr' c2).tr' d2, ?_⟩
          dsimp only
          rw [hs, if_pos (Or.inr q2), List.map_append, List.map_append, m1, if_neg (fun z => by cases z.2), if_neg (fun z => by cases z.2)]
          show DrL _ x ((_ ++ [ph1 N 10]) ++ [ph1 N 11])
          rw [p10, p11]; exact d3
      · have c0 : ¬ I (i : Int) = I (o : Int) := eq_n (by omega)
        rw [if_neg c0, if_neg c0]
        refine ⟨_, rfl, by dsimp only; rw [L_1, I_add, ← cst], g.tr' c2, ?_⟩
        dsimp only
        rw [hs, if_neg (fun z => z.elim q1 q2), m1]; exact c3
  · rintro ⟨u1, u2⟩ ⟨e1, g, d⟩
    dsimp only at e1 g d ⊢
    subst e1
    exact ⟨u2, by rw [C_pc (h.fd g), bs, if_pos (le_y (by omega))], g, d⟩
theorem D_without (hC : CI A x) (h : RD A x r N L P Q) (hV : VW N L P Q) {c d st : Nat} (hst : st < 2147483648) (hbit : ∀ i, i < N → (st.testBit i = true ↔ i = c ∨ i = d)) : ∃ B, fX1_writeWithout A (some (x + 18)) (some r) (I st) = some B ∧ Fr (dS x) A B ∧ DrL B x (woL L c d (2 * N)) := by
  have hN := hV.1
  unfold fX1_writeWithout
  obtain ⟨B0, b1, b2, b3⟩ := D_clear hC
  rw [rcv_ok hC.k18, bs, b1, bs]
  refine for_eb (2 * N) (fun i u => u.1 = I i ∧ Fr (dS x) A u.2 ∧ DrL u.2 x (woL L c d i)) (fun t => Fr (dS x) A t ∧ DrL t x (woL L c d (2 * N))) ⟨rfl, b2, b3⟩ ?_ ?_ (fun t ht => ⟨t, rfl, ht⟩)
  · rintro i ⟨u1, u2⟩ hi ⟨e1, g, dd⟩
    dsimp only at e1 g dd ⊢
    subst e1
    have h1 := h.fd g
    have hli := (hV.2.2 i hi).1
    have hlen := woL_len L c d i
    have hs : woL L c d (i + 1) = if L i = c ∨ L i = d then woL L c d i else woL L c d i ++ [L i] := rfl
    rw [C_pc h1, bs, if_neg (le_n (by omega)), C_letterOn h1 hN hi, bs, C_isIn u2 hst (by omega), bs, jp_eq]
    by_cases q : L i = c ∨ L i = d
    · rw [if_neg (fun z => bI0.mp z ((hbit _ hli).mpr q))]
      exact ⟨_, rfl, by dsimp only; rw [L_1, I_add, ← cst], g, by dsimp only; rw [hs, if_pos q]; exact dd⟩
    · obtain ⟨C, c1, c2, c3⟩ := D_put (hC.fr g) dd (by omega) (L i)
      rw [if_pos (bI0.mpr (fun z => q ((hbit _ hli).mp z))), bs, c1, bs]
      exact ⟨_, rfl, by dsimp only; rw [L_1, I_add, ← cst], g.tr' c2, by dsimp only; rw [hs, if_neg q]; exact c3⟩
  · rintro ⟨u1, u2⟩ ⟨e1, g, dd⟩
    dsimp only at e1 g dd ⊢
    subst e1
    exact ⟨u2, by rw [C_pc (h.fd g), bs, if_pos (le_y (by omega))], g, dd⟩
theorem D_sum {q M : Nat} {K O R : Nat → Nat} (hC : CI A x) (h : RD A x r N L P Q) (h' : RD A x q M K O R) (hN : N ≤ 8) (hM : M ≤ 8) (hs : N + M ≤ 8) : ∃ B, fX1_writeSum A (some (x + 18)) (some r) (some q) = some B ∧ Fr (dS x) A B ∧ DrL B x (apx (apx [] L (2 * N)) (fun i => 8 + K i) (2 * M)) := by
  unfold fX1_writeSum
  obtain ⟨B0, b1, b2, b3⟩ := D_clear hC
  obtain ⟨C, c1, c2, c3⟩ := D_places (hC.fr b2) (h.fd b2) hN b3 (a := 0) (b := 2 * N) (by omega) (by omega) (by show 0 + _ ≤ 16; omega)
  have c1 : fX1_putPlaces B0 (some (x + 18)) (some r) 0 (I ((2 * N : Nat) : Int)) = some C := c1
  have c3 : DrL C x (apx [] L (2 * N)) := by
    have e : (fun j => L (0 + j)) = L := by funext j; rw [Nat.zero_add]
    rw [e, Nat.sub_zero] at c3; exact c3
  rw [rcv_ok hC.k18, bs, b1, bs, C_pc (h.fd b2), bs, c1, bs]
  have gC := b2.tr' c2
  refine for_eb (2 * M) (fun i u => u.1 = I i ∧ Fr (dS x) A u.2 ∧ DrL u.2 x (apx (apx [] L (2 * N)) (fun i => 8 + K i) i)) (fun t => Fr (dS x) A t ∧ DrL t x (apx (apx [] L (2 * N)) (fun i => 8 + K i) (2 * M))) ⟨rfl, gC, c3⟩ ?_ ?_ (fun t ht => ⟨t, rfl, ht⟩)
  · rintro i ⟨u1, u2⟩ hi ⟨e1, g, d⟩
    dsimp only at e1 g d ⊢
    subst e1
    have h1 := h'.fd g
    obtain ⟨D, d1, d2, d3⟩ := D_put (hC.fr g) d (by rw [apx_len, apx0_len]; omega) (8 + K i)
    have e8 : I (K i : Int) + 8 = I ((8 + K i : Nat) : Int) := by rw [L_8, I_add]; congr 1; omega
    rw [C_pc h1, bs, if_neg (le_n (by omega)), C_letterOn h1 hM hi, bs, e8, d1, bs]
    exact ⟨_, rfl, by dsimp only; rw [L_1, I_add, ← cst], g.tr' d2, d3⟩
  · rintro ⟨u1, u2⟩ ⟨e1, g, d⟩
    dsimp only at e1 g d ⊢
    subst e1
    exact ⟨u2, by rw [C_pc (h'.fd g), bs, if_pos (le_y (by omega))], g, d⟩
/-- the draft holds a row of letters -/
def DrF (A : AH) (x n : Nat) (D : Nat → Nat) : Prop := n ≤ 16 ∧ Hi A 33 (x + 18) = I n ∧ ∀ k, k < n → He A (x + 19) k = I (D k)
theorem DrF.lst {n : Nat} {D : Nat → Nat} (h : DrF A x n D) : DrL A x (apx [] D n) := by
  unfold DrL
  rw [apx0_len]
  exact ⟨h.1, h.2.1, fun k hk => by rw [lD_apx0 hk]; exact h.2.2 k hk⟩
theorem DrL.toF {n : Nat} {D : Nat → Nat} (h : DrL A x (apx [] D n)) : DrF A x n D := by
  unfold DrL at h
  rw [apx0_len] at h
  exact ⟨h.1, h.2.1, fun k hk => by rw [h.2.2 k hk, lD_apx0 hk]⟩
theorem D_swap {n : Nat} {D : Nat → Nat} (hC : CI A x) (h : DrF A x n D) {i j : Nat} (hi : i < n) (hj : j < n) : ∃ B, fX1_swap A (some (x + 18)) (I i) (I j) = some B ∧ Fr (dS x) A B ∧ DrF B x n (swp D i j) := by
  have hs := hC.2.2
  have hn := h.1
  unfold fX1_swap
  rw [rcv_ok hC.k18, bs, if_neg (show ¬ I (i : Int) < 0 from lt_n (b := 0) (by omega)), gI_ok hC.k18, bs, h.2.1, if_neg (le_n (by omega)), if_neg (show ¬ I (j : Int) < 0 from lt_n (b := 0) (by omega)), bs, if_neg (le_n (by omega)), hC.df2, bs, aI_at hC.k19 (by omega) (by omega), bs, bs, bs, aI_at hC.k19 (by omega) (by omega), bs, sI_at hC.k19 (by omega) (by omega), bs]
  have hC1 : CI (se A (x + 19) i (He A (x + 19) j)) x := hC
  rw [hC1.df2, bs, sI_at hC1.k19 (by omega) (by omega), bs, h.2.2 i hi, h.2.2 j hj]
  refine ⟨_, rfl, (Fr.rf.wE (Or.inl (Or.inr rfl)) (by omega)).wE (Or.inl (Or.inr rfl)) (by show x + 19 < Hs A; omega), hn, h.2.1, fun k hk => ?_⟩
  rw [he_se, he_se]
  unfold swp
  by_cases q1 : k = j
  · rw [if_pos q1, if_pos q1]
  · rw [if_neg q1, if_neg q1]
    by_cases q2 : k = i
    · rw [if_pos q2, if_pos q2]
    · rw [if_neg q2, if_neg q2]; exact h.2.2 k hk
theorem D_slid (hC : CI A x) (h : RD A x r N L P Q) (hV : VW N L P Q) {c d e g : Nat} (hc : c < N) (hd : d < N) (he : e < N) (hg : g < 8) : ∃ B, fX1_writeSlid A (some (x + 18)) (some r) (I c) (I d) (I e) (I g) = some B ∧ Fr (dS x) A B ∧ DrF B x (2 * N) (swp (swp (swp L (pq P Q c (g / 4)) (pq P Q d (g / 2 % 2))) (pq P Q d (1 - g / 2 % 2)) (pq P Q e (g % 2))) (pq P Q e (1 - g % 2)) (pq P Q c (1 - g / 4))) := by
  have hN := hV.1
  have o1 : ∀ b : Nat, b < 2 → (1 : Int32) - I (b : Int) = I ((1 - b : Nat) : Int) := fun b hb => by rw [L_1, I_sub]; congr 1; omega
  have s2 : ((I (g : Int) >>> ((2 : Int32) &&& 31)) &&& 1) = I ((g / 4 : Nat) : Int) := by
    have := I_bit (a := g) (k := 2) (by omega) (by omega)
    have e : I ((2 : Nat) : Int) = (2 : Int32) := rfl
    rw [e] at this
    rw [this, Nat.shiftRight_eq_div_pow]; congr 2; omega
  have s1 : ((I (g : Int) >>> ((1 : Int32) &&& 31)) &&& 1) = I ((g / 2 % 2 : Nat) : Int) := by
    have := I_bit (a := g) (k := 1) (by omega) (by omega)
    have e : I ((1 : Nat) : Int) = (1 : Int32) := rfl
    rw [e] at this
    rw [this, Nat.shiftRight_eq_div_pow]
  have s0 : (I (g : Int) &&& 1) = I ((g % 2 : Nat) : Int) := by rw [show (1 : Int32) = I ((1 : Nat) : Int) from rfl, I_and, Nat.and_one_is_mod]
  have hj4 : g / 4 < 2 := by omega
  have hj2 : g / 2 % 2 < 2 := by omega
  have hj1 : g % 2 < 2 := by omega
  unfold fX1_writeSlid
  obtain ⟨B0, b1, b2, b3⟩ := D_clear hC
  obtain ⟨C, c1, c2, c3⟩ := D_places (hC.fr b2) (h.fd b2) hN b3 (a := 0) (b := 2 * N) (by omega) (by omega) (by show 0 + _ ≤ 16; omega)
  have c1 : fX1_putPlaces B0 (some (x + 18)) (some r) 0 (I ((2 * N : Nat) : Int)) = some C := c1
  have c3 : DrF C x (2 * N) L := by
    have e : (fun j => L (0 + j)) = L := by funext j; rw [Nat.zero_add]
    rw [e, Nat.sub_zero] at c3; exact c3.toF
  have hC1 := (hC.fr b2).fr c2
  have h1 := (h.fd b2).fd c2
  obtain ⟨D, d1, d2, d3⟩ := D_swap hC1 c3 (pq_lt hV hc (g / 4)) (pq_lt hV hd (g / 2 % 2))
  have hC2 := hC1.fr d2
  have h2 := h1.fd d2
  obtain ⟨E, e1, e2, e3⟩ := D_swap hC2 d3 (pq_lt hV hd (1 - g / 2 % 2)) (pq_lt hV he (g % 2))
  have hC3 := hC2.fr e2
  have h3 := h2.fd e2
  obtain ⟨F, f1, f2, f3⟩ := D_swap hC3 e3 (pq_lt hV he (1 - g % 2)) (pq_lt hV hc (1 - g / 4))
  rw [rcv_ok hC.k18, bs, b1, bs, C_pc (h.fd b2), bs, c1, bs, s2, s1, s0, C_placeOf h1 hN hc hj4, bs, C_placeOf h1 hN hd hj2, bs, d1, bs, o1 _ hj2, C_placeOf h2 hN hd (by omega), bs, C_placeOf h2 hN he hj1, bs, e1, bs, o1 _ hj1, C_placeOf h3 hN he (by omega), bs, o1 _ hj4, C_placeOf h3 hN hc (by omega), bs, f1, bs]
  exact ⟨_, rfl, (((b2.tr' c2).tr' d2).tr' e2).tr' f2, f3⟩
theorem D_smooth (hC : CI A x) (h : RD A x r N L P Q) (hV : VW N L P Q) {c : Nat} (hc : c < N) : ∃ B, fX1_writeSmoothed A (some (x + 18)) (some r) (I c) = some B ∧ Fr (dS x) A B ∧ DrL B x (woL (fun i => L (smS (P c) (Q c) i)) c c (2 * N)) := by
  have hN := hV.1
  obtain ⟨p1, p2, p3, p4⟩ := hV.2.1 c hc
  obtain ⟨F, hF⟩ : ∃ F, F = fun i => L (smS (P c) (Q c) i) := ⟨_, rfl⟩
  rw [← hF]
  have e0 : fX7_placeOf A (some r) (I c) 0 = some (I (P c)) := C_placeOf h hN hc (b := 0) (by omega)
  have e1 : fX7_placeOf A (some r) (I c) 1 = some (I (Q c)) := C_placeOf h hN hc (b := 1) (by omega)
  have hne : ∀ j, j < 2 * N → j ≠ P c → j ≠ Q c → L j ≠ c := fun j hj h1 h2 e => by
    have := (hV.2.2 j hj).2
    rw [e] at this
    omega
  have wst : ∀ i, woL F c c (i + 1) = if F i = c ∨ F i = c then woL F c c i else woL F c c i ++ [F i] := fun _ => rfl
  have fP : F (P c) = c := by rw [hF]; show L (smS (P c) (Q c) (P c)) = c; unfold smS; rw [if_pos (by omega), show P c + Q c - P c = Q c by omega]; exact p4
  have fQ : F (Q c) = c := by rw [hF]; show L (smS (P c) (Q c) (Q c)) = c; unfold smS; rw [if_pos (by omega), show P c + Q c - Q c = P c by omega]; exact p3
  have fO : ∀ i, i < P c ∨ Q c < i → F i = L i := fun i hi => by rw [hF]; show L (smS (P c) (Q c) i) = L i; unfold smS; rw [if_neg (by omega)]
  have fM : ∀ i, P c < i → i < Q c → F i = L (P c + Q c - i) := fun i h1 h2 => by rw [hF]; show L (smS (P c) (Q c) i) = _; unfold smS; rw [if_pos (by omega)]
  have w1 : ∀ i, i ≤ P c → woL F c c i = apx [] (fun j => L (0 + j)) i := by
    intro i
    induction i with
    | zero => intro _; rfl
    | succ i ih =>
      intro hi
      have : ¬ (F i = c ∨ F i = c) := by rw [fO i (Or.inl (by omega))]; have := hne i (by omega) (by omega) (by omega); exact fun z => z.elim this this
      rw [wst, if_neg this, ih (by omega), fO i (Or.inl (by omega))]
      show _ = apx [] (fun j => L (0 + j)) i ++ [L (0 + i)]
      rw [Nat.zero_add]
  have wp : woL F c c (P c + 1) = woL F c c (P c) := by rw [wst, if_pos (Or.inl fP)]
  have wq : woL F c c (Q c + 1) = woL F c c (Q c) := by rw [wst, if_pos (Or.inl fQ)]
  have wl := woL_len F c c
  have w3 : ∀ j, Q c + 1 + j ≤ 2 * N → woL F c c (Q c + 1 + j) = apx (woL F c c (Q c + 1)) (fun j => L (Q c + 1 + j)) j := by
    intro j
    induction j with
    | zero => intro _; rfl
    | succ j ih =>
      intro hj
      have e : F (Q c + 1 + j) = L (Q c + 1 + j) := fO _ (Or.inr (by omega))
      have : ¬ (F (Q c + 1 + j) = c ∨ F (Q c + 1 + j) = c) := by rw [e]; have := hne (Q c + 1 + j) (by omega) (by omega) (by omega); exact fun z => z.elim this this
      show woL F c c (Q c + 1 + j + 1) = _
      rw [wst, if_neg this, ih (by omega), e]
      rfl
  unfold fX1_writeSmoothed
  obtain ⟨B0, b1, b2, b3⟩ := D_clear hC
  obtain ⟨C, c1, c2, c3⟩ := D_places (hC.fr b2) (h.fd b2) hN b3 (a := 0) (b := P c) (by omega) (by omega) (by show 0 + _ ≤ 16; omega)
  have c1 : fX1_putPlaces B0 (some (x + 18)) (some r) 0 (I (P c : Int)) = some C := c1
  rw [Nat.sub_zero, ← w1 (P c) (Nat.le_refl _), ← wp] at c3
  rw [rcv_ok hC.k18, bs, e0, bs, e1, bs, b1, bs, c1, bs, L_1, I_sub]
  have gC := b2.tr' c2
  refine for_eb (Q c - 1 - P c) (fun j u => u.1 = I ((Q c : Int) - 1 - j) ∧ Fr (dS x) A u.2 ∧ DrL u.2 x (woL F c c (P c + 1 + j))) (fun t => Fr (dS x) A t ∧ DrL t x (woL F c c (Q c))) ⟨by rw [Int.natCast_zero, Int.sub_zero], gC, c3⟩ ?_ ?_ ?_
  · rintro j ⟨u1, u2⟩ hj ⟨f1, g, d⟩
    dsimp only at f1 g d ⊢
    subst f1
    have h1 := h.fd g
    have hl := wl (P c + 1 + j)
    have e : F (P c + 1 + j) = L (Q c - 1 - j) := by rw [fM _ (by omega) (by omega)]; congr 1; omega
    have nn1 := hne (Q c - 1 - j) (by omega) (by omega) (by omega)
    obtain ⟨D, d1, d2, d3⟩ := D_put (hC.fr g) d (by omega) (L (Q c - 1 - j))
    have hs : woL F c c (P c + 1 + (j + 1)) = woL F c c (P c + 1 + j) ++ [L (Q c - 1 - j)] := by
      show woL F c c (P c + 1 + j + 1) = _
      rw [wst, if_neg (by rw [e]; exact fun z => z.elim nn1 nn1), e]
    rw [if_neg (le_n (by omega)), show (Q c : Int) - 1 - (j : Int) = ((Q c - 1 - j : Nat) : Int) by omega, C_letterOn h1 hN (by omega), bs, d1, bs]
    refine ⟨_, rfl, ?_, g.tr' d2, by dsimp only; rw [hs]; exact d3⟩
    dsimp only
    rw [I_neg, I_add]; congr 1; omega
  · rintro ⟨u1, u2⟩ ⟨f1, g, d⟩
    dsimp only at f1 g d ⊢
    subst f1
    rw [show P c + 1 + (Q c - 1 - P c) = Q c by omega] at d
    exact ⟨u2, by rw [if_pos (le_y (by omega))], g, d⟩
  · rintro T ⟨gT, dT⟩
    have hl := wl (Q c)
    rw [← wq] at dT
    have hl2 : (woL F c c (Q c + 1)).length ≤ Q c := by rw [wq]; exact hl
    obtain ⟨D, d1, d2, d3⟩ := D_places (hC.fr gT) (h.fd gT) hN dT (a := Q c + 1) (b := 2 * N) (by omega) (by omega) (by omega)
    have eq1 : I (Q c : Int) + I 1 = I ((Q c + 1 : Nat) : Int) := by rw [I_add, ← cst]
    rw [C_pc (h.fd gT), bs, eq1, d1, bs]
    refine ⟨_, rfl, gT.tr' d2, ?_⟩
    have := w3 (2 * N - (Q c + 1)) (by omega)
    rw [show Q c + 1 + (2 * N - (Q c + 1)) = 2 * N by omega] at this
    rw [this]; exact d3
end
