/-! faces are no more than letters and two -/
theorem php : ∀ (m n : Nat) (f : Nat → Nat), (∀ i, i < n → f i < m) → (∀ i j, i < n → j < n → f i = f j → i = j) → n ≤ m
  | 0, n, f, h1, _ => by
    by_cases q : n = 0
    · omega
    · have := h1 0 (by omega); omega
  | m + 1, 0, f, _, _ => Nat.zero_le _
  | m + 1, k + 1, f, h1, h2 => by
    have key : k ≤ m := by
      by_cases q : f k = m
      · refine php m k f (fun i hi => ?_) (fun i j hi hj e => h2 i j (by omega) (by omega) e)
        have := h1 i (by omega)
        have : f i ≠ m := fun z => by have := h2 i k (by omega) (by omega) (by omega); omega
        omega
      · refine php m k (fun i => if f i = m then f k else f i) (fun i hi => ?_) (fun i j hi hj e => ?_)
        · have := h1 i (by omega)
          have := h1 k (by omega)
          show (if f i = m then f k else f i) < m
          split <;> omega
        · have e : (if f i = m then f k else f i) = (if f j = m then f k else f j) := e
          split at e
          · split at e
            · exact h2 i j (by omega) (by omega) (by omega)
            · have := h2 k j (by omega) (by omega) e; omega
          · split at e
            · have := h2 i k (by omega) (by omega) e; omega
            · exact h2 i j (by omega) (by omega) e
    omega
def bcode (f : Nat → Bool) : Nat → Nat
  | 0 => 0
  | n + 1 => bcode f n + (if f n = true then 2 ^ n else 0)
theorem bcode_lt (f : Nat → Bool) : ∀ n, bcode f n < 2 ^ n
  | 0 => by show 0 < 1; omega
  | n + 1 => by
    have := bcode_lt f n
    rw [Nat.pow_succ]
    show bcode f n + (if f n = true then 2 ^ n else 0) < _
    split <;> omega
theorem bcode_eq {f g : Nat → Bool} : ∀ {n : Nat}, bcode f n = bcode g n → ∀ c, c < n → f c = g c
  | 0, _, c, hc => by omega
  | n + 1, e, c, hc => by
    have h1 := bcode_lt f n
    have h2 := bcode_lt g n
    have e : bcode f n + (if f n = true then 2 ^ n else 0) = bcode g n + (if g n = true then 2 ^ n else 0) := e
    cases hf : f n <;> cases hg : g n
    · have e : bcode f n + 0 = bcode g n + 0 := by rw [hf, hg] at e; exact e
      by_cases z : c = n
      · rw [z, hf, hg]
      · exact bcode_eq (n := n) (by omega) c (by omega)
    · have e : bcode f n + 0 = bcode g n + 2 ^ n := by rw [hf, hg] at e; exact e
      omega
    · have e : bcode f n + 2 ^ n = bcode g n + 0 := by rw [hf, hg] at e; exact e
      omega
    · have e : bcode f n + 2 ^ n = bcode g n + 2 ^ n := by rw [hf, hg] at e; exact e
      by_cases z : c = n
      · rw [z, hf, hg]
      · exact bcode_eq (n := n) (by omega) c (by omega)
theorem lab_ex (n : Nat) (R : List (Nat × Nat)) : ∃ lab, IsLab n R lab := by
  have h : ∀ k, ∃ f, f ≤ k ∧ Conn R f k ∧ ∀ g, g < f → ¬ Conn R g k := fun k => least_ex (p := fun j => Conn R j k) k (Conn.rf k)
  refine ⟨fun k => (h k).choose, fun k _ => (h k).choose_spec.1, fun k _ => (h k).choose_spec.2.1, fun q hq => ?_⟩
  have a := (h q.1).choose_spec
  have b := (h q.2).choose_spec
  have c := Conn.of hq
  show (h q.1).choose = (h q.2).choose
  generalize (h q.1).choose = u at a ⊢
  generalize (h q.2).choose = v at b ⊢
  have h1 : ¬ u < v := fun z => b.2.2 u z (a.2.1.tr c)
  have h2 : ¬ v < u := fun z => a.2.2 v z (b.2.1.tr c.sy)
  omega
theorem roots_hit {lab : Nat → Nat} : ∀ {n j : Nat}, j < roots lab n → ∃ k, k < n ∧ lab k = k ∧ roots lab k = j
  | 0, j, h => absurd h (Nat.not_lt_zero j)
  | n + 1, j, h => by
    have h : j < roots lab n + (if lab n = n then 1 else 0) := h
    by_cases q : j < roots lab n
    · obtain ⟨k, k1, k2, k3⟩ := roots_hit q
      exact ⟨k, by omega, k2, k3⟩
    · by_cases z : lab n = n
      · rw [if_pos z] at h
        exact ⟨n, by omega, z, by omega⟩
      · rw [if_neg z] at h; omega
section
variable {N : Nat} {L P Q : Nat → Nat} {sg : Nat}
theorem fR_mem : ∀ {n i : Nat}, i < n → (lC L P sg i, lF N L P sg i) ∈ fR N L P sg n ∧ (rC L P sg i, rF N L P sg i) ∈ fR N L P sg n
  | 0, i, h => by omega
  | n + 1, i, h => by
    show _ ∈ fR N L P sg n ++ [(lC L P sg n, lF N L P sg n), (rC L P sg n, rF N L P sg n)] ∧ _ ∈ fR N L P sg n ++ [(lC L P sg n, lF N L P sg n), (rC L P sg n, rF N L P sg n)]
    by_cases q : i = n
    · rw [q]
      exact ⟨List.mem_append_right _ List.mem_cons_self, List.mem_append_right _ (List.mem_cons_of_mem _ List.mem_cons_self)⟩
    · have := fR_mem (n := n) (i := i) (by omega)
      exact ⟨List.mem_append_left _ this.1, List.mem_append_left _ this.2⟩
/-- a colouring of corners that faces respect: across the steps it is told by few -/
theorem col_const (hV : VW N L P Q) (hN : 0 < N) {D : Nat → Bool} (hl : ∀ i, i < 2 * N → D (lC L P sg i) = D (lF N L P sg i)) (hr : ∀ i, i < 2 * N → D (rC L P sg i) = D (rF N L P sg i)) (h0 : ∀ i, i < 2 * N → D (lC L P sg i) = D (rC L P sg i)) : ∀ k, k < 4 * N → D k = D 0 := by
  have at4 : ∀ c, c < N → D (4 * c + 1) = D (4 * c) ∧ D (4 * c + 2) = D (4 * c) ∧ D (4 * c + 3) = D (4 * c) := by
    intro c hc
    obtain ⟨p1, p2, p3, p4⟩ := hV.2.1 c hc
    have pv : ∀ i, i < 2 * N → ∃ j, j < 2 * N ∧ nx N j = i := fun i hi => by
      by_cases z : i = 0
      · exact ⟨2 * N - 1, by omega, by show (2 * N - 1 + 1) % (2 * N) = i; rw [show 2 * N - 1 + 1 = 2 * N by omega, Nat.mod_self]; exact z.symm⟩
      · exact ⟨i - 1, by omega, by show (i - 1 + 1) % (2 * N) = i; rw [show i - 1 + 1 = i by omega]; exact Nat.mod_eq_of_lt hi⟩
    have a1 := h0 (P c) (by omega)
    have a2 := h0 (Q c) (by omega)
    obtain ⟨j, j1, j2⟩ := pv (P c) (by omega)
    have a3 : D (lF N L P sg j) = D (rF N L P sg j) := by rw [← hl j j1, ← hr j j1]; exact h0 j j1
    have n1 : P c ≠ Q c := by omega
    unfold lC rC lvA at a1 a2
    unfold lF rF cmA at a3
    rw [j2, p3, if_pos rfl] at a3
    rw [p3, if_pos rfl] at a1
    rw [p4, if_neg n1] at a2
    have a1 : D (4 * c) = D (4 * c + 3) := a1
    have a3 : D (4 * c + 1) = D (4 * c + 2) := a3
    by_cases z : sg.testBit c = true
    · rw [if_pos z] at a2
      have a2 : D (4 * c + 3) = D (4 * c + 2) := a2
      exact ⟨by rw [a3, ← a2, ← a1], by rw [← a2, ← a1], a1.symm⟩
    · rw [if_neg z] at a2
      have a2 : D (4 * c + 1) = D (4 * c) := a2
      exact ⟨a2, by rw [← a3, a2], a1.symm⟩
  have any4 : ∀ c r, c < N → r < 4 → D (4 * c + r) = D (4 * c) := fun c r hc hr => by
    obtain ⟨b1, b2, b3⟩ := at4 c hc
    have z : r = 0 ∨ r = 1 ∨ r = 2 ∨ r = 3 := by omega
    rcases z with z | z | z | z
    · rw [z]; rfl
    · rw [z]; exact b1
    · rw [z]; exact b2
    · rw [z]; exact b3
  have nxt : ∀ i, i < 2 * N → D (4 * L i) = D (4 * L (nx N i)) := fun i hi => by
    have := hl i hi
    have h1 := nx_lt hV hi
    unfold lC lF at this
    rw [any4 _ _ (hV.2.2 i hi).1 (lvA_lt L P sg i), any4 _ _ h1.2 (Nat.mod_lt _ (by decide))] at this
    exact this
  have all : ∀ i, i < 2 * N → D (4 * L i) = D (4 * L 0) := by
    intro i
    induction i with
    | zero => intro _; rfl
    | succ i ih =>
      intro hi
      have := nxt i (by omega)
      rw [show nx N i = i + 1 from Nat.mod_eq_of_lt hi, ih (by omega)] at this
      exact this.symm
  have let0 : ∀ c, c < N → D (4 * c) = D (4 * L 0) := fun c hc => by
    obtain ⟨p1, p2, p3, p4⟩ := hV.2.1 c hc
    have := all (P c) (by omega)
    rw [p3] at this
    exact this
  intro k hk
  have e := any4 (k / 4) (k % 4) (by omega) (by omega)
  rw [show 4 * (k / 4) + k % 4 = k by omega] at e
  have e0 := let0 0 hN
  rw [e, let0 (k / 4) (by omega), ← e0]
theorem col_few (hV : VW N L P Q) {C : Nat → Bool} (hl : ∀ i, i < 2 * N → C (lC L P sg i) = C (lF N L P sg i)) (hr : ∀ i, i < 2 * N → C (rC L P sg i) = C (rF N L P sg i)) {c : Nat} (hc : c < N) {j k : Nat} (hj : j < 2 * N) (hk : k < 2 * N) (ej : nx N j = P c) (ek : nx N k = Q c) : ((C (lC L P sg (Q c))) ^^ (C (rC L P sg (Q c)))) = (((C (lC L P sg (P c))) ^^ (C (rC L P sg (P c)))) ^^ (((C (lC L P sg j)) ^^ (C (rC L P sg j))) ^^ ((C (lC L P sg k)) ^^ (C (rC L P sg k))))) := by
  obtain ⟨p1, p2, p3, p4⟩ := hV.2.1 c hc
  have n1 : P c ≠ Q c := by omega
  rw [hl j hj, hr j hj, hl k hk, hr k hk]
  unfold lC rC lF rF lvA cmA
  rw [ej, ek, p3, p4, if_pos rfl, if_pos rfl, if_neg n1, if_neg n1]
  by_cases z : sg.testBit c = true
  · rw [if_pos z, if_pos z]
    show (C (4 * c + 3) ^^ C (4 * c + 2)) = ((C (4 * c + 0) ^^ C (4 * c + 3)) ^^ ((C (4 * c + 1) ^^ C (4 * c + 2)) ^^ (C (4 * c + 0) ^^ C (4 * c + 1))))
    cases C (4 * c + 0) <;> cases C (4 * c + 1) <;> cases C (4 * c + 2) <;> cases C (4 * c + 3) <;> rfl
  · rw [if_neg z, if_neg z]
    show (C (4 * c + 1) ^^ C (4 * c + 0)) = ((C (4 * c + 0) ^^ C (4 * c + 3)) ^^ ((C (4 * c + 1) ^^ C (4 * c + 2)) ^^ (C (4 * c + 2) ^^ C (4 * c + 3))))
    cases C (4 * c + 0) <;> cases C (4 * c + 1) <;> cases C (4 * c + 2) <;> cases C (4 * c + 3) <;> rfl
theorem xr {a b c d : Bool} (h : (a ^^ b) = (c ^^ d)) : (a ^^ c) = (b ^^ d) := by cases a <;> cases b <;> cases c <;> cases d <;> first | rfl | cases h
theorem faces_N2 (hV : VW N L P Q) : faces N L P sg ≤ N + 2 := by
  unfold faces
  by_cases hN : N = 0
  · rw [if_pos hN]; omega
  rw [if_neg hN]
  obtain ⟨l, hl0⟩ := lab_ex (4 * N) (fR N L P sg (2 * N))
  have hL := hl0.isThe
  unfold comps
  generalize theLab (4 * N) (fR N L P sg (2 * N)) = lab at hL ⊢
  obtain ⟨F, hF⟩ : ∃ F, F = roots lab (4 * N) := ⟨_, rfl⟩
  rw [← hF]
  by_cases q : F ≤ N + 2
  · exact q
  exfalso
  obtain ⟨Cl', hCl⟩ : ∃ Cl' : Nat → Nat → Bool, Cl' = fun u k => Nat.testBit u (roots lab (lab k)) := ⟨_, rfl⟩
  have hl : ∀ u i, i < 2 * N → Cl' u (lC L P sg i) = Cl' u (lF N L P sg i) := fun u i hi => by
    have := hL.2.2 _ (fR_mem (N := N) (L := L) (P := P) (sg := sg) hi).1
    rw [hCl]; dsimp only at this ⊢; rw [this]
  have hr : ∀ u i, i < 2 * N → Cl' u (rC L P sg i) = Cl' u (rF N L P sg i) := fun u i hi => by
    have := hL.2.2 _ (fR_mem (N := N) (L := L) (P := P) (sg := sg) hi).2
    rw [hCl]; dsimp only at this ⊢; rw [this]
  obtain ⟨hh, hhe⟩ : ∃ hh : Nat → Nat → Bool, hh = fun u i => (Cl' u (lC L P sg i) ^^ Cl' u (rC L P sg i)) := ⟨_, rfl⟩
  have key := php (2 ^ (N + 1)) (2 ^ (F - 1)) (fun v => bcode (fun c => if c < N then hh (2 * v) (P c) else hh (2 * v) (2 * N - 1)) (N + 1)) (fun v _ => bcode_lt _ _) (fun v w hv hw e => by
    have e := bcode_eq e
    have e0 : ∀ c, c < N → hh (2 * v) (P c) = hh (2 * w) (P c) := fun c hc => by
      have := e c (by omega)
      rw [if_pos hc, if_pos hc] at this
      exact this
    have e1 : hh (2 * v) (2 * N - 1) = hh (2 * w) (2 * N - 1) := by
      have := e N (by omega)
      rw [if_neg (by omega), if_neg (by omega)] at this
      exact this
    have all : ∀ i, i < 2 * N → hh (2 * v) i = hh (2 * w) i := by
      intro i
      induction i using Nat.strongRecOn with
      | ind i ih =>
        intro hi
        obtain ⟨c1, c2⟩ := hV.2.2 i hi
        obtain ⟨p1, p2, p3, p4⟩ := hV.2.1 (L i) c1
        rcases c2 with c2 | c2
        · have := e0 (L i) c1
          rw [← c2] at this
          exact this
        · obtain ⟨j, j1, j2, j3⟩ : ∃ j, j < 2 * N ∧ nx N j = P (L i) ∧ hh (2 * v) j = hh (2 * w) j := by
            by_cases z : P (L i) = 0
            · exact ⟨2 * N - 1, by omega, by rw [z]; show (2 * N - 1 + 1) % (2 * N) = 0; rw [show 2 * N - 1 + 1 = 2 * N by omega, Nat.mod_self], e1⟩
            · exact ⟨P (L i) - 1, by omega, by show (P (L i) - 1 + 1) % (2 * N) = _; rw [show P (L i) - 1 + 1 = P (L i) by omega]; exact Nat.mod_eq_of_lt (by omega), ih _ (by omega) (by omega)⟩
          have k2 : nx N (Q (L i) - 1) = Q (L i) := by show (Q (L i) - 1 + 1) % (2 * N) = _; rw [show Q (L i) - 1 + 1 = Q (L i) by omega]; exact Nat.mod_eq_of_lt (by omega)
          have k3 := ih (Q (L i) - 1) (by omega) (by omega)
          have a1 := col_few hV (hl (2 * v)) (hr (2 * v)) c1 j1 (show Q (L i) - 1 < 2 * N by omega) j2 k2
          have a2 := col_few hV (hl (2 * w)) (hr (2 * w)) c1 j1 (show Q (L i) - 1 < 2 * N by omega) j2 k2
          have a3 := e0 (L i) c1
          rw [hhe] at j3 k3 a3 ⊢
          dsimp only at j3 k3 a3 ⊢
          rw [show Cl' (2 * v) (lC L P sg i) = Cl' (2 * v) (lC L P sg (Q (L i))) by rw [← c2], show Cl' (2 * v) (rC L P sg i) = Cl' (2 * v) (rC L P sg (Q (L i))) by rw [← c2], show Cl' (2 * w) (lC L P sg i) = Cl' (2 * w) (lC L P sg (Q (L i))) by rw [← c2], show Cl' (2 * w) (rC L P sg i) = Cl' (2 * w) (rC L P sg (Q (L i))) by rw [← c2], a1, a2, j3, k3, a3]
    have cst := col_const hV (by omega) (D := fun k => (Cl' (2 * v) k ^^ Cl' (2 * w) k)) (fun i hi => by rw [hl (2 * v) i hi, hl (2 * w) i hi]) (fun i hi => by rw [hr (2 * v) i hi, hr (2 * w) i hi]) (fun i hi => by
      have := all i hi
      rw [hhe] at this
      exact xr this)
    have l0 : lab 0 = 0 := by have := hL.1 0 (by omega); omega
    have z0 : ∀ u, Cl' (2 * u) 0 = false := fun u => by
      rw [hCl]
      show Nat.testBit (2 * u) (roots lab (lab 0)) = false
      rw [l0]
      show Nat.testBit (2 * u) 0 = false
      rw [Nat.testBit_zero]
      simp
    have fin : 2 * v = 2 * w := Nat.eq_of_testBit_eq (fun j => by
      by_cases y : j < F
      · rw [hF] at y
        obtain ⟨k, k1, k2, k3⟩ := roots_hit y
        have := cst k k1
        rw [z0, z0] at this
        rw [hCl] at this
        dsimp only at this
        rw [k2, k3] at this
        cases h1 : Nat.testBit (2 * v) j <;> cases h2 : Nat.testBit (2 * w) j <;> first | rfl | (rw [h1, h2] at this; cases this)
      · have p1 : 2 ^ F = 2 * 2 ^ (F - 1) := by rw [← Nat.pow_succ']; congr 1; omega
        have p2 : 2 ^ F ≤ 2 ^ j := Nat.pow_le_pow_right (by decide) (by omega)
        rw [Nat.testBit_lt_two_pow (show 2 * v < 2 ^ j by omega), Nat.testBit_lt_two_pow (show 2 * w < 2 ^ j by omega)])
    omega)
  have := Nat.pow_lt_pow_right (a := 2) (by decide) (show N + 1 < F - 1 by omega)
  omega
end
theorem wFc_le (w : Wrd) (h : WOK w) : wFc w ≤ 10 := by
  have h1 := faces_N2 (sg := w.2.2) h.1
  have h2 := h.1.1
  show faces w.1 w.2.1 (wP w) w.2.2 ≤ 10
  omega
