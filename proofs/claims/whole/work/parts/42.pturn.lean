/-! deeds of the reference: turn -/
theorem occ_two {D : Nat → Nat} {v p q : Nat} (hpq : p < q) (hp : D p = v) (hq : D q = v) : ∀ n, (∀ i, i < n → D i = v → i = p ∨ i = q) → occ D v n = (if p < n then 1 else 0) + (if q < n then 1 else 0)
  | 0, _ => rfl
  | n + 1, h => by
    have ih := occ_two hpq hp hq n (fun i hi => h i (by omega))
    show occ D v n + (if D n = v then 1 else 0) = _
    rw [ih]
    by_cases e : D n = v
    · rw [if_pos e]
      rcases h n (by omega) e with z | z
      · subst z
        rw [if_neg (by omega : ¬ n < n), if_neg (by omega : ¬ q < n), if_pos (by omega : n < n + 1), if_neg (by omega : ¬ q < n + 1)]
      · subst z
        rw [if_pos (by omega : p < n), if_neg (by omega : ¬ n < n), if_pos (by omega : p < n + 1), if_pos (by omega : n < n + 1)]
    · rw [if_neg e]
      have z1 : p ≠ n := fun z => e (by rw [← z]; exact hp)
      have z2 : q ≠ n := fun z => e (by rw [← z]; exact hq)
      have c1 : (p < n + 1) = (p < n) := propext (by omega)
      have c2 : (q < n + 1) = (q < n) := propext (by omega)
      simp only [c1, c2, Nat.add_zero]
theorem occ_two' {D : Nat → Nat} {v p q n : Nat} (hpq : p ≠ q) (hp : D p = v) (hq : D q = v) (h1 : p < n) (h2 : q < n) (h : ∀ i, i < n → D i = v → i = p ∨ i = q) : occ D v n = 2 := by
  rcases Nat.lt_or_gt_of_ne hpq with z | z
  · rw [occ_two z hp hq n h, if_pos h1, if_pos h2]
  · rw [occ_two z hq hp n (fun i hi e => (h i hi e).symm), if_pos h1, if_pos h2]
theorem Dbl_perm {N : Nat} {L P Q : Nat → Nat} (hV : VW N L P Q) (σ τ : Nat → Nat) (h1 : ∀ j, j < 2 * N → σ j < 2 * N ∧ τ (σ j) = j) (h2 : ∀ j, j < 2 * N → τ j < 2 * N ∧ σ (τ j) = j) : Dbl (fun j => L (σ j)) (2 * N) := by
  intro i hi
  have hc := (hV.2.2 (σ i) (h1 i hi).1).1
  obtain ⟨a1, a2, a3, a4⟩ := hV.2.1 (L (σ i)) hc
  have b1 := h2 (P (L (σ i))) (by omega)
  have b2 := h2 (Q (L (σ i))) (by omega)
  refine occ_two' (p := τ (P (L (σ i)))) (q := τ (Q (L (σ i)))) (fun e => ?_) ?_ ?_ b1.1 b2.1 (fun j hj e => ?_)
  · have := congrArg σ e
    rw [b1.2, b2.2] at this
    omega
  · show L (σ (τ _)) = _
    rw [b1.2]; exact a3
  · show L (σ (τ _)) = _
    rw [b2.2]; exact a4
  · have e : L (σ j) = L (σ i) := e
    have hj' := h1 j hj
    rcases (hV.2.2 (σ j) hj'.1).2 with z | z
    · left; rw [← e, ← z]; exact hj'.2.symm
    · right; rw [← e, ← z]; exact hj'.2.symm
theorem tD_dbl {N : Nat} {L P Q : Nat → Nat} (hV : VW N L P Q) {v : Nat} (hv : v < 4 * N) : Dbl (tD N L v) (2 * N) := by
  have md : ∀ x, x < 4 * N → x % (2 * N) = if x < 2 * N then x else x - 2 * N := fun x hx => by
    by_cases q : x < 2 * N
    · rw [if_pos q, Nat.mod_eq_of_lt q]
    · rw [if_neg q, Nat.mod_eq_sub_mod (by omega), Nat.mod_eq_of_lt (by omega)]
  by_cases q : v % 2 = 1
  · have e : tD N L v = fun j => L ((v / 2 + 2 * N - j) % (2 * N)) := by
      funext j; unfold tD; rw [if_pos q]
    rw [e]
    have inv : ∀ j, j < 2 * N → (v / 2 + 2 * N - j) % (2 * N) < 2 * N ∧ (v / 2 + 2 * N - (v / 2 + 2 * N - j) % (2 * N)) % (2 * N) = j := by
      intro j hj
      have m0 : v / 2 + 2 * N - j < 4 * N := by omega
      refine ⟨Nat.mod_lt _ (by omega), ?_⟩
      rw [md _ m0]
      split
      · rw [md _ (by omega)]; split <;> omega
      · rw [md _ (by omega)]; split <;> omega
    exact Dbl_perm hV (fun j => (v / 2 + 2 * N - j) % (2 * N)) (fun j => (v / 2 + 2 * N - j) % (2 * N)) inv inv
  · have e : tD N L v = fun j => L ((v / 2 + j) % (2 * N)) := by
      funext j; unfold tD; rw [if_neg q]
    rw [e]
    refine Dbl_perm hV (fun j => (v / 2 + j) % (2 * N)) (fun j => (j + 2 * N - v / 2) % (2 * N)) (fun j hj => ⟨Nat.mod_lt _ (by omega), ?_⟩) (fun j hj => ⟨Nat.mod_lt _ (by omega), ?_⟩)
    · rw [md (v / 2 + j) (by omega)]
      split
      · rw [md _ (by omega)]; split <;> omega
      · rw [md _ (by omega)]; split <;> omega
    · rw [md (j + 2 * N - v / 2) (by omega)]
      split
      · rw [md _ (by omega)]; split <;> omega
      · rw [md _ (by omega)]; split <;> omega
section DD
variable {A : AH} {m t n : Nat} {s : St} {D : Nat → Nat}
def tV (y : Nat) (z : Int32) : Nat := 2 * y + (if z = 0 then 0 else 1)
/-- a new row for word t, the shelf being minded -/
def reW (s : St) (t : Nat) (D : Nat → Nat) (n : Nat) : St := setW (stMind s) t (wMade D n)
theorem reW_ok (hk : StOK s) {D : Nat → Nat} {n : Nat} (hn : n ≤ 16) (h : Dbl D n) : StOK (reW s t D n) := setW_ok (stMind_ok hk) (wMade_ok hn h)
def eTurn (s : St) (x y z : Int32) : St := if (0 ≤ x.toInt ∧ x.toInt < (sSh s).1) ∧ (0 ≤ y.toInt ∧ y.toInt < 2 * ((sSh s).2 x.toInt.toNat).1) then reW s x.toInt.toNat (tD ((sSh s).2 x.toInt.toNat).1 ((sSh s).2 x.toInt.toNat).2.1 (tV y.toInt.toNat z)) (2 * ((sSh s).2 x.toInt.toNat).1) else s
def oTurn (s : St) (x y z : Int32) : Int32 := if (0 ≤ x.toInt ∧ x.toInt < (sSh s).1) ∧ (0 ≤ y.toInt ∧ y.toInt < 2 * ((sSh s).2 x.toInt.toNat).1) then I (wK (wMade (tD ((sSh s).2 x.toInt.toNat).1 ((sSh s).2 x.toInt.toNat).2.1 (tV y.toInt.toNat z)) (2 * ((sSh s).2 x.toInt.toNat).1))) else -1000000001
theorem tV_lt {y N : Nat} {z : Int32} (h : y < 2 * N) : tV y z < 4 * N := by unfold tV; split <;> omega
theorem eTurn_ok (hk : StOK s) (x y z : Int32) : StOK (eTurn s x y z) := by
  unfold eTurn
  split
  · rename_i q
    have hV := hk.vw (t := x.toInt.toNat) (by omega)
    exact reW_ok hk (by have := hV.1; omega) (tD_dbl hV (tV_lt (by omega)))
  · exact hk
theorem M_turn (h : RF A m s) (hk : StOK s) (x y z : Int32) (hz : z = 0 ∨ z = 1) : ∃ r, fX12_turn A (some m) x y z = some r ∧ r.1 = oTurn s x y z ∧ RF r.2 m (eTurn s x y z) ∧ Mm m A r.2 := by
  unfold fX12_turn oTurn eTurn
  rw [h.1.rc, bs, M_isW h hk x, bs]
  by_cases q : 0 ≤ x.toInt ∧ x.toInt < (sSh s).1
  rotate_left
  · rw [if_pos (bI0.mpr q), if_neg (fun z => q z.1), if_neg (fun z => q z.1)]; exact ⟨_, rfl, rfl, h, Mm.rf⟩
  obtain ⟨t, ht, t2⟩ := wz q
  have hx : x = I (t : Int) := lit_eq t2
  have hV := hk.vw ht
  have hN := hV.1
  have e2 := M_in0 A (Bd_of y) (c := 2 * (((sSh s).2 t).1 : Int) - 1) (by omega)
  rw [← I_of] at e2
  rw [if_neg (fun z => bI0.mp z q), t2, Int.toNat_natCast, hx, M_size h.1 (h.we hk ht), bs, L_2, L_1, I_mul, I_sub, e2, bs]
  by_cases q2 : 0 ≤ y.toInt ∧ y.toInt < 2 * ((sSh s).2 t).1
  rotate_left
  · rw [if_pos (bI0.mpr (by omega)), if_neg (fun z => q2 z.2), if_neg (fun z => q2 z.2)]; exact ⟨_, rfl, rfl, h, Mm.rf⟩
  obtain ⟨i, i1, i2⟩ : ∃ i : Nat, i < 2 * ((sSh s).2 t).1 ∧ y.toInt = i := ⟨y.toInt.toNat, by omega, by omega⟩
  have hy : y = I (i : Int) := lit_eq i2
  have q3 : (0 ≤ (t : Int) ∧ (t : Int) < (sSh s).1) ∧ (0 ≤ y.toInt ∧ y.toInt < 2 * ((sSh s).2 t).1) := ⟨by omega, q2⟩
  rw [if_neg (fun z => bI0.mp z (by omega)), if_pos q3, if_pos q3, i2, Int.toNat_natCast, hy]
  obtain ⟨B, b1, b2, b3⟩ := M_minds h hk
  have hk' := stMind_ok hk
  have hvl : tV i z < 4 * ((sSh s).2 t).1 := tV_lt i1
  obtain ⟨C, c1, c2, c3, c4⟩ := M_turned b2.1 (b2.we hk' (t := t) ht) (v := tV i z) hvl
  have hC := b2.ms c2.1
  have hdb := tD_dbl hV hvl
  have hb : ∀ k, k < 2 * ((sSh s).2 t).1 → tD ((sSh s).2 t).1 ((sSh s).2 t).2.1 (tV i z) k < 1000 := fun k hk => by
    unfold tD
    split
    · have := (hV.2.2 _ (Nat.mod_lt (tV i z / 2 + 2 * ((sSh s).2 t).1 - k) (show 2 * ((sSh s).2 t).1 > 0 by omega))).1; omega
    · have := (hV.2.2 _ (Nat.mod_lt (tV i z / 2 + k) (show 2 * ((sSh s).2 t).1 > 0 by omega))).1; omega
  obtain ⟨r, r1, r2, r3, r4⟩ := M_laysW hC hk' (t := t) ht (n := 2 * ((sSh s).2 t).1) (by omega) (by omega) c3 c4 hb
  have hok : StOK (reW s t (tD ((sSh s).2 t).1 ((sSh s).2 t).2.1 (tV i z)) (2 * ((sSh s).2 t).1)) := reW_ok hk (by omega) hdb
  have r3 : RF r.2 m (reW s t (tD ((sSh s).2 t).1 ((sSh s).2 t).2.1 (tV i z)) (2 * ((sSh s).2 t).1)) := r3
  obtain ⟨w, w1, w2, w3⟩ := M_kinOf r3 hok (t := t) ht
  have c1 : fX12_turned B (some m) (I t) (I i) z = some C := by
    have e1 : tV i z / 2 = i := by unfold tV; split <;> omega
    have e3 : z = bI (tV i z % 2 = 1) := by
      rcases hz with rfl | rfl
      · exact (bI0.mpr (by show ¬ (2 * i + 0) % 2 = 1; omega)).symm
      · exact (bI1.mpr (by show (2 * i + 1) % 2 = 1; omega)).symm
    have c1' : fX12_turned B (some m) (I t) (I ((tV i z / 2 : Nat) : Int)) (bI (tV i z % 2 = 1)) = some C := c1
    rw [e1, ← e3] at c1'
    exact c1'
  rw [b1, bs, c1, bs, r1, bs, w1, bs]
  refine ⟨_, rfl, ?_, r3.ms w3, ((b3.mm.tr c2.1.mm).tr r4.mm).tr w3.mm⟩
  have hw : (sSh (reW s t (tD ((sSh s).2 t).1 ((sSh s).2 t).2.1 (tV i z)) (2 * ((sSh s).2 t).1))).2 t = wMade (tD ((sSh s).2 t).1 ((sSh s).2 t).2.1 (tV i z)) (2 * ((sSh s).2 t).1) := if_pos rfl
  rw [← hw]
  exact w2
end DD
