/-! what a word may be asked; codes in the reference -/
/-- the row 'made' of the reference -/
def MdS (A : AH) (m n : Nat) (D : Nat → Nat) : Prop := ∀ k, k < n → He A (m + 7) k = I (D k)
/-- value v stands at none of the places before n -/
def fr0 (D : Nat → Nat) (v n : Nat) : Bool := anyB (fun k => decide (D k = v)) n
/-- how many new values come before v does, among the first n places -/
def nn (D : Nat → Nat) (v : Nat) : Nat → Nat
  | 0 => 0
  | n + 1 => nn D v n + (if fr0 D (D n) n = false ∧ fr0 D v (n + 1) = false then 1 else 0)
theorem fr0_iff {D : Nat → Nat} {v n : Nat} : fr0 D v n = true ↔ ∃ j, j < n ∧ D j = v := by
  unfold fr0
  rw [anyB_iff]
  exact ⟨fun ⟨j, h1, h2⟩ => ⟨j, h1, of_decide_eq_true h2⟩, fun ⟨j, h1, h2⟩ => ⟨j, h1, decide_eq_true h2⟩⟩
theorem fr0_n {D : Nat → Nat} {v n : Nat} : fr0 D v n = false ↔ ∀ j, j < n → D j ≠ v := by
  rw [← Bool.not_eq_true, fr0_iff]
  exact ⟨fun h j h1 h2 => h ⟨j, h1, h2⟩, fun h ⟨j, h1, h2⟩ => h j h1 h2⟩
theorem nn_le (D : Nat → Nat) (v : Nat) : ∀ n, nn D v n ≤ n
  | 0 => Nat.le_refl _
  | n + 1 => by
    have := nn_le D v n
    unfold nn
    split <;> omega
theorem nn_stop {D : Nat → Nat} {v f : Nat} (h : D f = v) : ∀ n, nn D v (f + n) = nn D v f
  | 0 => rfl
  | n + 1 => by
    show nn D v (f + n) + _ = _
    rw [nn_stop h n, if_neg (fun q => fr0_n.mp q.2 f (Nat.lt_succ_of_le (Nat.le_add_right f n)) h)]
    rfl
theorem least_ex {p : Nat → Prop} : ∀ n, p n → ∃ f, f ≤ n ∧ p f ∧ ∀ j, j < f → ¬ p j := by
  intro n
  induction n using Nat.strongRecOn with
  | _ n ih =>
    intro h
    by_cases q : ∃ j, j < n ∧ p j
    · obtain ⟨j, h1, h2⟩ := q
      obtain ⟨f, g1, g2, g3⟩ := ih j h1 h2
      exact ⟨f, by omega, g2, g3⟩
    · exact ⟨n, Nat.le_refl _, h, fun j h1 h2 => q ⟨j, h1, h2⟩⟩
/-- the code that a row of n places spells -/
def cdm (D : Nat → Nat) : Nat → Int64
  | 0 => 0
  | n + 1 => 8 * cdm D n + (I ((nn D (D n) n : Nat) : Int)).toInt64
def tD (N : Nat) (L : Nat → Nat) (v j : Nat) : Nat := if v % 2 = 1 then L ((v / 2 + 2 * N - j) % (2 * N)) else L ((v / 2 + j) % (2 * N))
def cV (N : Nat) (L : Nat → Nat) (v : Nat) : Int64 := cdm (tD N L v) (2 * N)
def mnC (N : Nat) (L : Nat → Nat) : Nat → Int64
  | 0 => 0
  | v + 1 => if v = 0 then cV N L v else if 0 ≤ lg_cmp (cV N L v) (mnC N L v) then mnC N L v else cV N L v
def knC (N : Nat) (L : Nat → Nat) : Nat → Nat
  | 0 => if N = 0 then 1 else 0
  | v + 1 => knC N L v + (if lg_cmp (cV N L v) (cV N L 0) = 0 then 1 else 0)
theorem knC_le (N : Nat) (L : Nat → Nat) : ∀ n, knC N L n ≤ n + 1
  | 0 => by unfold knC; split <;> omega
  | n + 1 => by
    have := knC_le N L n
    unfold knC
    split <;> omega
section CD
variable {A : AH} {m t N : Nat} {L P Q : Nat → Nat} {sg n : Nat} {D : Nat → Nat}
theorem M_isStep (hM : MI A m) (hW : WE A m t N L) {z : Int} (hz : Bd z) : fX12_isStep A (some m) (I t) (I z) = some (bI (0 ≤ z ∧ z < max 1 (2 * N : Nat))) := by
  have hN := hW.2.1
  unfold fX12_isStep
  rw [hM.rc, bs, M_size hM hW, bs, jp_eq]
  by_cases q : N = 0
  · rw [if_pos (by rw [q]; rfl), show (0 : Int64) = (I 0).toInt64 from rfl]
    dsimp only
    rw [M_in3 A hz (by omega) (by omega), bs, rz_bI, bs]
    exact congrArg some (bIc (by omega))
  · rw [if_neg (by rw [L_0]; exact eq_n (by omega)), bs]
    dsimp only
    rw [L_2, L_1, I_mul, I_sub, M_in0 A hz (by omega), bs, rz_bI, bs]
    exact congrArg some (bIc (by omega))
theorem M_comes (hM : MI A m) {k : Nat} (hk : k < 32) (hc : Hi A 396 m = I k) (v : Int32) : fX12_comes A (some m) v = some (si (se A (m + 7) k v) 396 m (I ((k + 1 : Nat) : Int))) := by
  unfold fX12_comes
  rw [hM.rc, bs, hM.md, bs, gI_ok hM.k, bs, hc, hM.md_s (by omega) (by omega), bs, gI_ok (hM.se).k, bs, pI_ok (hM.se).k, bs, hi_se, hc, L_1, I_add, ← cst, Int.toNat_natCast]
theorem M_numberOf (hM : MI A m) (hn : n ≤ 32) (hD : MdS A m n D) (hb : ∀ k, k < n → D k < 1000) {a : Nat} (ha : a < n) : fX12_numberOf A (some m) (I a) = some (I (nn D (D a) a)) := by
  obtain ⟨f, f1, f2, f3⟩ := least_ex (p := fun j => D j = D a) a rfl
  have e : nn D (D a) a = nn D (D a) f := by rw [show a = f + (a - f) by omega, show f + (a - f) = a by omega]; have := nn_stop f2 (a - f); rw [show f + (a - f) = a by omega] at this; exact this
  have rd : ∀ k : Nat, k < n → aI A 14 (some (m + 7)) (I (k : Int)) = some (I (D k)) := fun k hk => by rw [hM.md_l (by omega) (by omega), Int.toNat_natCast, hD k hk]
  unfold fX12_numberOf
  rw [hM.rc, bs, e]
  refine for_b (fun j => (I (nn D (D a) j), I j)) f (I (nn D (D a) f)) rfl (fun j hj => ?_) ?_ rfl
  · dsimp only
    have h1 := hb j (by omega)
    have h2 := hb a ha
    rw [hM.md, bs, rd j (by omega), bs, bs, rd a ha, bs, if_neg (eq_n (by have := f3 j hj; omega))]
    refine for_b (fun k => (bI (fr0 D (D j) k = false), I k)) j (bI (fr0 D (D j) j = false)) rfl (fun k hk => ?_) ?_ ?_
    · dsimp only
      have h3 := hb k (by omega)
      rw [if_neg (le_n (by omega)), jp_eq]
      have hs : fr0 D (D j) (k + 1) = (fr0 D (D j) k || decide (D k = D j)) := rfl
      cases q : fr0 D (D j) k with
      | true =>
        rw [if_pos (bI0.mpr (by decide)), hs, q, L_1, I_add, ← cst]
        rfl
      | false =>
        rw [if_neg (fun z => bI0.mp z rfl), bs, rd k (by omega), bs, bs, rd j (by omega), bs, hs, q]
        by_cases q2 : D k = D j
        · rw [if_pos (by rw [q2]), decide_eq_true q2, L_1, I_add, ← cst]; rfl
        · rw [if_neg (eq_n (by omega)), decide_eq_false q2, L_1, I_add, ← cst]; rfl
    · dsimp only
      rw [if_pos (le_y (by omega))]
    · rw [jp1_eq]
      have hs : nn D (D a) (j + 1) = nn D (D a) j + (if fr0 D (D j) j = false ∧ fr0 D (D a) (j + 1) = false then 1 else 0) := rfl
      have hz : fr0 D (D a) (j + 1) = false := fr0_n.mpr fun k hk => f3 k (by omega)
      rw [hs, hz]
      cases q : fr0 D (D j) j with
      | true => rw [if_pos (bI0.mpr (by decide)), if_neg (by decide), L_0, L_1, I_add, I_add, ← cst, Int.add_zero]; rfl
      | false => rw [if_neg (fun z => bI0.mp z rfl), if_pos (by decide), L_1, I_add, I_add, ← cst, ← cst]
  · dsimp only
    rw [hM.md, bs, rd f (by omega), bs, bs, rd a ha, bs, f2, if_pos rfl]
theorem M_codeOfMade (hM : MI A m) (hn : n ≤ 32) (hc : Hi A 396 m = I n) (hD : MdS A m n D) (hb : ∀ k, k < n → D k < 1000) : fX12_codeOfMade A (some m) = some (cdm D n) := by
  unfold fX12_codeOfMade
  rw [hM.rc, bs]
  refine for_b (fun j => (cdm D j, I j)) n (cdm D n) rfl (fun j hj => ?_) ?_ rfl
  · dsimp only
    rw [gI_ok hM.k, bs, hc, if_neg (le_n (by omega)), M_numberOf hM hn hD hb hj, bs, L_1, I_add, ← cst]
    rfl
  · dsimp only
    rw [gI_ok hM.k, bs, hc, if_pos (le_y (by omega))]
theorem hi_si' {A : AH} {f g a b : Nat} {v : Int32} (h : ¬ (g = f ∧ b = a)) : Hi (si A f a v) g b = Hi A g b := up2_ne (fun q => h ⟨q.1, q.2⟩)
/-- a step that writes the row 'made' and its length alone -/
def Mk (m : Nat) (A A' : AH) : Prop := Ms m A A' ∧ (∀ a, a ≠ m + 7 → He A' a = He A a) ∧ ∀ f a, ¬ (a = m ∧ f = 396) → Hi A' f a = Hi A f a
theorem Mk.rf {m : Nat} {A : AH} : Mk m A A := ⟨Ms.rf, fun _ _ => rfl, fun _ _ _ => rfl⟩
theorem Mk.tr {m : Nat} {A B C : AH} (h : Mk m A B) (g : Mk m B C) : Mk m A C := ⟨h.1.tr g.1, fun a ha => (g.2.1 a ha).trans (h.2.1 a ha), fun f a ha => (g.2.2 f a ha).trans (h.2.2 f a ha)⟩
theorem Mk.se {m i : Nat} {A : AH} {v : Int32} : Mk m A (se A (m + 7) i v) := ⟨Ms.se (by omega), fun a ha => he_se_ne ha, fun _ _ _ => rfl⟩
theorem Mk.si {m : Nat} {A : AH} {v : Int32} : Mk m A (si A 396 m v) := ⟨Ms.si (by omega), fun _ _ => rfl, fun f a hf => up2_ne (fun q => hf ⟨q.2, q.1⟩)⟩
/-- one more comes -/
theorem M_comesD (hM : MI A m) {k : Nat} (hk : k < 32) (hc : Hi A 396 m = I k) (hD : MdS A m k D) : ∃ A', fX12_comes A (some m) (I (D k)) = some A' ∧ Mk m A A' ∧ Hi A' 396 m = I ((k + 1 : Nat) : Int) ∧ MdS A' m (k + 1) D := by
  refine ⟨_, M_comes hM hk hc _, Mk.se.tr Mk.si, hi_si, fun j hj => ?_⟩
  rw [he_si, he_se]
  split
  · rename_i q; rw [q]
  · exact hD j (by omega)
theorem M_turned (hM : MI A m) (hW : WE A m t N L) {v : Nat} (hv : v < 4 * N) : ∃ A', fX12_turned A (some m) (I t) (I ((v / 2 : Nat) : Int)) (bI (v % 2 = 1)) = some A' ∧ Mk m A A' ∧ Hi A' 396 m = I ((2 * N : Nat) : Int) ∧ MdS A' m (2 * N) (tD N L v) := by
  have hN := hW.2.1
  unfold fX12_turned
  rw [hM.rc, bs, M_size hM hW, bs, pI_ok hM.k, bs]
  have e2 : (2 : Int32) * I (N : Int) = I ((2 * N : Nat) : Int) := by rw [L_2, I_mul]; congr 1
  rw [e2]
  refine for_eb (2 * N) (fun j s => s.1 = I j ∧ Mk m A s.2 ∧ Hi s.2 396 m = I j ∧ MdS s.2 m j (tD N L v)) (fun r => Mk m A r ∧ Hi r 396 m = I ((2 * N : Nat) : Int) ∧ MdS r m (2 * N) (tD N L v)) ⟨rfl, Mk.si, hi_si, fun k hk => by omega⟩ ?_ ?_ (fun r hr => ⟨r, rfl, hr⟩)
  · rintro j ⟨s1, s2⟩ hj ⟨e1, g1, g2, g3⟩
    dsimp only at e1 g1 g2 g3 ⊢
    subst e1
    have hM' := hM.ms g1.1
    have hW' := hW.ms g1.1
    obtain ⟨A', q1, q2, q3, q4⟩ := M_comesD hM' (k := j) (by omega) g2 g3
    refine ⟨(I ((j + 1 : Nat) : Int), A'), ?_, rfl, g1.tr q2, q3, q4⟩
    rw [if_neg (le_n (by omega)), jp1_eq]
    unfold tD at q1
    by_cases hq : v % 2 = 1
    · rw [if_neg (fun z => bI0.mp z hq), I_sub, I_add, I_rem (by omega) (by omega) (by omega) (by omega), bs]
      rw [if_pos hq] at q1
      have e3 : (((v / 2 : Nat) : Int) - (j : Int) + ((2 * N : Nat) : Int)) % ((2 * N : Nat) : Int) = (((v / 2 + 2 * N - j) % (2 * N) : Nat) : Int) := by
        rw [Int.natCast_emod]; congr 1; omega
      rw [e3, M_letterAt hM' hW' (Nat.mod_lt _ (by omega)), bs, q1, bs, L_1, I_add, ← cst]
    · rw [if_pos (bI0.mpr hq), I_add, I_rem (by omega) (by omega) (by omega) (by omega), bs]
      rw [if_neg hq] at q1
      have e3 : (((v / 2 : Nat) : Int) + (j : Int)) % ((2 * N : Nat) : Int) = (((v / 2 + j) % (2 * N) : Nat) : Int) := by
        rw [Int.natCast_emod]; congr 1
      rw [e3, M_letterAt hM' hW' (Nat.mod_lt _ (by omega)), bs, q1, bs, L_1, I_add, ← cst]
  · rintro ⟨s1, s2⟩ ⟨e1, g1, g2, g3⟩
    dsimp only at e1 g1 g2 g3 ⊢
    subst e1
    exact ⟨s2, by rw [if_pos (le_y (by omega))], g1, g2, g3⟩
theorem M_codeOf (hM : MI A m) (hW : WE A m t N L) (hV : VW N L P Q) : ∃ r, fX12_codeOf A (some m) (I t) = some r ∧ r.1 = mnC N L (4 * N) ∧ Hi r.2 403 m = I (knC N L (4 * N)) ∧ Ms m A r.2 := by
  have hN := hV.1
  unfold fX12_codeOf
  rw [hM.rc, bs, M_size hM hW, bs, jp1_eq, pI_ok hM.k, bs]
  refine for_eb (4 * N) (fun v s => s.1 = mnC N L v ∧ (v ≠ 0 → s.2.1 = cV N L 0) ∧ s.2.2.1 = I v ∧ Ms m A s.2.2.2 ∧ Hi s.2.2.2 403 m = I (knC N L v)) (fun r => r.1 = mnC N L (4 * N) ∧ Hi r.2 403 m = I (knC N L (4 * N)) ∧ Ms m A r.2) ⟨rfl, fun h => absurd rfl h, rfl, Ms.si (by omega), ?_⟩ ?_ ?_ (fun r hr => ⟨_, rfl, hr⟩)
  · dsimp only
    rw [hi_si]
    unfold knC
    by_cases q : N = 0
    · rw [if_pos (by rw [q]; rfl), if_pos q]; rfl
    · rw [if_neg (by rw [L_0]; exact eq_n (by omega)), if_neg q]; rfl
  · rintro v ⟨s1, s2, s3, s4⟩ hv ⟨e1, e2, e3, g1, g2⟩
    dsimp only at e1 e2 e3 g1 g2 ⊢
    subst e1; subst e3
    have hM' := hM.ms g1
    have hW' := hW.ms g1
    obtain ⟨A', q1, q2, q3, q4⟩ := M_turned hM' hW' hv
    have hM2 := hM'.ms q2.1
    have hb : ∀ k, k < 2 * N → tD N L v k < 1000 := fun k hk => by
      unfold tD
      split
      · have := (hV.2.2 _ (Nat.mod_lt (v / 2 + 2 * N - k) (show 2 * N > 0 by omega))).1; omega
      · have := (hV.2.2 _ (Nat.mod_lt (v / 2 + k) (show 2 * N > 0 by omega))).1; omega
    have q5 := M_codeOfMade hM2 (n := 2 * N) (by omega) q3 q4 hb
    have hk : Hi A' 403 m = I (knC N L v) := by rw [q2.2.2 403 m (by omega), g2]
    have hkl := knC_le N L v
    have x19 : (if I (v : Int) = 0 then cV N L v else s2) = cV N L 0 := by
      by_cases q : v = 0
      · rw [if_pos (by rw [q]; rfl), q]
      · rw [if_neg (by rw [L_0]; exact eq_n (by omega)), e2 q]
    have hs1 : mnC N L (v + 1) = if v = 0 then cV N L v else if 0 ≤ lg_cmp (cV N L v) (mnC N L v) then mnC N L v else cV N L v := rfl
    have hs2 : knC N L (v + 1) = knC N L v + (if lg_cmp (cV N L v) (cV N L 0) = 0 then 1 else 0) := rfl
    have x29 : I ((knC N L v : Nat) : Int) + (if lg_cmp (cV N L v) (cV N L 0) = 0 then (1 : Int32) else 0) = I ((knC N L (v + 1) : Nat) : Int) := by
      rw [hs2]
      by_cases q : lg_cmp (cV N L v) (cV N L 0) = 0
      · rw [if_pos q, if_pos q, L_1, I_add, ← cst]
      · rw [if_neg q, if_neg q, L_0, I_add, Nat.add_zero, Int.add_zero]
    refine ⟨(mnC N L (v + 1), cV N L 0, I ((v + 1 : Nat) : Int), si A' 403 m (I ((knC N L (v + 1) : Nat) : Int))), ?_, rfl, fun _ => rfl, rfl, (g1.tr q2.1).tr (Ms.si (by omega)), hi_si⟩
    have ed : (I (v : Int)) = I (v : Int) := rfl
    have d1 : dvI (I (v : Int)) 2 = some (I ((v / 2 : Nat) : Int)) := by rw [L_2, I_div (by omega) (by omega) (by omega) (by omega)]; rfl
    have d2 : (if I ((v % 2 : Nat) : Int) = 1 then (1 : Int32) else 0) = bI (v % 2 = 1) := by
      rw [ite_bI]
      exact bIc (by rw [L_1, I_eq (by omega) (by omega)]; omega)
    rw [M_size hM' hW', bs, L_4, I_mul, if_neg (le_n (by omega)), d1, bs, I_m2 (by omega), bs, jp1_eq, d2, q1, bs, q5, bs, jp1_eq, jp_eq]
    dsimp only [jp_eq]
    rw [show cdm (tD N L v) (2 * N) = cV N L v from rfl, x19, gI_ok hM2.k, bs, jp1_eq, hk, x29, pI_ok hM2.k, bs, L_1, I_add, ← cst, hs1]
    by_cases q : v = 0
    · rw [if_pos (by rw [q]; rfl), if_pos q]
    · rw [if_neg (by rw [L_0]; exact eq_n (by omega)), if_neg q]
      by_cases z : 0 ≤ lg_cmp (cV N L v) (mnC N L v)
      · rw [if_pos z, if_pos z, bs, jp1_eq, ← L_1, x29, pI_ok hM2.k, bs]
      · rw [if_neg z, if_neg z]
  · rintro ⟨s1, s2, s3, s4⟩ ⟨e1, e2, e3, g1, g2⟩
    dsimp only at e1 e2 e3 g1 g2 ⊢
    subst e1; subst e3
    exact ⟨(mnC N L (4 * N), s4), by rw [M_size (hM.ms g1) (hW.ms g1), bs, L_4, I_mul, if_pos (le_y (by omega))], rfl, g2, g1⟩
end CD
