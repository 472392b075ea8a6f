/-! what hangs together -/
def Conn (R : List (Nat × Nat)) (a b : Nat) : Prop := ∀ E : Nat → Nat → Prop, (∀ x, E x x) → (∀ x y, E x y → E y x) → (∀ x y z, E x y → E y z → E x z) → (∀ q ∈ R, E q.1 q.2) → E a b
theorem Conn.rf {R : List (Nat × Nat)} (a : Nat) : Conn R a a := fun _ h _ _ _ => h a
theorem Conn.sy {R : List (Nat × Nat)} {a b : Nat} (h : Conn R a b) : Conn R b a := fun E h1 h2 h3 h4 => h2 _ _ (h E h1 h2 h3 h4)
theorem Conn.tr {R : List (Nat × Nat)} {a b c : Nat} (h : Conn R a b) (g : Conn R b c) : Conn R a c := fun E h1 h2 h3 h4 => h3 _ _ _ (h E h1 h2 h3 h4) (g E h1 h2 h3 h4)
theorem Conn.of {R : List (Nat × Nat)} {q : Nat × Nat} (h : q ∈ R) : Conn R q.1 q.2 := fun _ _ _ _ h4 => h4 q h
def IsLab (n : Nat) (R : List (Nat × Nat)) (lab : Nat → Nat) : Prop := (∀ k, k < n → lab k ≤ k) ∧ (∀ k, k < n → Conn R (lab k) k) ∧ ∀ q ∈ R, lab q.1 = lab q.2
theorem IsLab.cst {n : Nat} {R : List (Nat × Nat)} {lab : Nat → Nat} (h : IsLab n R lab) {a b : Nat} (g : Conn R a b) : lab a = lab b :=
  g (fun x y => lab x = lab y) (fun _ => rfl) (fun _ _ q => q.symm) (fun _ _ _ q r => q.trans r) h.2.2
theorem IsLab.uq {n : Nat} {R : List (Nat × Nat)} {l1 l2 : Nat → Nat} (h1 : IsLab n R l1) (h2 : IsLab n R l2) : ∀ k, k < n → l1 k = l2 k := by
  have key : ∀ {l1 l2 : Nat → Nat}, IsLab n R l1 → IsLab n R l2 → ∀ k, k < n → l2 k ≤ l1 k := by
    intro l1 l2 h1 h2 k hk
    have a := h1.1 k hk
    have b := h2.cst (h1.2.1 k hk)
    have c := h2.1 (l1 k) (by omega)
    omega
  intro k hk
  have := key h1 h2 k hk
  have := key h2 h1 k hk
  omega
def roots (lab : Nat → Nat) : Nat → Nat
  | 0 => 0
  | n + 1 => roots lab n + (if lab n = n then 1 else 0)
theorem roots_le (lab : Nat → Nat) : ∀ n, roots lab n ≤ n
  | 0 => Nat.le_refl _
  | n + 1 => by
    have := roots_le lab n
    unfold roots
    split <;> omega
theorem roots_c {l1 l2 : Nat → Nat} : ∀ {n : Nat}, (∀ k, k < n → l1 k = l2 k) → roots l1 n = roots l2 n
  | 0, _ => rfl
  | n + 1, h => by
    unfold roots
    rw [roots_c (fun k hk => h k (by omega)), h n (by omega)]
noncomputable def theLab (n : Nat) (R : List (Nat × Nat)) : Nat → Nat := @dite _ (∃ lab, IsLab n R lab) (Classical.propDecidable _) (fun h => h.choose) (fun _ => id)
theorem IsLab.the {n : Nat} {R : List (Nat × Nat)} {lab : Nat → Nat} (h : IsLab n R lab) : ∀ k, k < n → lab k = theLab n R k := by
  have hx : ∃ lab, IsLab n R lab := ⟨lab, h⟩
  unfold theLab
  rw [dif_pos hx]
  exact h.uq hx.choose_spec
theorem IsLab.isThe {n : Nat} {R : List (Nat × Nat)} {lab : Nat → Nat} (h : IsLab n R lab) : IsLab n R (theLab n R) := by
  have hx : ∃ lab, IsLab n R lab := ⟨lab, h⟩
  unfold theLab
  rw [dif_pos hx]
  exact hx.choose_spec
/-- how many heaps -/
noncomputable def comps (n : Nat) (R : List (Nat × Nat)) : Nat := roots (theLab n R) n
theorem comps_of {n : Nat} {R : List (Nat × Nat)} {lab : Nat → Nat} (h : IsLab n R lab) : roots lab n = comps n R := roots_c h.the
theorem comps_le (n : Nat) (R : List (Nat × Nat)) : comps n R ≤ n := roots_le _ _
/-! labels gone over till nothing changes -/
def jn (lab : Nat → Nat) (a b : Nat) : Nat → Nat := fun k => if k = b then min (lab a) (lab b) else if k = a then min (lab a) (lab b) else lab k
def jnl (lab : Nat → Nat) (R : List (Nat × Nat)) : Nat → Nat := R.foldl (fun l q => jn l q.1 q.2) lab
def mvl : (Nat → Nat) → List (Nat × Nat) → Bool
  | _, [] => false
  | lab, q :: R => decide (lab q.1 ≠ lab q.2) || mvl (jn lab q.1 q.2) R
theorem jnl_app (lab : Nat → Nat) (R S : List (Nat × Nat)) : jnl lab (R ++ S) = jnl (jnl lab R) S := List.foldl_append
theorem mvl_app : ∀ (lab : Nat → Nat) (R S : List (Nat × Nat)), mvl lab (R ++ S) = (mvl lab R || mvl (jnl lab R) S)
  | lab, [], S => by simp [mvl, jnl]
  | lab, q :: R, S => by
    show (decide (lab q.1 ≠ lab q.2) || mvl (jn lab q.1 q.2) (R ++ S)) = _
    rw [mvl_app (jn lab q.1 q.2) R S, ← Bool.or_assoc]
    rfl
theorem jn_le (lab : Nat → Nat) (a b k : Nat) : jn lab a b k ≤ lab k := by
  unfold jn
  split
  · rename_i h; subst h; exact Nat.min_le_right _ _
  · split
    · rename_i h; subst h; exact Nat.min_le_left _ _
    · exact Nat.le_refl _
theorem jnl_le (R : List (Nat × Nat)) : ∀ (lab : Nat → Nat) (k : Nat), jnl lab R k ≤ lab k := by
  induction R with
  | nil => intro lab k; exact Nat.le_refl _
  | cons q R ih => intro lab k; exact Nat.le_trans (ih (jn lab q.1 q.2) k) (jn_le _ _ _ _)
theorem jn_conn {S : List (Nat × Nat)} {lab : Nat → Nat} {q : Nat × Nat} (hq : q ∈ S) {n : Nat} (h1 : q.1 < n) (h2 : q.2 < n) (h : ∀ k, k < n → Conn S (lab k) k) : ∀ k, k < n → Conn S (jn lab q.1 q.2 k) k := by
  intro k hk
  have hc := Conn.of hq
  have hm : Conn S (min (lab q.1) (lab q.2)) q.1 := by
    rcases Nat.le_total (lab q.1) (lab q.2) with g | g
    · rw [Nat.min_eq_left g]; exact h _ h1
    · rw [Nat.min_eq_right g]; exact (h _ h2).tr hc.sy
  unfold jn
  split
  · rename_i e; subst e; exact hm.tr hc
  · split
    · rename_i e; subst e; exact hm
    · exact h k hk
theorem jnl_conn {S : List (Nat × Nat)} {n : Nat} (R : List (Nat × Nat)) : ∀ (lab : Nat → Nat), (∀ q ∈ R, q ∈ S ∧ q.1 < n ∧ q.2 < n) → (∀ k, k < n → Conn S (lab k) k) → ∀ k, k < n → Conn S (jnl lab R k) k := by
  induction R with
  | nil => intro lab _ h; exact h
  | cons q R ih =>
    intro lab hR h
    have h0 := hR q List.mem_cons_self
    exact ih (jn lab q.1 q.2) (fun x hx => hR x (List.mem_cons_of_mem _ hx)) (jn_conn h0.1 h0.2.1 h0.2.2 h)
theorem jn_same {lab : Nat → Nat} {a b : Nat} (h : lab a = lab b) : jn lab a b = lab := by
  funext k
  unfold jn
  rw [h, Nat.min_self]
  split
  · rename_i e; rw [e]
  · split
    · rename_i e; rw [e, h]
    · rfl
theorem mvl_no (R : List (Nat × Nat)) : ∀ (lab : Nat → Nat), mvl lab R = false → (∀ q ∈ R, lab q.1 = lab q.2) ∧ jnl lab R = lab := by
  induction R with
  | nil => intro lab _; exact ⟨fun q h => absurd h List.not_mem_nil, rfl⟩
  | cons q R ih =>
    intro lab h
    have h : (decide (lab q.1 ≠ lab q.2) || mvl (jn lab q.1 q.2) R) = false := h
    rw [Bool.or_eq_false_iff] at h
    have h0 : lab q.1 = lab q.2 := by simpa using h.1
    rw [jn_same h0] at h
    obtain ⟨g1, g2⟩ := ih lab h.2
    refine ⟨fun x hx => ?_, ?_⟩
    · rcases List.mem_cons.mp hx with rfl | hx
      · exact h0
      · exact g1 x hx
    · show jnl (jn lab q.1 q.2) R = lab
      rw [jn_same h0]
      exact g2
def sumL (lab : Nat → Nat) : Nat → Nat
  | 0 => 0
  | n + 1 => sumL lab n + lab n
theorem sumL_le {l1 l2 : Nat → Nat} (h : ∀ k, l1 k ≤ l2 k) : ∀ n, sumL l1 n ≤ sumL l2 n
  | 0 => Nat.le_refl _
  | n + 1 => Nat.add_le_add (sumL_le h n) (h n)
theorem sumL_lt {l1 l2 : Nat → Nat} (h : ∀ k, l1 k ≤ l2 k) {a : Nat} (ha : l1 a < l2 a) : ∀ n, a < n → sumL l1 n < sumL l2 n
  | 0, q => by omega
  | n + 1, q => by
    have h1 := sumL_le h n
    have h2 := h n
    unfold sumL
    by_cases e : a = n
    · subst e; omega
    · have := sumL_lt h ha n (by omega)
      omega
theorem mvl_sum {n : Nat} (R : List (Nat × Nat)) : ∀ (lab : Nat → Nat), (∀ q ∈ R, q.1 < n ∧ q.2 < n) → mvl lab R = true → sumL (jnl lab R) n < sumL lab n := by
  induction R with
  | nil => intro lab _ h; cases h
  | cons q R ih =>
    intro lab hR h
    have h0 := hR q List.mem_cons_self
    have hle := jnl_le R (jn lab q.1 q.2)
    by_cases hq : lab q.1 = lab q.2
    · have h : (decide (lab q.1 ≠ lab q.2) || mvl (jn lab q.1 q.2) R) = true := h
      simp only [hq, ne_eq, not_true_eq_false, decide_false, Bool.false_or] at h
      show sumL (jnl (jn lab q.1 q.2) R) n < _
      rw [jn_same hq] at h ⊢
      exact ih lab (fun x hx => hR x (List.mem_cons_of_mem _ hx)) h
    · show sumL (jnl (jn lab q.1 q.2) R) n < _
      refine Nat.lt_of_le_of_lt (sumL_le hle n) ?_
      rcases Nat.lt_or_gt_of_ne hq with g | g
      · refine sumL_lt (jn_le lab q.1 q.2) (a := q.2) ?_ n h0.2
        show (if q.2 = q.2 then _ else _) < _
        rw [if_pos rfl]
        omega
      · refine sumL_lt (jn_le lab q.1 q.2) (a := q.1) ?_ n h0.1
        unfold jn
        split
        · rename_i e; rw [e] at g; omega
        · rw [if_pos rfl]; omega
/-! in the reference -/
theorem for_eb {S T β : Type} {b : S → Option (S ⊕ T)} {K : T → Option β} {Qr : β → Prop} (n : Nat) (G : Nat → S → Prop) (Post : T → Prop) {s : S} (h0 : G 0 s) (hs : ∀ j s, j < n → G j s → ∃ s', b s = some (.inl s') ∧ G (j + 1) s') (he : ∀ s, G n s → ∃ t, b s = some (.inr t) ∧ Post t) (hK : ∀ t, Post t → ∃ r, K t = some r ∧ Qr r) : ∃ r, (iter b s).bind K = some r ∧ Qr r := by
  have key : ∀ (f j : Nat) (s : S), j + f = n → G j s → ∃ t, itN b (f + 1) s = some t ∧ Post t := by
    intro f
    induction f with
    | zero =>
      intro j s hj hg
      obtain ⟨t, h1, h2⟩ := he s (by rw [← hj]; exact hg)
      exact ⟨t, by unfold itN; rw [h1], h2⟩
    | succ f ih =>
      intro j s hj hg
      obtain ⟨s', h1, h2⟩ := hs j s (by omega) hg
      obtain ⟨t, h3, h4⟩ := ih (j + 1) s' (by omega) h2
      exact ⟨t, by unfold itN; rw [h1]; exact h3, h4⟩
  obtain ⟨t, h1, h2⟩ := key n 0 s (by omega) h0
  rw [iter_eq h1]
  exact hK t h2
theorem for_eb2 {S T β : Type} {b : S → Option (S ⊕ T)} {K : T → Option β} {Qr : β → Prop} (n : Nat) (G : Nat → S → Prop) (Post : T → Prop) {s : S} (h0 : G 0 s) (hs : ∀ j s, j < n → G j s → ∃ x, b s = some x ∧ ∃ s', x = .inl s' ∧ G (j + 1) s') (he : ∀ s, G n s → ∃ t, b s = some (.inr t) ∧ Post t) (hK : ∀ t, Post t → ∃ r, K t = some r ∧ Qr r) : ∃ r, (iter b s).bind K = some r ∧ Qr r :=
  for_eb n G Post h0 (fun j s h1 h2 => by
    obtain ⟨x, g1, s', g2, g3⟩ := hs j s h1 h2
    exact ⟨s', by rw [g1, g2], g3⟩) he hK
theorem whl_eb {S T β : Type} {b : S → Option (S ⊕ T)} {K : T → Option β} {Qr : β → Prop} {Inv : S → Prop} {Post : T → Prop} (μ : S → Nat) {s : S} (h0 : Inv s) (step : ∀ s, Inv s → (∃ s', b s = some (.inl s') ∧ Inv s' ∧ μ s' < μ s) ∨ (∃ t, b s = some (.inr t) ∧ Post t)) (hK : ∀ t, Post t → ∃ r, K t = some r ∧ Qr r) : ∃ r, (iter b s).bind K = some r ∧ Qr r := by
  obtain ⟨t, h1, h2⟩ := iter_inv (Inv := Inv) (Post := Post) (μ := μ) step h0
  rw [h1]
  exact hK t h2
/-- a step that writes labels and their mark alone -/
def Ml (m : Nat) (A A' : AH) : Prop := Ms m A A' ∧ (∀ a, a ≠ m + 8 → He A' a = He A a) ∧ ∀ f a, ¬ (a = m ∧ f = 398) → Hi A' f a = Hi A f a
theorem Ml.rf {m : Nat} {A : AH} : Ml m A A := ⟨Ms.rf, fun _ _ => rfl, fun _ _ _ => rfl⟩
theorem Ml.tr {m : Nat} {A B C : AH} (h : Ml m A B) (g : Ml m B C) : Ml m A C := ⟨h.1.tr g.1, fun a ha => (g.2.1 a ha).trans (h.2.1 a ha), fun f a ha => (g.2.2 f a ha).trans (h.2.2 f a ha)⟩
theorem Ml.se {m i : Nat} {A : AH} {v : Int32} : Ml m A (se A (m + 8) i v) := ⟨Ms.se (by omega), fun a ha => he_se_ne ha, fun _ _ _ => rfl⟩
theorem Ml.si {m : Nat} {A : AH} {v : Int32} : Ml m A (si A 398 m v) := ⟨Ms.si (by omega), fun _ _ => rfl, fun f a hf => up2_ne (fun q => hf ⟨q.2, q.1⟩)⟩
def LbS (A : AH) (m n : Nat) (lab : Nat → Nat) : Prop := ∀ k, k < n → He A (m + 8) k = I (lab k)
section LB
variable {A : AH} {m n : Nat} {lab : Nat → Nat}
theorem M_joins (hM : MI A m) (hn : n ≤ 32) (hl : LbS A m n lab) (hb : ∀ k, k < n → lab k < 1000) {a b : Nat} (ha : a < n) (hb' : b < n) {mv : Bool} (hm : Hi A 398 m = bI (mv = true)) :
    ∃ A', fX12_joins A (some m) (I a) (I b) = some A' ∧ Ml m A A' ∧ LbS A' m n (jn lab a b) ∧ Hi A' 398 m = bI ((mv || decide (lab a ≠ lab b)) = true) := by
  have h1 := hb a ha
  have h2 := hb b hb'
  have ea : (a : Int).toNat = a := Int.toNat_natCast a
  have eb : (b : Int).toNat = b := Int.toNat_natCast b
  have hg : gI A 13 398 (some m) = some (bI (mv = true)) := by rw [gI_ok hM.k, hm]
  have hla : aI A 14 (some (m + 8)) (I a) = some (I (lab a)) := by rw [hM.lb_l (by omega) (by omega), ea, hl a ha]
  have hlb : aI A 14 (some (m + 8)) (I b) = some (I (lab b)) := by rw [hM.lb_l (by omega) (by omega), eb, hl b hb']
  have hmn : (if I (lab b) ≤ I (lab a) then I (lab b : Int) else I (lab a)) = I ((min (lab a) (lab b) : Nat) : Int) := by
    by_cases q : lab b ≤ lab a
    · rw [if_pos (le_y (by omega)), Nat.min_eq_right q]
    · rw [if_neg (le_n (by omega)), Nat.min_eq_left (by omega)]
  have hmv : (if bI (mv = true) = 0 then if I (lab a : Int) = I (lab b) then (0 : Int32) else 1 else 1) = bI ((mv || decide (lab a ≠ lab b)) = true) := by
    by_cases q1 : mv = true
    · rw [if_neg (fun q => bI0.mp q q1)]
      exact (bI1.mpr (by simp [q1])).symm
    · rw [if_pos (bI0.mpr q1)]
      by_cases q2 : lab a = lab b
      · rw [if_pos (by rw [q2])]
        exact (bI0.mpr (by simp [q1, q2])).symm
      · rw [if_neg (eq_n (by omega))]
        exact (bI1.mpr (by simp [q2])).symm
  refine ⟨se (se (si A 398 m (bI ((mv || decide (lab a ≠ lab b)) = true))) (m + 8) a (I (min (lab a) (lab b) : Nat))) (m + 8) b (I (min (lab a) (lab b) : Nat)), ?_, ?_, ?_, ?_⟩
  · unfold fX12_joins
    simp only [hM.rc, bs, hM.lb, hla, hlb, hg, jp_eq]
    have key : ∀ x : Int32, x = I ((min (lab a) (lab b) : Nat) : Int) → ∀ y : Int32, y = bI ((mv || decide (lab a ≠ lab b)) = true) → ((pZ A 13 398 (some m) y).bind fun A21 => (gR A21 13 397 (some m)).bind fun v22 => (sI A21 14 v22 (I a) x).bind fun A23 => (gR A23 13 397 (some m)).bind fun v24 => (sI A23 14 v24 (I b) x).bind fun A25 => some A25) = some (se (se (si A 398 m (bI ((mv || decide (lab a ≠ lab b)) = true))) (m + 8) a (I (min (lab a) (lab b) : Nat))) (m + 8) b (I (min (lab a) (lab b) : Nat))) := by
      intro x hx y hy
      subst hx; subst hy
      rw [pZ_bI hM.k, bs, (hM.si (f := 398) (a := m)).lb, bs, (hM.si (f := 398) (a := m)).lb_s (by omega) (by omega), bs, ((hM.si (f := 398) (a := m)).se).lb, bs, ((hM.si (f := 398) (a := m)).se).lb_s (by omega) (by omega), bs, ea, eb]
    by_cases q1 : I (lab b : Int) ≤ I (lab a)
    · rw [if_pos q1] at hmn ⊢
      by_cases q2 : bI (mv = true) = 0
      · rw [if_pos q2] at hmv ⊢
        by_cases q3 : I (lab a : Int) = I (lab b)
        · rw [if_pos q3] at hmv ⊢
          exact key _ hmn _ hmv
        · rw [if_neg q3] at hmv ⊢
          exact key _ hmn _ hmv
      · rw [if_neg q2] at hmv ⊢
        exact key _ hmn _ hmv
    · rw [if_neg q1] at hmn ⊢
      by_cases q2 : bI (mv = true) = 0
      · rw [if_pos q2] at hmv ⊢
        by_cases q3 : I (lab a : Int) = I (lab b)
        · rw [if_pos q3] at hmv ⊢
          exact key _ hmn _ hmv
        · rw [if_neg q3] at hmv ⊢
          exact key _ hmn _ hmv
      · rw [if_neg q2] at hmv ⊢
        exact key _ hmn _ hmv
  · exact (Ml.si.tr Ml.se).tr Ml.se
  · intro k hk
    rw [he_se, he_se, he_si, hl k hk]
    unfold jn
    split
    · rfl
    · split <;> rfl
  · rw [hi_se, hi_se, hi_si]
theorem M_startsLabels (hM : MI A m) (hn : n ≤ 32) : ∃ A', fX12_startsLabels A (some m) (I n) = some A' ∧ Ml m A A' ∧ LbS A' m n id := by
  unfold fX12_startsLabels
  rw [hM.rc, bs]
  refine for_eb n (fun j s => s.1 = I j ∧ Ml m A s.2 ∧ LbS s.2 m j id) (fun t => Ml m A t ∧ LbS t m n id) ⟨rfl, Ml.rf, fun k hk => by omega⟩ ?_ ?_ (fun t ht => ⟨t, rfl, ht⟩)
  · rintro j ⟨s1, s2⟩ hj ⟨e1, e2, e3⟩
    dsimp only at e1 e2 e3 ⊢
    subst e1
    have hM' := hM.ms e2.1
    refine ⟨(I (j + 1 : Nat), se s2 (m + 8) j (I j)), ?_, rfl, e2.tr Ml.se, fun k hk => ?_⟩
    · rw [if_neg (le_n (by omega)), hM'.lb, bs, hM'.lb_s (by omega) (by omega), bs, L_1, I_add, cst, Int.toNat_natCast]
    · rw [he_se]
      split
      · rename_i q; rw [q]; rfl
      · exact e3 k (by omega)
  · rintro ⟨s1, s2⟩ ⟨e1, e2, e3⟩
    dsimp only at e1 e2 e3 ⊢
    subst e1
    exact ⟨s2, by rw [if_pos (le_y (by omega))], e2, e3⟩
theorem M_heaps (hM : MI A m) (hn : n ≤ 32) (hl : LbS A m n lab) (hb : ∀ k, k < n → lab k < 1000) : fX12_heaps A (some m) (I n) = some (I (roots lab n)) := by
  unfold fX12_heaps
  rw [hM.rc, bs]
  refine for_b (fun j => (I (roots lab j), I j)) n (I (roots lab n)) rfl (fun j hj => ?_) ?_ rfl
  · have h1 := hb j hj
    have h2 := roots_le lab j
    dsimp only
    rw [if_neg (le_n (by omega)), hM.lb, bs, hM.lb_l (by omega) (by omega), bs, jp1_eq, Int.toNat_natCast, hl j hj]
    have hs : roots lab (j + 1) = roots lab j + (if lab j = j then 1 else 0) := rfl
    rw [hs]
    by_cases q : lab j = j
    · rw [if_pos (by rw [q]), if_pos q, L_1, I_add, I_add, cst, cst]
    · rw [if_neg (eq_n (by omega)), if_neg q, L_1, L_0, I_add, I_add, cst, Nat.add_zero, Int.add_zero]
  · dsimp only
    rw [if_pos (le_y (by omega))]
end LB
/-- the loop 'while something moves': a round goes over the pairs R -/
theorem whl_lab {β : Type} {m n : Nat} {R : List (Nat × Nat)} {Fr : AH → Prop} {b : AH → Option (AH ⊕ AH)} {K : AH → Option β} {Qr : β → Prop} (hR : ∀ q ∈ R, q.1 < n ∧ q.2 < n) (hn : n ≤ 32) {A1 : AH} (h1 : Fr A1) (h2 : LbS A1 m n id) (h3 : Hi A1 398 m = bI (true = true))
    (h0 : ∀ A, Hi A 398 m = bI (false = true) → Fr A → b A = some (.inr A))
    (hp : ∀ A lab, Fr A → Hi A 398 m = bI (true = true) → LbS A m n lab → (∀ k, k < n → lab k < 1000) → ∃ x, b A = some x ∧ ∃ A', x = .inl A' ∧ Fr A' ∧ LbS A' m n (jnl lab R) ∧ Hi A' 398 m = bI (mvl lab R = true))
    (hK : ∀ t lab, Fr t → LbS t m n lab → IsLab n R lab → ∃ r, K t = some r ∧ Qr r) : ∃ r, (iter b A1).bind K = some r ∧ Qr r := by
  have key : ∀ (f : Nat) (A : AH) (lab : Nat → Nat) (mv : Bool), Fr A → LbS A m n lab → (∀ k, k < n → lab k ≤ k) → (∀ k, k < n → Conn R (lab k) k) → Hi A 398 m = bI (mv = true) → (mv = false → ∀ q ∈ R, lab q.1 = lab q.2) → 2 * sumL lab n + (if mv then 1 else 0) ≤ f → ∃ t lab, itN b (f + 1) A = some t ∧ Fr t ∧ LbS t m n lab ∧ IsLab n R lab := by
    intro f
    induction f with
    | zero =>
      intro A lab mv g1 g2 g3 g4 g5 g6 g7
      cases mv with
      | true => simp at g7
      | false => exact ⟨A, lab, by unfold itN; rw [h0 A g5 g1], g1, g2, g3, g4, g6 rfl⟩
    | succ f ih =>
      intro A lab mv g1 g2 g3 g4 g5 g6 g7
      cases mv with
      | false => exact ⟨A, lab, by unfold itN; rw [h0 A g5 g1], g1, g2, g3, g4, g6 rfl⟩
      | true =>
        obtain ⟨x, q1, A', q0, q2, q3, q4⟩ := hp A lab g1 g5 g2 (fun k hk => by have := g3 k hk; omega)
        rw [q0] at q1
        have hcon := jnl_conn (S := R) (n := n) R lab (fun q hq => ⟨hq, hR q hq⟩) g4
        have hle := jnl_le R lab
        obtain ⟨t, lab', r1, r2⟩ := ih A' (jnl lab R) (mvl lab R) q2 q3 (fun k hk => Nat.le_trans (hle k) (g3 k hk)) hcon q4 (fun hmv q hq => by
          obtain ⟨z1, z2⟩ := mvl_no R lab hmv
          rw [z2]
          exact z1 q hq) (by
          cases hmv : mvl lab R with
          | false =>
            rw [(mvl_no R lab hmv).2]
            simp only [if_true] at g7
            simp
            omega
          | true =>
            have := mvl_sum (n := n) R lab hR hmv
            simp only [if_true] at g7 ⊢
            omega)
        exact ⟨t, lab', by unfold itN; rw [q1]; exact r1, r2⟩
  obtain ⟨t, lab, g1, g2, g3, g4⟩ := key _ A1 id true h1 h2 (fun k _ => Nat.le_refl _) (fun k _ => Conn.rf k) h3 (fun q => by cases q) (Nat.le_refl _)
  rw [iter_eq g1]
  exact hK t lab g2 g3 g4
