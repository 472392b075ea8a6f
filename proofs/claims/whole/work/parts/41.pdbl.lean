/-! a row in which each value stands twice gives a word -/
def occ (D : Nat → Nat) (v : Nat) : Nat → Nat
  | 0 => 0
  | n + 1 => occ D v n + (if D n = v then 1 else 0)
def Dbl (D : Nat → Nat) (n : Nat) : Prop := ∀ i, i < n → occ D (D i) n = 2
def sumN (f : Nat → Nat) : Nat → Nat
  | 0 => 0
  | n + 1 => sumN f n + f n
def cn (D : Nat → Nat) : Nat → Nat := sumN (fun j => if fr0 D (D j) j = false then 1 else 0)
theorem sumN_c {f g : Nat → Nat} : ∀ {n : Nat}, (∀ j, j < n → f j = g j) → sumN f n = sumN g n
  | 0, _ => rfl
  | n + 1, h => by
    show sumN f n + f n = sumN g n + g n
    rw [sumN_c (fun j hj => h j (by omega)), h n (by omega)]
theorem sumN_add {f g : Nat → Nat} : ∀ n, sumN (fun j => f j + g j) n = sumN f n + sumN g n
  | 0 => rfl
  | n + 1 => by
    show sumN (fun j => f j + g j) n + (f n + g n) = sumN f n + f n + (sumN g n + g n)
    rw [sumN_add n]; omega
theorem sumN_0 : ∀ n, sumN (fun _ => 0) n = 0
  | 0 => rfl
  | n + 1 => by show sumN (fun _ => 0) n + 0 = 0; rw [sumN_0 n]
theorem sumN_mono {f : Nat → Nat} {a : Nat} : ∀ d, sumN f a ≤ sumN f (a + d)
  | 0 => Nat.le_refl _
  | d + 1 => Nat.le_trans (sumN_mono d) (Nat.le_add_right _ _)
theorem fr0_s (D : Nat → Nat) (v n : Nat) : fr0 D v (n + 1) = (fr0 D v n || decide (D n = v)) := rfl
theorem one_new (D : Nat → Nat) (v : Nat) : ∀ n, sumN (fun j => if fr0 D (D j) j = false ∧ D j = v then 1 else 0) n = if fr0 D v n = true then 1 else 0
  | 0 => rfl
  | n + 1 => by
    show sumN _ n + (if fr0 D (D n) n = false ∧ D n = v then 1 else 0) = _
    rw [one_new D v n, fr0_s]
    by_cases e : D n = v
    · subst e
      cases q : fr0 D (D n) n <;> simp
    · rw [decide_eq_false e, Bool.or_false, if_neg (c := fr0 D (D n) n = false ∧ D n = v) (fun z => e z.2), Nat.add_zero]
theorem all_new (D : Nat → Nat) (n : Nat) : ∀ k, k ≤ n → sumN (fun j => if fr0 D (D j) j = false then occ D (D j) k else 0) n = k
  | 0, _ => by
    rw [sumN_c (g := fun _ => 0) (fun j _ => by split <;> rfl), sumN_0]
  | k + 1, h => by
    have ih := all_new D n k (by omega)
    have e : sumN (fun j => if fr0 D (D j) j = false then occ D (D j) (k + 1) else 0) n = sumN (fun j => (if fr0 D (D j) j = false then occ D (D j) k else 0) + (if fr0 D (D j) j = false ∧ D j = D k then 1 else 0)) n := by
      refine sumN_c (fun j _ => ?_)
      show (if fr0 D (D j) j = false then occ D (D j) k + (if D k = D j then 1 else 0) else 0) = _
      by_cases q : fr0 D (D j) j = false
      · rw [if_pos q, if_pos q]
        by_cases z : D k = D j
        · rw [if_pos z, if_pos ⟨q, z.symm⟩]
        · rw [if_neg z, if_neg (fun y => z y.2.symm)]
      · rw [if_neg q, if_neg q, if_neg (fun y => q y.1)]
    rw [e, sumN_add, ih, one_new, if_pos (fr0_iff.mpr ⟨k, by omega, rfl⟩)]
theorem cn_half {D : Nat → Nat} {n : Nat} (h : Dbl D n) : 2 * cn D n = n := by
  have h1 := all_new D n n (Nat.le_refl _)
  have h2 : sumN (fun j => if fr0 D (D j) j = false then occ D (D j) n else 0) n = sumN (fun j => (if fr0 D (D j) j = false then 1 else 0) + (if fr0 D (D j) j = false then 1 else 0)) n := by
    refine sumN_c (fun j hj => ?_)
    rw [h j hj]
    split <;> rfl
  rw [h2, sumN_add] at h1
  unfold cn
  omega
theorem nn_cn {D : Nat → Nat} {v : Nat} : ∀ {n : Nat}, fr0 D v n = false → nn D v n = cn D n
  | 0, _ => rfl
  | n + 1, h => by
    have h' := h
    rw [fr0_s, Bool.or_eq_false_iff] at h'
    show nn D v n + (if fr0 D (D n) n = false ∧ fr0 D v (n + 1) = false then 1 else 0) = cn D n + (if fr0 D (D n) n = false then 1 else 0)
    rw [nn_cn h'.1, h]
    by_cases q : fr0 D (D n) n = false
    · rw [if_pos ⟨q, rfl⟩, if_pos q]
    · rw [if_neg (fun z => q z.1), if_neg q]
/-- the number of a place is how many new values come before its value first does -/
theorem nn_first {D : Nat → Nat} {i : Nat} : ∃ f, f ≤ i ∧ D f = D i ∧ fr0 D (D f) f = false ∧ nn D (D i) i = cn D f := by
  obtain ⟨f, f1, f2, f3⟩ := least_ex (p := fun j => D j = D i) i rfl
  have hf : fr0 D (D i) f = false := fr0_n.mpr f3
  refine ⟨f, f1, f2, by rw [f2]; exact hf, ?_⟩
  have := nn_stop f2 (i - f)
  rw [show f + (i - f) = i by omega] at this
  rw [this, nn_cn hf]
theorem cnw_lt {D : Nat → Nat} {f g : Nat} (hf : fr0 D (D f) f = false) (h : f < g) : cn D f < cn D g := by
  have h1 : cn D (f + 1) = cn D f + (if fr0 D (D f) f = false then 1 else 0) := rfl
  rw [if_pos hf] at h1
  have h2 : cn D (f + 1) ≤ cn D (f + 1 + (g - (f + 1))) := sumN_mono (g - (f + 1))
  rw [show f + 1 + (g - (f + 1)) = g by omega] at h2
  omega
theorem nn_inj {D : Nat → Nat} {i j : Nat} : nn D (D i) i = nn D (D j) j ↔ D i = D j := by
  obtain ⟨f, f1, f2, f3, f4⟩ := nn_first (D := D) (i := i)
  obtain ⟨g, g1, g2, g3, g4⟩ := nn_first (D := D) (i := j)
  rw [f4, g4]
  constructor
  · intro e
    rcases Nat.lt_trichotomy f g with h | h | h
    · have := cnw_lt f3 h; omega
    · rw [← f2, ← g2, h]
    · have := cnw_lt g3 h; omega
  · intro e
    rcases Nat.lt_trichotomy f g with h | h | h
    · exact absurd (by rw [f2, g2, e]) (fr0_n.mp g3 f h)
    · rw [h]
    · exact absurd (by rw [f2, g2, e]) (fr0_n.mp f3 g h)
theorem cn_hit {D : Nat → Nat} : ∀ {n c : Nat}, c < cn D n → ∃ f, f < n ∧ fr0 D (D f) f = false ∧ cn D f = c
  | 0, c, h => absurd h (Nat.not_lt_zero c)
  | n + 1, c, h => by
    by_cases q : c < cn D n
    · obtain ⟨f, f1, f2, f3⟩ := cn_hit q
      exact ⟨f, by omega, f2, f3⟩
    · have h1 : cn D (n + 1) = cn D n + (if fr0 D (D n) n = false then 1 else 0) := rfl
      by_cases z : fr0 D (D n) n = false
      · rw [if_pos z] at h1
        exact ⟨n, by omega, z, by omega⟩
      · rw [if_neg z] at h1
        omega
theorem occ_last {D : Nat → Nat} {v k : Nat} : ∀ {n : Nat}, occ D v n = k + 1 → ∃ g, g < n ∧ D g = v ∧ occ D v g = k ∧ ∀ i, g < i → i < n → D i ≠ v
  | 0, h => by cases h
  | n + 1, h => by
    have h' : occ D v n + (if D n = v then 1 else 0) = k + 1 := h
    by_cases q : D n = v
    · rw [if_pos q] at h'
      exact ⟨n, by omega, q, by omega, fun i h1 h2 => by omega⟩
    · rw [if_neg q] at h'
      obtain ⟨g, g1, g2, g3, g4⟩ := occ_last (n := n) (by omega)
      refine ⟨g, by omega, g2, g3, fun i h1 h2 => ?_⟩
      by_cases e : i = n
      · rw [e]; exact q
      · exact g4 i h1 (by omega)
theorem occ_0 {D : Nat → Nat} {v : Nat} : ∀ {n : Nat}, occ D v n = 0 → ∀ i, i < n → D i ≠ v
  | 0, _, i, hi => by omega
  | n + 1, h, i, hi => by
    have h' : occ D v n + (if D n = v then 1 else 0) = 0 := h
    by_cases e : i = n
    · rw [e]
      intro q
      rw [if_pos q] at h'
      omega
    · exact occ_0 (n := n) (by omega) i (by omega)
theorem VW_mk {N : Nat} {L : Nat → Nat} (hN : N ≤ 8) (h1 : ∀ i, i < 2 * N → L i < N) (h2 : ∀ c, c < N → ∃ p q, p < q ∧ q < 2 * N ∧ L p = c ∧ L q = c ∧ ∀ i, i < 2 * N → L i = c → i = p ∨ i = q) (sg : Nat) : VW N L (wP (N, L, sg)) (wQ (N, L, sg)) := by
  have key : ∀ c, c < N → ∃ p q, p < q ∧ q < 2 * N ∧ L p = c ∧ L q = c ∧ (∀ i, i < 2 * N → L i = c → i = p ∨ i = q) ∧ wP (N, L, sg) c = p ∧ wQ (N, L, sg) c = q := by
    intro c hc
    obtain ⟨p, q, e1, e2, e3, e4, e5⟩ := h2 c hc
    refine ⟨p, q, e1, e2, e3, e4, e5, ?_, ?_⟩
    · unfold wP
      show (fpl L c (2 * N)).toNat = p
      rw [fpl_at L c p e3 (fun j hj q' => by have := e5 j (by omega) q'; omega), if_pos (by omega)]
      omega
    · unfold wQ
      show (lpl L c (2 * N)).toNat = q
      rw [lpl_at L c q e4 (2 * N) e2 (fun j hj hn q' => by have := e5 j hn q'; omega)]
      omega
  refine ⟨hN, fun c hc => ?_, fun i hi => ⟨h1 i hi, ?_⟩⟩
  · obtain ⟨p, q, e1, e2, e3, e4, e5, e6, e7⟩ := key c hc
    rw [e6, e7]
    exact ⟨e1, e2, e3, e4⟩
  · obtain ⟨p, q, e1, e2, e3, e4, e5, e6, e7⟩ := key (L i) (h1 i hi)
    rw [e6, e7]
    exact e5 i hi rfl
theorem wMade_ok {D : Nat → Nat} {n : Nat} (hn : n ≤ 16) (h : Dbl D n) : WOK (wMade D n) := by
  have hc := cn_half h
  have hN : n / 2 = cn D n := by omega
  refine ⟨?_, Nat.two_pow_pos _⟩
  refine VW_mk (N := n / 2) (L := fun i => nn D (D i) i) (by omega) (fun i hi => ?_) (fun c hcN => ?_) 0
  · obtain ⟨f, f1, f2, f3, f4⟩ := nn_first (D := D) (i := i)
    show nn D (D i) i < n / 2
    rw [f4, hN]
    exact cnw_lt f3 (by omega)
  · obtain ⟨f, f1, f2, f3⟩ := cn_hit (D := D) (n := n) (c := c) (by omega)
    obtain ⟨g, g1, g2, g3, g4⟩ := occ_last (h f f1)
    obtain ⟨p, p1, p2, p3, p4⟩ := occ_last g3
    have p0 := occ_0 p3
    have hnf : nn D (D f) f = c := by rw [nn_cn f2, f3]
    have hp : nn D (D p) p = c := by rw [← hnf]; exact nn_inj.mpr p2
    have hg : nn D (D g) g = c := by rw [← hnf]; exact nn_inj.mpr g2
    refine ⟨p, g, p1, by omega, hp, hg, fun i hi e => ?_⟩
    have e : nn D (D i) i = c := e
    rw [← hnf] at e
    have e := nn_inj.mp e
    rcases Nat.lt_trichotomy i p with z | z | z
    · exact absurd e (p0 i z)
    · exact Or.inl z
    · rcases Nat.lt_trichotomy i g with y | y | y
      · exact absurd e (p4 i z y)
      · exact Or.inr y
      · exact absurd e (g4 i y (by omega))
