/-! indices of faces -/
theorem whl_rb {S T β : Type} {b : S → Option (S ⊕ T)} {K : T → Option β} {Qr : β → Prop} (Inv : Nat → S → Prop) (Post : T → Prop) (f0 : Nat) {s : S} (h0 : Inv f0 s) (step : ∀ f s, Inv f s → (∃ x, b s = some x ∧ ∃ s' f', x = .inl s' ∧ f' < f ∧ Inv f' s') ∨ (∃ t, b s = some (.inr t) ∧ Post t)) (hK : ∀ t, Post t → ∃ r, K t = some r ∧ Qr r) : ∃ r, (iter b s).bind K = some r ∧ Qr r := by
  have key : ∀ (g f : Nat) (s : S), f ≤ g → Inv f s → ∃ t, itN b (g + 1) s = some t ∧ Post t := by
    intro g
    induction g with
    | zero =>
      intro f s hf hi
      rcases step f s hi with ⟨x, h1, s', f', h2, h3, h4⟩ | ⟨t, h1, h2⟩
      · omega
      · exact ⟨t, by unfold itN; rw [h1], h2⟩
    | succ g ih =>
      intro f s hf hi
      rcases step f s hi with ⟨x, h1, s', f', h2, h3, h4⟩ | ⟨t, h1, h2⟩
      · obtain ⟨t, q1, q2⟩ := ih f' s' (by omega) h4
        exact ⟨t, by unfold itN; rw [h1, h2]; exact q1, q2⟩
      · exact ⟨t, by unfold itN; rw [h1], h2⟩
  obtain ⟨t, h1, h2⟩ := key f0 f0 s (Nat.le_refl _) h0
  rw [iter_eq h1]
  exact hK t h2
abbrev IS : Type := (Nat → Int32) × (Nat → Bool)
def tlm (a b : Nat) (s : IS) : Bool := s.2 a && !s.2 b
def tl (a b : Nat) (mo : Int32) (s : IS) : IS := if tlm a b s = true then (fun k => if k = b then s.1 a + mo else s.1 k, fun k => if k = b then true else s.2 k) else s
def ips (l r : Nat → Nat) : Nat → IS → IS
  | 0, s => s
  | i + 1, s => tl (r i) (l i) 1 (tl (l i) (r i) (-1) (ips l r i s))
def ipm (l r : Nat → Nat) : Nat → IS → Bool
  | 0, _ => false
  | i + 1, s => ipm l r i s || tlm (l i) (r i) (ips l r i s) || tlm (r i) (l i) (tl (l i) (r i) (-1) (ips l r i s))
def itp (l r : Nat → Nat) (n : Nat) : Nat → IS → IS
  | 0, s => s
  | k + 1, s => itp l r n k (ips l r n s)
theorem tl_no {a b : Nat} {mo : Int32} {s : IS} (h : tlm a b s = false) : tl a b mo s = s := if_neg (by rw [h]; decide)
theorem ipm_no (l r : Nat → Nat) : ∀ (n : Nat) (s : IS), ipm l r n s = false → ips l r n s = s
  | 0, s, _ => rfl
  | i + 1, s, h => by
    have h : (ipm l r i s || tlm (l i) (r i) (ips l r i s) || tlm (r i) (l i) (tl (l i) (r i) (-1) (ips l r i s))) = false := h
    simp only [Bool.or_eq_false_iff] at h
    show tl (r i) (l i) 1 (tl (l i) (r i) (-1) (ips l r i s)) = s
    rw [tl_no h.2, tl_no h.1.2]
    exact ipm_no l r i s h.1.1
theorem itp_fix {l r : Nat → Nat} {n : Nat} {s : IS} (h : ips l r n s = s) : ∀ k, itp l r n k s = s
  | 0 => rfl
  | k + 1 => by show itp l r n k (ips l r n s) = s; rw [h]; exact itp_fix h k
theorem itp_s (l r : Nat → Nat) (n : Nat) : ∀ (k : Nat) (s : IS), itp l r n (k + 1) s = ips l r n (itp l r n k s)
  | 0, s => rfl
  | k + 1, s => itp_s l r n k (ips l r n s)
theorem itp_add (l r : Nat → Nat) (n a : Nat) : ∀ (b : Nat) (s : IS), itp l r n (a + b) s = itp l r n a (itp l r n b s)
  | 0, s => rfl
  | b + 1, s => itp_add l r n a b (ips l r n s)
def kc (kn : Nat → Bool) : Nat → Nat
  | 0 => 0
  | n + 1 => kc kn n + (if kn n = true then 1 else 0)
theorem kc_le (kn : Nat → Bool) : ∀ n, kc kn n ≤ n
  | 0 => Nat.le_refl _
  | n + 1 => by
    have := kc_le kn n
    unfold kc
    split <;> omega
theorem kc_mono {k1 k2 : Nat → Bool} (h : ∀ k, k1 k = true → k2 k = true) : ∀ n, kc k1 n ≤ kc k2 n
  | 0 => Nat.le_refl _
  | n + 1 => by
    have := kc_mono h n
    unfold kc
    by_cases q : k1 n = true
    · rw [if_pos q, if_pos (h n q)]; omega
    · rw [if_neg q]; split <;> omega
theorem kc_lt {k1 k2 : Nat → Bool} (h : ∀ k, k1 k = true → k2 k = true) {b : Nat} (h1 : k1 b = false) (h2 : k2 b = true) : ∀ n, b < n → kc k1 n < kc k2 n
  | 0, q => by omega
  | n + 1, q => by
    have h3 := kc_mono h n
    unfold kc
    by_cases e : b = n
    · subst e
      rw [if_neg (by rw [h1]; decide), if_pos h2]; omega
    · have := kc_lt h h1 h2 n (by omega)
      by_cases q : k1 n = true
      · rw [if_pos q, if_pos (h n q)]; omega
      · rw [if_neg q]; split <;> omega
theorem tl_kn {a b : Nat} {mo : Int32} {s : IS} (k : Nat) (h : s.2 k = true) : (tl a b mo s).2 k = true := by
  unfold tl
  split
  · dsimp only; split
    · rfl
    · exact h
  · exact h
theorem ips_kn (l r : Nat → Nat) : ∀ (n : Nat) (s : IS) (k : Nat), s.2 k = true → (ips l r n s).2 k = true
  | 0, s, k, h => h
  | i + 1, s, k, h => tl_kn k (tl_kn k (ips_kn l r i s k h))
theorem tl_lt {a b K : Nat} {mo : Int32} {s : IS} (hb : b < K) (h : tlm a b s = true) : kc s.2 K < kc (tl a b mo s).2 K := by
  have h' := h
  unfold tlm at h'
  simp only [Bool.and_eq_true, Bool.not_eq_true'] at h'
  refine kc_lt (fun k hk => tl_kn k hk) h'.2 ?_ K hb
  unfold tl
  rw [if_pos h]
  dsimp only
  rw [if_pos rfl]
theorem tl_le {a b : Nat} {mo : Int32} {s : IS} (K : Nat) : kc s.2 K ≤ kc (tl a b mo s).2 K := kc_mono (fun k hk => tl_kn k hk) K
theorem ipm_lt {K : Nat} (l r : Nat → Nat) : ∀ (n : Nat) (s : IS), (∀ i, i < n → l i < K ∧ r i < K) → ipm l r n s = true → kc s.2 K < kc (ips l r n s).2 K
  | 0, s, _, h => by cases h
  | i + 1, s, hb, h => by
    have hi := hb i (by omega)
    have h : (ipm l r i s || tlm (l i) (r i) (ips l r i s) || tlm (r i) (l i) (tl (l i) (r i) (-1) (ips l r i s))) = true := h
    show kc s.2 K < kc (tl (r i) (l i) 1 (tl (l i) (r i) (-1) (ips l r i s))).2 K
    have m0 : kc s.2 K ≤ kc (ips l r i s).2 K := kc_mono (fun k hk => ips_kn l r i s k hk) K
    have m1 := tl_le (a := l i) (b := r i) (mo := -1) (s := ips l r i s) K
    have m2 := tl_le (a := r i) (b := l i) (mo := 1) (s := tl (l i) (r i) (-1) (ips l r i s)) K
    simp only [Bool.or_eq_true] at h
    rcases h with (h | h) | h
    · have := ipm_lt l r i s (fun j hj => hb j (by omega)) h; omega
    · have := tl_lt (mo := -1) hi.2 h; omega
    · have := tl_lt (mo := 1) hi.1 h; omega
def is0 : IS := (fun _ => 0, fun f => decide (f = 0))
/-- a step that writes indices and the mark alone -/
def Mx (m : Nat) (A A' : AH) : Prop := Ms m A A' ∧ (∀ a, a ≠ m + 9 → a ≠ m + 10 → He A' a = He A a) ∧ ∀ f a, ¬ (a = m ∧ f = 398) → Hi A' f a = Hi A f a
theorem Mx.rf {m : Nat} {A : AH} : Mx m A A := ⟨Ms.rf, fun _ _ _ => rfl, fun _ _ _ => rfl⟩
theorem Mx.tr {m : Nat} {A B C : AH} (h : Mx m A B) (g : Mx m B C) : Mx m A C := ⟨h.1.tr g.1, fun a ha hb => (g.2.1 a ha hb).trans (h.2.1 a ha hb), fun f a ha => (g.2.2 f a ha).trans (h.2.2 f a ha)⟩
theorem Mx.s9 {m i : Nat} {A : AH} {v : Int32} : Mx m A (se A (m + 9) i v) := ⟨Ms.se (by omega), fun a ha _ => he_se_ne ha, fun _ _ _ => rfl⟩
theorem Mx.s10 {m i : Nat} {A : AH} {v : Int32} : Mx m A (se A (m + 10) i v) := ⟨Ms.se (by omega), fun a _ ha => he_se_ne ha, fun _ _ _ => rfl⟩
theorem Mx.si {m : Nat} {A : AH} {v : Int32} : Mx m A (si A 398 m v) := ⟨Ms.si (by omega), fun _ _ _ => rfl, fun f a hf => up2_ne (fun q => hf ⟨q.2, q.1⟩)⟩
theorem Mx.lb {m n : Nat} {A B : AH} {lab : Nat → Nat} (h : Mx m A B) (hl : LbS A m n lab) : LbS B m n lab := fun k hk => by rw [h.2.1 (m + 8) (by omega) (by omega)]; exact hl k hk
def IXS (A : AH) (m K : Nat) (s : IS) : Prop := ∀ f, f < K → He A (m + 9) f = s.1 f ∧ He A (m + 10) f = bI (s.2 f = true)
section IX
variable {A : AH} {m t N K : Nat} {L P Q : Nat → Nat} {sg : Nat} {s : IS}
theorem M_tellsIndex (hM : MI A m) (hK : K ≤ 10) (hs : IXS A m K s) {a b : Nat} (ha : a < K) (hb : b < K) (mo : Int32) {mv : Bool} (hm : Hi A 398 m = bI (mv = true)) : ∃ A', fX12_tellsIndex A (some m) (I a) (I b) mo = some A' ∧ Mx m A A' ∧ IXS A' m K (tl a b mo s) ∧ Hi A' 398 m = bI ((mv || tlm a b s) = true) := by
  unfold fX12_tellsIndex tl tlm
  have ea : (a : Int).toNat = a := Int.toNat_natCast a
  have eb : (b : Int).toNat = b := Int.toNat_natCast b
  rw [hM.rc, bs, hM.ii, bs, hM.ii_l (by omega) (by omega), bs, ea, (hs a ha).2]
  by_cases h1 : s.2 a = true
  · rw [if_neg (fun q => bI0.mp q h1), bs, hM.ii_l (by omega) (by omega), bs, eb, (hs b hb).2]
    by_cases h2 : s.2 b = true
    · rw [if_neg (fun q => bI0.mp q h2)]
      exact ⟨A, rfl, Mx.rf, by simp [h1, h2]; exact hs, by simp [h1, h2]; exact hm⟩
    · have h2' : s.2 b = false := by simpa using h2
      rw [if_pos (bI0.mpr h2), hM.ix, bs, bs, hM.ix_l (by omega) (by omega), bs, hM.ix_s (by omega) (by omega), bs, (hM.se).ii, bs, (hM.se).ii_s (Or.inr rfl) (by omega) (by omega), bs, pZ_1 (MI.se (hM.se)).k, bs, ea, eb, (hs a ha).1]
      refine ⟨_, rfl, (Mx.s9.tr Mx.s10).tr Mx.si, fun f hf => ?_, ?_⟩
      · rw [he_si, he_se_ne (by omega : m + 9 ≠ m + 10), he_se, he_se, he_se_ne (by omega : m + 10 ≠ m + 9)]
        simp only [h1, h2', Bool.not_false, Bool.and_self, if_true]
        by_cases q : f = b
        · simp only [q, if_true]
          exact ⟨trivial, rfl⟩
        · simp only [q, if_false]
          exact hs f hf
      · rw [hi_si]; simp only [h1, h2', Bool.not_false, Bool.and_self, Bool.or_true]; rfl
  · rw [if_pos (bI0.mpr h1)]
    have h1' : s.2 a = false := by simpa using h1
    exact ⟨A, rfl, Mx.rf, by simp [h1']; exact hs, by simp [h1']; exact hm⟩
noncomputable def lfc (N : Nat) (L P : Nat → Nat) (sg i : Nat) : Nat := fno (fl N L P sg) (lC L P sg i)
noncomputable def rfc (N : Nat) (L P : Nat → Nat) (sg i : Nat) : Nat := fno (fl N L P sg) (rC L P sg i)
/-- the index of each face -/
noncomputable def ixF (N : Nat) (L P : Nat → Nat) (sg : Nat) : Nat → Int32 := if N = 0 then (fun f => if f = 1 then -1 else 0) else (itp (lfc N L P sg) (rfc N L P sg) (2 * N) (faces N L P sg) is0).1
theorem lrf_lt (hV : VW N L P Q) (hi : IsLab (4 * N) (fR N L P sg (2 * N)) (fl N L P sg)) {i : Nat} (h : i < 2 * N) : lfc N L P sg i < faces N L P sg ∧ rfc N L P sg i < faces N L P sg := by
  obtain ⟨h1, h2, -, -⟩ := cn_lt (sg := sg) hV h
  have e : faces N L P sg = roots (fl N L P sg) (4 * N) := by
    unfold faces
    rw [if_neg (by omega), ← comps_of hi]
  rw [e]
  exact ⟨fno_lt hi h1, fno_lt hi h2⟩
theorem M_laysIndices (hM : MI A m) (hW : WE A m t N L) (hV : VW N L P Q) (hS : SG A m t sg) (hF : faces N L P sg ≤ 10) : ∃ A', fX12_laysIndices A (some m) (I t) = some A' ∧ Ms m A A' ∧ Hi A' 399 m = I sg ∧ IsLab (4 * N) (fR N L P sg (2 * N)) (fl N L P sg) ∧ LbS A' m (4 * N) (fl N L P sg) ∧ ∀ f, f < faces N L P sg → He A' (m + 9) f = ixF N L P sg f := by
  have hN := hV.1
  have hsg := hS.2
  unfold fX12_laysIndices
  obtain ⟨r, h1, h2, h3, h4, h5⟩ := M_laysFaces hM hW hV (sg := sg) (by omega)
  have g : Ms m A r.2 := (Ms.si (by omega)).tr h3.1
  have hS2 : Hi r.2 399 m = I sg := by rw [h3.2.2 399 m (by omega)]; exact hi_si
  have hMr := hM.ms g
  have hWr := hW.ms g
  rw [hM.rc, bs, M_signsOf hM hW.1 hS, bs, h1, bs, h2]
  have hK1 : 1 ≤ faces N L P sg := by
    by_cases h0 : N = 0
    · unfold faces; rw [if_pos h0]; omega
    · have := (lrf_lt hV h4 (i := 0) (by omega)).1; omega
  obtain ⟨K, hKe⟩ : ∃ K, K = faces N L P sg := ⟨_, rfl⟩
  rw [← hKe] at hF hK1 ⊢
  refine for_eb K (fun j s => s.1 = I j ∧ Mx m r.2 s.2 ∧ IXS s.2 m j is0) (fun B => Mx m r.2 B ∧ IXS B m K is0) ⟨rfl, Mx.rf, fun f hf => by omega⟩ ?_ ?_ ?_
  · rintro j ⟨s1, s2⟩ hj ⟨e1, g1, x1⟩
    dsimp only at e1 g1 x1 ⊢
    subst e1
    have hM1 := hMr.ms g1.1
    have ev : (if I (j : Int) = 0 then (1 : Int32) else 0) = bI ((is0.2 j) = true) := by
      by_cases q : j = 0
      · rw [if_pos (by rw [q]; rfl)]; exact (bI1.mpr (by simp [is0, q])).symm
      · rw [if_neg (by rw [L_0]; exact eq_n (by omega))]; exact (bI0.mpr (by simp [is0, q])).symm
    rw [if_neg (le_n (by omega)), hM1.ii, bs, jp1_eq, ev, hM1.ii_s (by by_cases q : is0.2 j = true <;> simp [bI, q]) (by omega) (by omega), bs, (hM1.se).ix, bs, (hM1.se).ix_s (by omega) (by omega), bs, Int.toNat_natCast]
    refine ⟨_, rfl, by dsimp only; rw [L_1, I_add, ← cst], g1.tr (Mx.s10.tr Mx.s9), fun f hf => ?_⟩
    dsimp only
    rw [he_se, he_se_ne (by omega : m + 9 ≠ m + 10), he_se_ne (by omega : m + 10 ≠ m + 9), he_se]
    by_cases q : f = j
    · rw [if_pos q, if_pos q, q]; exact ⟨rfl, rfl⟩
    · rw [if_neg q, if_neg q]; exact x1 f (by omega)
  · rintro ⟨s1, s2⟩ ⟨e1, g1, x1⟩
    dsimp only at e1 g1 x1 ⊢
    subst e1
    exact ⟨_, by rw [if_pos (le_y (by omega))], g1, x1⟩
  · rintro B ⟨gB, xB⟩
    have hMB := hMr.ms gB.1
    rw [M_size hMB (hWr.ms gB.1), bs, jp_eq]
    have fin : ∀ (C : AH) (s0 : IS), Mx m r.2 C → IXS C m K s0 → (N = 0 → s0.1 = ixF N L P sg) → (N ≠ 0 → s0 = is0) → ∃ A', ((pZ C 13 398 (some m) 1).bind fun A20 => (iter (S := AH) (T := AH) (fun s21 => (gI s21 13 398 (some m)).bind fun v24 => if v24 = 0 then some (.inr s21) else (pZ s21 13 398 (some m) 0).bind fun A25 => (iter (S := Int32 × AH) (T := AH) (fun s26 => (fX12_size s26.2 (some m) (I t)).bind fun r29 => if (2 * r29) ≤ s26.1 then some (.inr s26.2) else (fX12_leftCorner s26.2 (some m) (I t) s26.1).bind fun r30 => (fX12_faceOf s26.2 (some m) r30).bind fun r31 => (fX12_rightCorner s26.2 (some m) (I t) s26.1).bind fun r32 => (fX12_faceOf s26.2 (some m) r32).bind fun r33 => (fX12_tellsIndex s26.2 (some m) r31 r33 (-1)).bind fun r34 => (fX12_tellsIndex r34 (some m) r33 r31 1).bind fun r35 => some (.inl ((s26.1 + 1), r35))) (0, A25)).bind fun t27 => some (.inl t27)) A20).bind fun t22 => some t22) = some A' ∧ Ms m A A' ∧ Hi A' 399 m = I sg ∧ IsLab (4 * N) (fR N L P sg (2 * N)) (fl N L P sg) ∧ LbS A' m (4 * N) (fl N L P sg) ∧ ∀ f, f < K → He A' (m + 9) f = ixF N L P sg f := by
      intro C s0 gC xC hz hnz
      rw [pZ_1 (hMr.ms gC.1).k, bs]
      have pass : ∀ (B : AH) (s : IS), Mx m r.2 B → IXS B m K s → ∃ x, (iter (S := Int32 × AH) (T := AH) (fun s26 => (fX12_size s26.2 (some m) (I t)).bind fun r29 => if (2 * r29) ≤ s26.1 then some (.inr s26.2) else (fX12_leftCorner s26.2 (some m) (I t) s26.1).bind fun r30 => (fX12_faceOf s26.2 (some m) r30).bind fun r31 => (fX12_rightCorner s26.2 (some m) (I t) s26.1).bind fun r32 => (fX12_faceOf s26.2 (some m) r32).bind fun r33 => (fX12_tellsIndex s26.2 (some m) r31 r33 (-1)).bind fun r34 => (fX12_tellsIndex r34 (some m) r33 r31 1).bind fun r35 => some (.inl ((s26.1 + 1), r35))) (0, si B 398 m 0)).bind (fun t27 => (some (.inl t27) : Option (AH ⊕ AH))) = some x ∧ ∃ A', x = .inl A' ∧ Mx m r.2 A' ∧ IXS A' m K (ips (lfc N L P sg) (rfc N L P sg) (2 * N) s) ∧ Hi A' 398 m = bI (ipm (lfc N L P sg) (rfc N L P sg) (2 * N) s = true) := by
        intro B s gB xB
        refine for_eb (2 * N) (fun i u => u.1 = I i ∧ Mx m r.2 u.2 ∧ IXS u.2 m K (ips (lfc N L P sg) (rfc N L P sg) i s) ∧ Hi u.2 398 m = bI (ipm (lfc N L P sg) (rfc N L P sg) i s = true)) (fun A' => Mx m r.2 A' ∧ IXS A' m K (ips (lfc N L P sg) (rfc N L P sg) (2 * N) s) ∧ Hi A' 398 m = bI (ipm (lfc N L P sg) (rfc N L P sg) (2 * N) s = true)) ⟨rfl, gB.tr Mx.si, xB, hi_si⟩ ?_ ?_ (fun t ht => ⟨_, rfl, t, rfl, ht⟩)
        · rintro i ⟨u1, u2⟩ hi ⟨e1, g1, x1, m1⟩
          dsimp only at e1 g1 x1 m1 ⊢
          subst e1
          have hM1 := hMr.ms g1.1
          have hW1 := hWr.ms g1.1
          have hS1 : Hi u2 399 m = I sg := by rw [g1.2.2 399 m (by omega)]; exact hS2
          have hl1 := g1.lb h5
          obtain ⟨c1, c2, -, -⟩ := cn_lt (sg := sg) hV hi
          obtain ⟨f1, f2⟩ := lrf_lt hV h4 hi
          rw [← hKe] at f1 f2
          obtain ⟨B1, q1, q2, q3, q4⟩ := M_tellsIndex hM1 hF x1 f1 f2 (-1) m1
          obtain ⟨B2, p1, p2, p3, p4⟩ := M_tellsIndex (hM1.ms q2.1) hF q3 f2 f1 1 q4
          have z1 : fX12_faceOf u2 (some m) (I (lC L P sg i : Nat)) = some (I (lfc N L P sg i)) := M_faceOf hM1 (by omega) hl1 h4 c1
          have z2 : fX12_faceOf u2 (some m) (I (rC L P sg i : Nat)) = some (I (rfc N L P sg i)) := M_faceOf hM1 (by omega) hl1 h4 c2
          rw [M_size hM1 hW1, bs, L_2, I_mul, if_neg (le_n (by omega)), M_lC hM1 hW1 hV hS1 (by omega) hi, bs, z1, bs, M_rC hM1 hW1 hV hS1 (by omega) hi, bs, z2, bs, q1, bs, p1, bs]
          refine ⟨_, rfl, by dsimp only; rw [L_1, I_add, ← cst], g1.tr (q2.tr p2), p3, p4⟩
        · rintro ⟨u1, u2⟩ ⟨e1, g1, x1, m1⟩
          dsimp only at e1 g1 x1 m1 ⊢
          subst e1
          exact ⟨_, by rw [M_size (hMr.ms g1.1) (hWr.ms g1.1), bs, L_2, I_mul, if_pos (le_y (by omega))], g1, x1, m1⟩
      refine whl_rb (fun f B => ∃ (s : IS) (mv : Bool) (j : Nat), Mx m r.2 B ∧ IXS B m K s ∧ s = itp (lfc N L P sg) (rfc N L P sg) (2 * N) j s0 ∧ j ≤ kc s.2 K ∧ Hi B 398 m = bI (mv = true) ∧ (mv = false → ips (lfc N L P sg) (rfc N L P sg) (2 * N) s = s) ∧ f = 2 * (K - kc s.2 K) + (if mv then 1 else 0)) (fun B => Mx m r.2 B ∧ ∀ f, f < K → He B (m + 9) f = ixF N L P sg f) _ ⟨s0, true, 0, gC.tr Mx.si, xC, rfl, Nat.zero_le _, hi_si, (fun q => by cases q), rfl⟩ ?_ ?_
      · rintro f B ⟨s, mv, j, gB, xB, es, hj, hm, hfx, hf⟩
        have hMB := hMr.ms gB.1
        have hkc := kc_le s.2 K
        rw [gI_ok hMB.k, bs, hm]
        cases mv with
        | false =>
          right
          rw [if_pos bI_f]
          refine ⟨_, rfl, gB, fun f hf => ?_⟩
          rw [(xB f hf).1]
          unfold ixF
          by_cases h0 : N = 0
          · rw [if_pos h0]
            have e0 : s = s0 := by
              rw [es]
              exact itp_fix (by rw [h0]; rfl) j
            have := hz h0
            unfold ixF at this
            rw [if_pos h0] at this
            rw [e0, this]
          · rw [if_neg h0, ← hKe]
            have e1 : itp (lfc N L P sg) (rfc N L P sg) (2 * N) K is0 = s := by
              rw [show K = (K - j) + j by omega, itp_add, ← hnz h0, ← es]
              exact itp_fix (hfx rfl) _
            rw [e1]
        | true =>
          left
          rw [if_neg (by decide), pZ_0 hMB.k, bs]
          obtain ⟨x, q1, B', q2, q3, q4, q5⟩ := pass B s gB xB
          refine ⟨x, q1, B', 2 * (K - kc (ips (lfc N L P sg) (rfc N L P sg) (2 * N) s).2 K) + (if ipm (lfc N L P sg) (rfc N L P sg) (2 * N) s then 1 else 0), q2, ?_, ips (lfc N L P sg) (rfc N L P sg) (2 * N) s, ipm (lfc N L P sg) (rfc N L P sg) (2 * N) s, ?_⟩
          · cases hmv : ipm (lfc N L P sg) (rfc N L P sg) (2 * N) s with
            | false =>
              have e := ipm_no _ _ _ _ hmv
              rw [e, hf]
              simp
            | true =>
              have hlt := ipm_lt (K := K) _ _ _ _ (fun i hi => by rw [hKe]; exact lrf_lt hV h4 hi) hmv
              have := kc_le (ips (lfc N L P sg) (rfc N L P sg) (2 * N) s).2 K
              rw [hf]
              simp only [if_true]
              omega
          · cases hmv : ipm (lfc N L P sg) (rfc N L P sg) (2 * N) s with
            | false =>
              have e := ipm_no _ _ _ _ hmv
              rw [hmv] at q5
              refine ⟨j, q3, q4, by rw [e]; exact es, by rw [e]; exact hj, q5, fun _ => by rw [e]; exact e, rfl⟩
            | true =>
              have hlt := ipm_lt (K := K) _ _ _ _ (fun i hi => by rw [hKe]; exact lrf_lt hV h4 hi) hmv
              rw [hmv] at q5
              exact ⟨j + 1, q3, q4, by rw [itp_s, ← es], by omega, q5, (fun q => by cases q), rfl⟩
      · rintro B ⟨gB, xB⟩
        exact ⟨B, rfl, g.tr gB.1, by rw [gB.2.2 399 m (by omega)]; exact hS2, h4, gB.lb h5, xB⟩
    by_cases h0 : N = 0
    · rw [if_pos (by rw [h0]; rfl), hMB.ix, bs, L_1, hMB.ix_s (by omega) (by omega), bs]
      refine fin (se B (m + 9) 1 (-1)) (fun f => if f = 1 then -1 else 0, is0.2) (gB.tr Mx.s9) (fun f hf => ?_) (fun _ => by unfold ixF; rw [if_pos h0]) (fun q => absurd h0 q)
      rw [he_se, he_se_ne (by omega : m + 10 ≠ m + 9)]
      refine ⟨?_, (xB f hf).2⟩
      dsimp only
      by_cases q : f = 1
      · rw [if_pos q, if_pos q]
      · rw [if_neg q, if_neg q]; exact (xB f hf).1
    · rw [if_neg (by rw [L_0]; exact eq_n (by omega))]
      exact fin B is0 gB xB (fun q => absurd q h0) (fun _ => rfl)
end IX
