/-! numbers of faces, sizes, indices in the reference -/
theorem srch_eb {S T β : Type} {b : S → Option (S ⊕ T)} {K : T → Option β} {Qr : β → Prop} (n : Nat) (G : Nat → S → Prop) (Post : T → Prop) {s : S} (h0 : G 0 s) (hs : ∀ j s, j < n → G j s → (∃ s', b s = some (.inl s') ∧ G (j + 1) s') ∨ (∃ t, b s = some (.inr t) ∧ Post t)) (he : ∀ s, G n s → ∃ t, b s = some (.inr t) ∧ Post t) (hK : ∀ t, Post t → ∃ r, K t = some r ∧ Qr r) : ∃ r, (iter b s).bind K = some r ∧ Qr r := by
  have key : ∀ (f j : Nat) (s : S), j + f = n → G j s → ∃ t, itN b (f + 1) s = some t ∧ Post t := by
    intro f
    induction f with
    | zero =>
      intro j s hj hg
      obtain ⟨t, h1, h2⟩ := he s (by rw [← hj]; exact hg)
      exact ⟨t, by unfold itN; rw [h1], h2⟩
    | succ f ih =>
      intro j s hj hg
      rcases hs j s (by omega) hg with ⟨s', h1, h2⟩ | ⟨t, h1, h2⟩
      · obtain ⟨t, h3, h4⟩ := ih (j + 1) s' (by omega) h2
        exact ⟨t, by unfold itN; rw [h1]; exact h3, h4⟩
      · exact ⟨t, by unfold itN; rw [h1], h2⟩
  obtain ⟨t, h1, h2⟩ := key n 0 s (by omega) h0
  rw [iter_eq h1]
  exact hK t h2
theorem for_bx {S T β : Type} {b : S → Option (S ⊕ T)} {K : T → Option β} {Qr : β → Prop} (st : Nat → S) (n : Nat) (t : T) {s : S} (h0 : s = st 0) (hs : ∀ j, j < n → b (st j) = some (.inl (st (j + 1)))) (he : b (st n) = some (.inr t)) (hK : ∃ r, K t = some r ∧ Qr r) : ∃ r, (iter b s).bind K = some r ∧ Qr r := by
  rw [iter_for st n h0 hs he]
  exact hK
theorem dwn_stay (N : Nat) (L P : Nat → Nat) {j : Nat} (h : dwn N L P j ≠ -1) : ∀ d, dwn N L P (j + d) = dwn N L P j
  | 0 => rfl
  | d + 1 => by
    have ih := dwn_stay N L P h d
    show (if dwn N L P (j + d) = -1 ∧ _ then _ else dwn N L P (j + d)) = _
    rw [if_neg (fun q => h (ih ▸ q.1))]
    exact ih
def fno (lab : Nat → Nat) (c : Nat) : Nat := roots lab (lab c)
theorem roots_s (lab : Nat → Nat) (n : Nat) : roots lab (n + 1) = roots lab n + (if lab n = n then 1 else 0) := rfl
theorem roots_mono (lab : Nat → Nat) {a : Nat} : ∀ d, roots lab a ≤ roots lab (a + d)
  | 0 => Nat.le_refl _
  | d + 1 => by
    have := roots_mono lab (a := a) d
    rw [← Nat.add_assoc, roots_s]
    omega
theorem IsLab.idem {n : Nat} {R : List (Nat × Nat)} {lab : Nat → Nat} (h : IsLab n R lab) {k : Nat} (hk : k < n) : lab (lab k) = lab k := h.cst (h.2.1 k hk)
theorem fno_lt {n : Nat} {R : List (Nat × Nat)} {lab : Nat → Nat} (h : IsLab n R lab) {k : Nat} (hk : k < n) : fno lab k < roots lab n := by
  have h1 := h.1 k hk
  have h2 := h.idem hk
  have h3 := roots_mono lab (a := lab k + 1) (n - (lab k + 1))
  rw [show lab k + 1 + (n - (lab k + 1)) = n by omega, roots_s, if_pos h2] at h3
  unfold fno
  omega
/-- how many of k < n have f k = x -/
def hit (f : Nat → Nat) (x : Nat) : Nat → Nat
  | 0 => 0
  | n + 1 => hit f x n + (if f n = x then 1 else 0)
theorem hit_le (f : Nat → Nat) (x : Nat) : ∀ n, hit f x n ≤ n
  | 0 => Nat.le_refl _
  | n + 1 => by
    have := hit_le f x n
    unfold hit
    split <;> omega
theorem hit_s (f : Nat → Nat) (x n : Nat) : hit f x (n + 1) = hit f x n + (if f n = x then 1 else 0) := rfl
/-- signs of word t -/
def SG (A : AH) (m t sg : Nat) : Prop := He A (m + 1) (1 + 18 * t + 1) = I sg ∧ sg < 256
theorem SG.ms {A A' : AH} {m t sg : Nat} (h : SG A m t sg) (g : Ms m A A') : SG A' m t sg := by
  unfold SG
  rw [g.2.2.2.2.2.2.1 (m + 1) (by omega)]
  exact h
section FN
variable {A : AH} {m t N : Nat} {L P Q : Nat → Nat} {sg : Nat} {lab : Nat → Nat} {n : Nat} {R : List (Nat × Nat)}
theorem M_drawn (hM : MI A m) (hW : WE A m t N L) (hV : VW N L P Q) : ∃ r, fX12_drawn A (some m) (I t) = some r ∧ r.1 = I (dwn N L P (2 ^ N)) ∧ Ms m A r.2 := by
  have hN := hV.1
  have h2 := p2_lt hN
  unfold fX12_drawn
  rw [hM.rc, bs]
  refine srch_eb (2 ^ N) (fun j s => s.1 = I j ∧ Ms m A s.2 ∧ dwn N L P j = -1) (itM (fun B => Ms m A B ∧ dwn N L P (2 ^ N) = -1) (fun r => r.1 = I (dwn N L P (2 ^ N)) ∧ Ms m A r.2)) ⟨rfl, Ms.rf, rfl⟩ ?_ ?_ ?_
  · rintro j ⟨s1, s2⟩ hj ⟨e1, g, e3⟩
    dsimp only at e1 g e3 ⊢
    subst e1
    obtain ⟨r, q1, q2, q3, -⟩ := M_isPlane (hM.ms g) (hW.ms g) hV (sg := j) (by omega)
    have gr : Ms m A r.2 := g.tr ((Ms.si (by omega)).tr q3.1)
    rw [M_size (hM.ms g) (hW.ms g), bs, I_shl1 (by omega), if_neg (le_n (by omega)), q1, bs, q2]
    by_cases z : faces N L P j = N + 2
    · right
      rw [if_neg (fun q => bI0.mp q z)]
      have hd : dwn N L P (j + 1) = j := if_pos ⟨e3, z⟩
      have hx := dwn_stay N L P (j := j + 1) (by rw [hd]; omega) (2 ^ N - (j + 1))
      rw [show j + 1 + (2 ^ N - (j + 1)) = 2 ^ N by omega] at hx
      exact ⟨_, rfl, by dsimp only; rw [hx, hd], gr⟩
    · left
      rw [if_pos (bI0.mpr z)]
      exact ⟨_, rfl, by dsimp only; rw [L_1, I_add, ← cst], gr, (if_neg (fun q => z q.2)).trans e3⟩
  · rintro ⟨s1, s2⟩ ⟨e1, g, e3⟩
    dsimp only at e1 g e3 ⊢
    subst e1
    exact ⟨.inl s2, by rw [M_size (hM.ms g) (hW.ms g), bs, I_shl1 (by omega), if_pos (le_y ⟨Bd_n (by omega), Bd_n (by omega), Int.le_refl _⟩)], g, e3⟩
  · rintro (B | r) ht
    · exact ⟨(-1, B), rfl, by rw [ht.2]; rfl, ht.1⟩
    · exact ⟨r, rfl, ht.1, ht.2⟩
theorem M_signsOf (hM : MI A m) (ht : t < 6) (hS : SG A m t sg) : fX12_signsOf A (some m) (I t) = some (I sg) := by
  unfold fX12_signsOf
  simp only [hM.rc, bs, hM.w, L_0, L_1, L_2, L_3, L_4, L_5, L_6, L_7, L_8, L_9, L_10, L_11, L_12, L_13, L_14, L_16, L_18, L_19, L_20, L_31, L_32, L_97, L_100, L_109, L_122, L_255, L_320, L_327, L_1635, L_2071, L_65536, L_1000000001, L_1000000002, L_1000000003, L_1000000004, I_add, I_sub, I_mul, I_neg]
  rw [hM.w_l (by omega) (by omega), bs, ← hS.1]
  congr 2
theorem M_faceOf (hM : MI A m) (hn : n ≤ 32) (hl : LbS A m n lab) (hi : IsLab n R lab) {c : Nat} (hc : c < n) : fX12_faceOf A (some m) (I c) = some (I (fno lab c)) := by
  have h1 := hi.1 c hc
  unfold fX12_faceOf
  rw [hM.rc, bs]
  refine for_b (fun j => (I (roots lab j), I j)) (lab c) (I (fno lab c)) rfl (fun j hj => ?_) ?_ rfl
  · have h2 := hi.1 j (by omega)
    have h3 := roots_le lab j
    dsimp only
    rw [hM.lb, bs, hM.lb_l (by omega) (by omega), bs, Int.toNat_natCast, hl c hc, if_neg (le_n (by omega)), bs, hM.lb_l (by omega) (by omega), bs, jp1_eq, Int.toNat_natCast, hl j (by omega), roots_s]
    by_cases q : lab j = j
    · rw [if_pos (by rw [q]), if_pos q, L_1, I_add, I_add, cst, cst]
    · rw [if_neg (eq_n (by omega)), if_neg q, L_1, L_0, I_add, I_add, cst, Nat.add_zero, Int.add_zero]
  · dsimp only
    rw [hM.lb, bs, hM.lb_l (by omega) (by omega), bs, Int.toNat_natCast, hl c hc, if_pos (le_y (by omega))]
    rfl
theorem M_sizeOfFace (hM : MI A m) (hW : WE A m t N L) (hl : LbS A m (4 * N) lab) (hi : IsLab (4 * N) R lab) {f : Int} (hf : Bd f) : fX12_sizeOfFace A (some m) (I t) (I f) = some (I (hit (fno lab) f.toNat (4 * N) : Nat)) ∨ f < 0 := by
  by_cases h0 : f < 0
  · exact Or.inr h0
  left
  have hN := hW.2.1
  unfold fX12_sizeOfFace
  rw [hM.rc, bs]
  refine for_b (fun j => (I (hit (fno lab) f.toNat j), I j)) (4 * N) (I (hit (fno lab) f.toNat (4 * N) : Nat)) rfl (fun j hj => ?_) ?_ rfl
  · have h1 := fno_lt hi hj
    have h2 := roots_le lab (4 * N)
    have h3 := hit_le (fno lab) f.toNat j
    dsimp only
    rw [M_size hM hW, bs, L_4, I_mul, if_neg (le_n (by omega)), M_faceOf hM (by omega) hl hi hj, bs, jp1_eq, hit_s]
    by_cases q : fno lab j = f.toNat
    · rw [if_pos (by congr 1; omega), if_pos q, L_1, I_add, I_add, cst, cst]
    · rw [if_neg (eq_n (by omega)), if_neg q, L_1, L_0, I_add, I_add, cst, Nat.add_zero, Int.add_zero]
  · dsimp only
    rw [M_size hM hW, bs, L_4, I_mul, if_pos (le_y (by omega))]
theorem M_sizeF (hM : MI A m) (hW : WE A m t N L) (hl : LbS A m (4 * N) lab) (hi : IsLab (4 * N) R lab) {f : Nat} (hf : f < 1000) : fX12_sizeOfFace A (some m) (I t) (I f) = some (I (hit (fno lab) f (4 * N))) := by
  rcases M_sizeOfFace hM hW hl hi (f := (f : Int)) (by omega) with h | h
  · rw [h, Int.toNat_natCast]
  · omega
/-- how many faces of n have the size x -/
noncomputable def fsz (N : Nat) (lab : Nat → Nat) (x n : Nat) : Nat := hit (fun f => hit (fno lab) f (4 * N)) x n
theorem M_facesOfSize (hM : MI A m) (hW : WE A m t N L) (hV : VW N L P Q) (hS : SG A m t sg) {x : Nat} (hx : x < 1000) : ∃ r, fX12_facesOfSize A (some m) (I t) (I x) = some r ∧ r.1 = I (fsz N (fl N L P sg) x (faces N L P sg)) ∧ Ms m A r.2 := by
  have hN := hV.1
  have hsg := hS.2
  have hf := faces_le N L P sg
  unfold fX12_facesOfSize fsz
  obtain ⟨r, h1, h2, h3, h4, h5⟩ := M_laysFaces hM hW hV (sg := sg) (by omega)
  have g : Ms m A r.2 := (Ms.si (by omega)).tr h3.1
  rw [hM.rc, bs, M_signsOf hM hW.1 hS, bs, h1, bs, h2]
  refine for_bx (fun j => (I (hit (fun f => hit (fno (fl N L P sg)) f (4 * N)) x j), I j)) (faces N L P sg) (I (hit (fun f => hit (fno (fl N L P sg)) f (4 * N)) x (faces N L P sg))) rfl ?_ ?_ ⟨_, rfl, rfl, g⟩
  · intro j hj
    have q1 := hit_le (fno (fl N L P sg)) j (4 * N)
    have q2 := hit_le (fun f => hit (fno (fl N L P sg)) f (4 * N)) x j
    dsimp only
    rw [if_neg (le_n (by omega)), M_sizeF (hM.ms g) (hW.ms g) h5 h4 (by omega), bs, jp1_eq, hit_s]
    by_cases q : hit (fno (fl N L P sg)) j (4 * N) = x
    · rw [if_pos (by rw [q]), if_pos q, L_1, I_add, I_add, cst, cst]
    · rw [if_neg (eq_n (by omega)), if_neg q, L_1, L_0, I_add, I_add, cst, Nat.add_zero, Int.add_zero]
  · dsimp only
    rw [if_pos (le_y (by omega))]
end FN
