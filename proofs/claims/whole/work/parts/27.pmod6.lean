/-! dark faces, middles, turns, trees in the reference -/
noncomputable def bC (p : Prop) : Bool := @decide p (Classical.propDecidable p)
theorem bC_t {p : Prop} : bC p = true ↔ p := by unfold bC; exact @decide_eq_true_iff p (Classical.propDecidable p)
theorem bC_f {p : Prop} : bC p = false ↔ ¬ p := by
  constructor
  · intro h q
    rw [bC_t.mpr q] at h
    cases h
  · intro h
    cases e : bC p with
    | false => rfl
    | true => exact absurd (bC_t.mp e) h
theorem Conn.snoc {R : List (Nat × Nat)} {u v a b : Nat} : Conn (R ++ [(u, v)]) a b ↔ Conn R a b ∨ (Conn R a u ∧ Conn R v b) ∨ (Conn R a v ∧ Conn R u b) := by
  constructor
  · intro h
    refine h (fun a b => Conn R a b ∨ (Conn R a u ∧ Conn R v b) ∨ (Conn R a v ∧ Conn R u b)) (fun x => Or.inl (Conn.rf x)) ?_ ?_ ?_
    · rintro x y (h | ⟨h1, h2⟩ | ⟨h1, h2⟩)
      · exact Or.inl h.sy
      · exact Or.inr (Or.inr ⟨h2.sy, h1.sy⟩)
      · exact Or.inr (Or.inl ⟨h2.sy, h1.sy⟩)
    · rintro x y z (h | ⟨h1, h2⟩ | ⟨h1, h2⟩) (g | ⟨g1, g2⟩ | ⟨g1, g2⟩)
      · exact Or.inl (h.tr g)
      · exact Or.inr (Or.inl ⟨h.tr g1, g2⟩)
      · exact Or.inr (Or.inr ⟨h.tr g1, g2⟩)
      · exact Or.inr (Or.inl ⟨h1, h2.tr g⟩)
      · exact Or.inr (Or.inl ⟨h1, g2⟩)
      · exact Or.inl (h1.tr g2)
      · exact Or.inr (Or.inr ⟨h1, h2.tr g⟩)
      · exact Or.inl (h1.tr g2)
      · exact Or.inr (Or.inr ⟨h1, g2⟩)
    · intro q hq
      rcases List.mem_append.mp hq with hq | hq
      · exact Or.inl (Conn.of hq)
      · rw [List.mem_singleton.mp hq]
        exact Or.inr (Or.inl ⟨Conn.rf u, Conn.rf v⟩)
  · have mono : ∀ {x y : Nat}, Conn R x y → Conn (R ++ [(u, v)]) x y := fun h E h1 h2 h3 h4 => h E h1 h2 h3 (fun q hq => h4 q (List.mem_append_left _ hq))
    have huv : Conn (R ++ [(u, v)]) u v := Conn.of (q := (u, v)) (List.mem_append_right _ (List.mem_singleton.mpr rfl))
    rintro (h | ⟨h1, h2⟩ | ⟨h1, h2⟩)
    · exact mono h
    · exact ((mono h1).tr huv).tr (mono h2)
    · exact ((mono h1).tr huv.sy).tr (mono h2)
abbrev evn (x : Int32) : Prop := x - x / 2 * 2 = 0
def sumI (g : Nat → Int32) : Nat → Int32
  | 0 => 0
  | n + 1 => sumI g n + g n
def difI (x : Int32) (g : Nat → Int32) : Nat → Int32
  | 0 => x
  | n + 1 => difI x g n - g n
/-- the reference behind laysIndices of word t -/
def XI (A : AH) (m t N : Nat) (L P : Nat → Nat) (sg K : Nat) (lab : Nat → Nat) (ix : Nat → Int32) : Prop :=
  MI A m ∧ WE A m t N L ∧ Hi A 399 m = I sg ∧ sg < 256 ∧ K ≤ 10 ∧ LbS A m (4 * N) lab ∧ IsLab (4 * N) (fR N L P sg (2 * N)) lab ∧ (∀ f, f < K → He A (m + 9) f = ix f) ∧ (∀ c, c < 4 * N → fno lab c < K) ∧ 0 < K
/-- the face from which darkness is counted -/
def f00 (N : Nat) (L P : Nat → Nat) (sg : Nat) (lab : Nat → Nat) : Nat := if N = 0 then 0 else fno lab (lC L P sg 0)
abbrev drk (N : Nat) (L P : Nat → Nat) (sg : Nat) (lab : Nat → Nat) (ix : Nat → Int32) (f : Nat) : Prop := evn (ix f - ix (f00 N L P sg lab))
def mid (lab : Nat → Nat) (ix : Nat → Int32) (c : Nat) : Int32 := sumI (fun k => ix (fno lab (4 * c + k))) 4 / 4
section XX
variable {A : AH} {m t N : Nat} {L P Q : Nat → Nat} {sg K : Nat} {lab : Nat → Nat} {ix : Nat → Int32}
theorem f00_lt (hX : XI A m t N L P sg K lab ix) (hV : VW N L P Q) : f00 N L P sg lab < K := by
  obtain ⟨-, -, -, -, -, -, -, -, h9, h10⟩ := hX
  unfold f00
  split
  · exact h10
  · exact h9 _ (cn_lt (sg := sg) hV (i := 0) (by omega)).1
theorem M_isDark (hX : XI A m t N L P sg K lab ix) (hV : VW N L P Q) {f : Nat} (hf : f < K) : fX12_isDark A (some m) (I t) (I f) = some (bI (drk N L P sg lab ix f)) := by
  have hf0 := f00_lt hX hV
  obtain ⟨hM, hW, hS, hsg, hK, hl, hi, hx, h9, h10⟩ := hX
  have hN := hV.1
  have key : ∀ k : Int32, k = I (f00 N L P sg lab) → ((gR A 13 400 (some m)).bind fun v7 => (aI A 14 v7 (I f)).bind fun v8 => (gR A 13 400 (some m)).bind fun v9 => (aI A 14 v9 k).bind fun v10 => (rmI (v8 - v10) 2).bind fun v11 => if v11 = 0 then some 1 else some 0) = some (bI (drk N L P sg lab ix f)) := by
    intro k hk
    subst hk
    rw [hM.ix, bs, hM.ix_l (by omega) (by omega), bs, bs, hM.ix_l (by omega) (by omega), bs, Int.toNat_natCast, Int.toNat_natCast, hx f hf, hx _ hf0]
    unfold rmI
    rw [if_neg (by decide), bs, some_bI]
  unfold fX12_isDark
  rw [hM.rc, bs, M_size hM hW, bs, jp_eq]
  by_cases h0 : N = 0
  · rw [if_pos (by rw [h0]; rfl)]
    exact key 0 (by unfold f00; rw [if_pos h0]; rfl)
  · have hc := (cn_lt (sg := sg) hV (i := 0) (by omega)).1
    have e : fX12_leftCorner A (some m) (I t) 0 = some (I (lC L P sg 0)) := M_lC hM hW hV hS (by omega : sg < 2147483648) (i := 0) (by omega)
    rw [if_neg (by rw [L_0]; exact eq_n (by omega)), e, bs, M_faceOf hM (by omega) hl hi hc, bs]
    exact key _ (by unfold f00; rw [if_neg h0])
theorem M_middle (hX : XI A m t N L P sg K lab ix) (hV : VW N L P Q) {c : Nat} (hc : c < N) : fX12_middle A (some m) (I c) = some (mid lab ix c) := by
  obtain ⟨hM, hW, hS, hsg, hK, hl, hi, hx, h9, h10⟩ := hX
  have hN := hV.1
  unfold fX12_middle
  rw [hM.rc, bs]
  refine for_b (fun j => (sumI (fun k => ix (fno lab (4 * c + k))) j, I j)) 4 (sumI (fun k => ix (fno lab (4 * c + k))) 4) rfl (fun j hj => ?_) ?_ ?_
  · dsimp only
    have hk := h9 (4 * c + j) (by omega)
    rw [L_4, if_neg (le_n (by omega)), hM.ix, bs, I_mul, I_add, show (4 * (c : Int) + (j : Int)) = ((4 * c + j : Nat) : Int) by omega, M_faceOf hM (by omega) hl hi (by omega), bs, hM.ix_l (by omega) (by omega), bs, Int.toNat_natCast, hx _ hk, L_1, I_add, cst]
    rfl
  · dsimp only
    rw [L_4, if_pos (le_y (by omega))]
  · unfold dvI mid
    rw [if_neg (by decide), bs]
def trn (N : Nat) (lab : Nat → Nat) (ix : Nat → Int32) (f : Nat) : Int32 := difI (sumI ix (N + 2)) (mid lab ix) N - 2 * ix f
theorem M_turns (hX : XI A m t N L P sg K lab ix) (hV : VW N L P Q) (hK2 : K = N + 2) {f : Nat} (hf : f < K) : fX12_turns A (some m) (I t) (I f) = some (trn N lab ix f) := by
  have hX' := hX
  obtain ⟨hM, hW, hS, hsg, hK, hl, hi, hx, h9, h10⟩ := hX
  have hN := hV.1
  unfold fX12_turns
  rw [hM.rc, bs]
  refine for_b (fun j => (sumI ix j, I j)) (N + 2) (sumI ix (N + 2)) rfl (fun j hj => ?_) ?_ ?_
  · dsimp only
    rw [M_size hM hW, bs, L_2, I_add, if_neg (le_n (by omega)), hM.ix, bs, hM.ix_l (by omega) (by omega), bs, Int.toNat_natCast, hx j (by omega), L_1, I_add, cst]
    rfl
  · dsimp only
    rw [M_size hM hW, bs, L_2, I_add, if_pos (le_y (by omega))]
  · refine for_b (fun j => (difI (sumI ix (N + 2)) (mid lab ix) j, I j)) N (difI (sumI ix (N + 2)) (mid lab ix) N) rfl (fun j hj => ?_) ?_ ?_
    · dsimp only
      rw [M_size hM hW, bs, if_neg (le_n (by omega)), M_middle hX' hV hj, bs, L_1, I_add, cst]
      rfl
    · dsimp only
      rw [M_size hM hW, bs, if_pos (le_y (by omega))]
    · rw [hM.ix, bs, hM.ix_l (by omega) (by omega), bs, Int.toNat_natCast, hx f hf]
      rfl
/-! trees -/
def kd2 (N : Nat) (L P : Nat → Nat) (sg : Nat) (lab : Nat → Nat) (ix : Nat → Int32) (dk : Bool) (c : Nat) : Nat := if decide (drk N L P sg lab ix (fno lab (4 * c))) = dk then 0 else 1
def tra (N : Nat) (L P : Nat → Nat) (sg : Nat) (lab : Nat → Nat) (ix : Nat → Int32) (dk : Bool) (c : Nat) : Nat := fno lab (4 * c + kd2 N L P sg lab ix dk c)
def trb (N : Nat) (L P : Nat → Nat) (sg : Nat) (lab : Nat → Nat) (ix : Nat → Int32) (dk : Bool) (c : Nat) : Nat := fno lab (4 * c + kd2 N L P sg lab ix dk c + 2)
/-- pairs (a c, b c) for c < n in a set -/
def prs (a b : Nat → Nat) (s : Nat) : Nat → List (Nat × Nat)
  | 0 => []
  | c + 1 => prs a b s c ++ (if s.testBit c then [(a c, b c)] else [])
/-- how many of them join what was apart -/
noncomputable def eff (a b : Nat → Nat) (s : Nat) : Nat → Nat
  | 0 => 0
  | c + 1 => eff a b s c + (if s.testBit c && bC (¬ Conn (prs a b s c) (a c) (b c)) then 1 else 0)
theorem eff_le (a b : Nat → Nat) (s : Nat) : ∀ n, eff a b s n ≤ n
  | 0 => Nat.le_refl _
  | n + 1 => by
    have := eff_le a b s n
    unfold eff
    split <;> omega
/-- how many faces of a kind -/
def knd (N : Nat) (L P : Nat → Nat) (sg : Nat) (lab : Nat → Nat) (ix : Nat → Int32) (dk : Bool) : Nat → Nat
  | 0 => 0
  | f + 1 => knd N L P sg lab ix dk f + (if decide (drk N L P sg lab ix f) = dk then 1 else 0)
theorem knd_le (N : Nat) (L P : Nat → Nat) (sg : Nat) (lab : Nat → Nat) (ix : Nat → Int32) (dk : Bool) : ∀ n, knd N L P sg lab ix dk n ≤ n
  | 0 => Nat.le_refl _
  | n + 1 => by
    have := knd_le N L P sg lab ix dk n
    unfold knd
    split <;> omega
/-- a step that writes heaps alone -/
def Mh (m : Nat) (A A' : AH) : Prop := Ms m A A' ∧ (∀ a, a ≠ m + 11 → He A' a = He A a) ∧ Hi A' = Hi A
theorem Mh.rf {m : Nat} {A : AH} : Mh m A A := ⟨Ms.rf, fun _ _ => rfl, rfl⟩
theorem Mh.tr {m : Nat} {A B C : AH} (h : Mh m A B) (g : Mh m B C) : Mh m A C := ⟨h.1.tr g.1, fun a ha => (g.2.1 a ha).trans (h.2.1 a ha), g.2.2.trans h.2.2⟩
theorem Mh.se {m i : Nat} {A : AH} {v : Int32} : Mh m A (se A (m + 11) i v) := ⟨Ms.se (by omega), fun a ha => he_se_ne ha, rfl⟩
theorem XI.mh {B : AH} (hX : XI A m t N L P sg K lab ix) (g : Mh m A B) : XI B m t N L P sg K lab ix := by
  obtain ⟨hM, hW, hS, hsg, hK, hl, hi, hx, h9, h10⟩ := hX
  refine ⟨hM.ms g.1, hW.ms g.1, by rw [g.2.2]; exact hS, hsg, hK, fun k hk => by rw [g.2.1 (m + 8) (by omega)]; exact hl k hk, hi, fun f hf => by rw [g.2.1 (m + 9) (by omega)]; exact hx f hf, h9, h10⟩
def HPS (A : AH) (m K : Nat) (hp : Nat → Nat) : Prop := ∀ f, f < K → He A (m + 11) f = I (hp f) ∧ hp f < K
theorem bI_dk {p : Prop} [Decidable p] {dk : Bool} : (bI p = bI (dk = true)) ↔ decide p = dk := by
  rw [bIe]
  cases dk <;> by_cases h : p <;> simp [h]
theorem M_joinedBy (hX : XI A m t N L P sg K lab ix) (hV : VW N L P Q) (hK2 : K = N + 2) {s : Nat} (hs : s < 2147483648) (dk : Bool) : ∃ r, fX12_joinedBy A (some m) (I t) (I s) (bI (dk = true)) = some r ∧ r.1 = I ((knd N L P sg lab ix dk K : Int) - eff (tra N L P sg lab ix dk) (trb N L P sg lab ix dk) s N) ∧ Mh m A r.2 := by
  have hN := hV.1
  unfold fX12_joinedBy
  rw [hX.1.rc, bs]
  refine for_eb (N + 2) (fun j u => u.1 = I (knd N L P sg lab ix dk j) ∧ u.2.1 = I j ∧ Mh m A u.2.2 ∧ ∀ f, f < j → He u.2.2 (m + 11) f = I f) (fun u => u.1 = I (knd N L P sg lab ix dk K) ∧ Mh m A u.2 ∧ HPS u.2 m K id) ⟨rfl, rfl, Mh.rf, fun f hf => by omega⟩ ?_ ?_ ?_
  · rintro j ⟨u1, u2, u3⟩ hj ⟨e1, e2, g, x⟩
    dsimp only at e1 e2 g x ⊢
    subst e1; subst e2
    have hX1 := hX.mh g
    have hM1 := hX1.1
    have hX2 := hX1.mh (Mh.se (i := j) (v := I j))
    have hkd := knd_le N L P sg lab ix dk j
    rw [M_size hM1 hX1.2.1, bs, L_2, I_add, if_neg (le_n (by omega)), hM1.hp, bs, hM1.hp_s (by omega) (by omega), bs, Int.toNat_natCast, M_isDark hX2 hV (by omega), bs, jp1_eq]
    refine ⟨_, rfl, ?_, by dsimp only; rw [L_1, I_add, ← cst], g.tr Mh.se, fun f hf => ?_⟩
    · dsimp only
      rw [show knd N L P sg lab ix dk (j + 1) = knd N L P sg lab ix dk j + (if decide (drk N L P sg lab ix j) = dk then 1 else 0) from rfl]
      by_cases q : decide (drk N L P sg lab ix j) = dk
      · rw [if_pos (bI_dk.mpr q), if_pos q, L_1, I_add, cst]
      · rw [if_neg (fun z => q (bI_dk.mp z)), if_neg q, L_0, I_add, Nat.add_zero, Int.add_zero]
    · dsimp only
      rw [he_se]
      by_cases q : f = j
      · rw [if_pos q, q]
      · rw [if_neg q]; exact x f (by omega)
  · rintro ⟨u1, u2, u3⟩ ⟨e1, e2, g, x⟩
    dsimp only at e1 e2 g x ⊢
    subst e1; subst e2
    have hX1 := hX.mh g
    exact ⟨(I (knd N L P sg lab ix dk (N + 2)), u3), by rw [M_size hX1.1 hX1.2.1, bs, L_2, I_add, if_pos (le_y (by omega))], by rw [hK2], g, fun f hf => ⟨x f (by omega), hf⟩⟩
  · rintro ⟨u1, u2⟩ ⟨e1, g, x⟩
    dsimp only at e1 g x ⊢
    subst e1
    have hkd := knd_le N L P sg lab ix dk K
    refine for_eb2 N (fun c w => w.1 = I ((knd N L P sg lab ix dk K : Int) - eff (tra N L P sg lab ix dk) (trb N L P sg lab ix dk) s c) ∧ w.2.1 = I c ∧ Mh m A w.2.2 ∧ ∃ hp, HPS w.2.2 m K hp ∧ ∀ a b, a < K → b < K → (hp a = hp b ↔ Conn (prs (tra N L P sg lab ix dk) (trb N L P sg lab ix dk) s c) a b)) (fun w => w.1 = I ((knd N L P sg lab ix dk K : Int) - eff (tra N L P sg lab ix dk) (trb N L P sg lab ix dk) s N) ∧ Mh m A w.2) ⟨by dsimp only; unfold eff; rw [Int.natCast_zero, Int.sub_zero], rfl, g, id, x, fun a b ha hb => ⟨fun e => by have e : a = b := e; rw [e]; exact Conn.rf b, fun h => h (fun a b => a = b) (fun _ => rfl) (fun _ _ q => q.symm) (fun _ _ _ q r => q.trans r) (fun q hq => absurd hq List.not_mem_nil)⟩⟩ ?_ ?_ (fun w hw => ⟨_, rfl, hw⟩)
    · rintro c ⟨w1, w2, w3⟩ hc ⟨e1, e2, g1, hp, hh, hcn⟩
      dsimp only at e1 e2 g1 hh hcn ⊢
      subst e1; subst e2
      have hX1 := hX.mh g1
      have hM1 := hX1.1
      have h9 := hX1.2.2.2.2.2.2.2.2.1
      have hef := eff_le (tra N L P sg lab ix dk) (trb N L P sg lab ix dk) s c
      obtain ⟨a, hae⟩ : ∃ a, a = tra N L P sg lab ix dk c := ⟨_, rfl⟩
      obtain ⟨b, hbe⟩ : ∃ b, b = trb N L P sg lab ix dk c := ⟨_, rfl⟩
      have hk1 : kd2 N L P sg lab ix dk c ≤ 1 := by unfold kd2; split <;> omega
      have ha : a < K := by rw [hae]; exact h9 _ (by omega)
      have hb : b < K := by rw [hbe]; exact h9 _ (by omega)
      have f4 : fX12_faceOf w3 (some m) (4 * I (c : Int)) = some (I (fno lab (4 * c))) := by
        rw [L_4, I_mul, show (4 * (c : Int)) = ((4 * c : Nat) : Int) by omega]
        exact M_faceOf hM1 (by omega) hX1.2.2.2.2.2.1 hX1.2.2.2.2.2.2.1 (by omega)
      have hx20 : (if bI (drk N L P sg lab ix (fno lab (4 * c))) = bI (dk = true) then (0 : Int32) else 1) = I (kd2 N L P sg lab ix dk c) := by
        unfold kd2
        by_cases q : decide (drk N L P sg lab ix (fno lab (4 * c))) = dk
        · rw [if_pos (bI_dk.mpr q), if_pos q]; rfl
        · rw [if_neg (fun z => q (bI_dk.mp z)), if_neg q]; rfl
      have fa : fX12_faceOf w3 (some m) (4 * I (c : Int) + I (kd2 N L P sg lab ix dk c)) = some (I a) := by
        rw [L_4, I_mul, I_add, show (4 * (c : Int) + (kd2 N L P sg lab ix dk c : Int)) = ((4 * c + kd2 N L P sg lab ix dk c : Nat) : Int) by omega, hae]
        exact M_faceOf hM1 (by omega) hX1.2.2.2.2.2.1 hX1.2.2.2.2.2.2.1 (by omega)
      have fb : fX12_faceOf w3 (some m) (4 * I (c : Int) + I (kd2 N L P sg lab ix dk c) + 2) = some (I b) := by
        rw [L_4, I_mul, I_add, L_2, I_add, show (4 * (c : Int) + (kd2 N L P sg lab ix dk c : Int) + 2) = ((4 * c + kd2 N L P sg lab ix dk c + 2 : Nat) : Int) by omega, hbe]
        exact M_faceOf hM1 (by omega) hX1.2.2.2.2.2.1 hX1.2.2.2.2.2.2.1 (by omega)
      have la : aI w3 14 (some (m + 11)) (I (a : Int)) = some (I (hp a)) := by rw [hM1.hp_l (by omega) (by omega), Int.toNat_natCast, (hh a ha).1]
      have lb : aI w3 14 (some (m + 11)) (I (b : Int)) = some (I (hp b)) := by rw [hM1.hp_l (by omega) (by omega), Int.toNat_natCast, (hh b hb).1]
      have hKb : K ≤ 10 := by omega
      rw [M_size hM1 hX1.2.1, bs, if_neg (le_n (by omega)), f4, bs, M_isDark hX1 hV (h9 _ (by omega)), bs, jp1_eq, hx20, hM1.hp, bs, fa, bs, la, bs, bs, fb, bs, lb, bs, M_has _ hs (by omega), bs, jp_eq]
      have e1 : eff (tra N L P sg lab ix dk) (trb N L P sg lab ix dk) s (c + 1) = eff (tra N L P sg lab ix dk) (trb N L P sg lab ix dk) s c + (if s.testBit c && bC (¬ Conn (prs (tra N L P sg lab ix dk) (trb N L P sg lab ix dk) s c) a b) then 1 else 0) := by rw [hae, hbe]; rfl
      have e2 : prs (tra N L P sg lab ix dk) (trb N L P sg lab ix dk) s (c + 1) = prs (tra N L P sg lab ix dk) (trb N L P sg lab ix dk) s c ++ (if s.testBit c then [(a, b)] else []) := by rw [hae, hbe]; rfl
      by_cases hbit : s.testBit c = true
      · rw [if_neg (fun q => bI0.mp q hbit)]
        rw [hbit, if_pos rfl] at e2
        rw [hbit, Bool.true_and] at e1
        have hcab := hcn a b ha hb
        by_cases hab : hp a = hp b
        · rw [if_pos (by rw [hab])]
          have hcc := hcab.mp hab
          rw [bC_f.mpr (fun q => q hcc)] at e1
          refine ⟨_, rfl, _, rfl, ?_, by dsimp only; rw [L_1, I_add, ← cst], g1, hp, hh, fun x y hx hy => ?_⟩
          · dsimp only; rw [e1]; rfl
          · rw [hcn x y hx hy, e2, Conn.snoc]
            constructor
            · exact Or.inl
            · rintro (q | ⟨q1, q2⟩ | ⟨q1, q2⟩)
              · exact q
              · exact (q1.tr hcc).tr q2
              · exact (q1.tr hcc.sy).tr q2
        · have hpa := (hh a ha).2
          have hpb := (hh b hb).2
          rw [if_neg (eq_n (by omega))]
          have hnc : ¬ Conn (prs (tra N L P sg lab ix dk) (trb N L P sg lab ix dk) s c) a b := fun q => hab (hcab.mpr q)
          rw [bC_t.mpr hnc, if_pos rfl] at e1
          refine for_eb (N + 2) (fun j v => v.1 = I j ∧ Mh m A v.2 ∧ ∀ f, f < K → He v.2 (m + 11) f = I (if f < j then (if hp f = hp b then hp a else hp f) else hp f : Nat)) (fun B => Mh m A B ∧ ∀ f, f < K → He B (m + 11) f = I (if hp f = hp b then hp a else hp f : Nat)) ⟨rfl, g1, fun f hf => by rw [if_neg (by omega)]; exact (hh f hf).1⟩ ?_ ?_ ?_
          · rintro j ⟨v1, v2⟩ hj ⟨d1, d2, d3⟩
            dsimp only at d1 d2 d3 ⊢
            subst d1
            have hX2 := hX.mh d2
            have hM2 := hX2.1
            have hpj := (hh j (by omega)).2
            have lj : aI v2 14 (some (m + 11)) (I (j : Int)) = some (I (hp j)) := by rw [hM2.hp_l (by omega) (by omega), Int.toNat_natCast, d3 j (by omega), if_neg (by omega)]
            rw [M_size hM2 hX2.2.1, bs, L_2, I_add, if_neg (le_n (by omega)), hM2.hp, bs, bs, lj, bs, jp_eq]
            by_cases q : hp j = hp b
            · rw [if_pos (by rw [q])]
              dsimp only
              rw [hM2.hp_s (by omega) (by omega), bs, Int.toNat_natCast]
              refine ⟨_, rfl, by dsimp only; rw [L_1, I_add, ← cst], d2.tr Mh.se, fun f hf => ?_⟩
              dsimp only
              rw [he_se]
              by_cases z : f = j
              · rw [if_pos z, z, if_pos (by omega), if_pos q]
              · rw [if_neg z, d3 f hf]
                by_cases z2 : f < j
                · rw [if_pos z2, if_pos (show f < j + 1 by omega)]
                · rw [if_neg z2, if_neg (show ¬ f < j + 1 by omega)]
            · rw [if_neg (eq_n (by omega)), bs, lj, bs]
              dsimp only
              rw [hM2.hp_s (by omega) (by omega), bs, Int.toNat_natCast]
              refine ⟨_, rfl, by dsimp only; rw [L_1, I_add, ← cst], d2.tr Mh.se, fun f hf => ?_⟩
              dsimp only
              rw [he_se]
              by_cases z : f = j
              · rw [if_pos z, z, if_pos (by omega), if_neg q]
              · rw [if_neg z, d3 f hf]
                by_cases z2 : f < j
                · rw [if_pos z2, if_pos (show f < j + 1 by omega)]
                · rw [if_neg z2, if_neg (show ¬ f < j + 1 by omega)]
          · rintro ⟨v1, v2⟩ ⟨d1, d2, d3⟩
            dsimp only at d1 d2 d3 ⊢
            subst d1
            have hX2 := hX.mh d2
            exact ⟨v2, by rw [M_size hX2.1 hX2.2.1, bs, L_2, I_add, if_pos (le_y (by omega))], d2, fun f hf => by rw [d3 f hf, if_pos (by omega)]⟩
          · rintro B ⟨gB, xB⟩
            refine ⟨_, rfl, _, rfl, ?_, by dsimp only; rw [L_1, I_add, ← cst], gB, fun f => if hp f = hp b then hp a else hp f, fun f hf => ⟨xB f hf, ?_⟩, fun x y hx hy => ?_⟩
            · dsimp only
              rw [e1, L_1, I_neg, I_add]
              congr 1
              omega
            · dsimp only
              split
              · exact hpa
              · exact (hh f hf).2
            · have c1 := hcn x y hx hy
              have c2 := hcn x a hx ha
              have c3 := hcn x b hx hb
              have c4 := hcn y a hy ha
              have c5 := hcn y b hy hb
              rw [e2, Conn.snoc, ← c1, ← c2, ← c3]
              have c6 : Conn (prs (tra N L P sg lab ix dk) (trb N L P sg lab ix dk) s c) b y ↔ hp y = hp b := by rw [c5]; exact ⟨Conn.sy, Conn.sy⟩
              have c7 : Conn (prs (tra N L P sg lab ix dk) (trb N L P sg lab ix dk) s c) a y ↔ hp y = hp a := by rw [c4]; exact ⟨Conn.sy, Conn.sy⟩
              rw [c6, c7]
              show (if hp x = hp b then hp a else hp x) = (if hp y = hp b then hp a else hp y) ↔ _
              by_cases z1 : hp x = hp b
              · by_cases z2 : hp y = hp b
                · rw [if_pos z1, if_pos z2]; exact ⟨fun _ => Or.inl (by omega), fun _ => rfl⟩
                · rw [if_pos z1, if_neg z2]; omega
              · by_cases z2 : hp y = hp b
                · rw [if_neg z1, if_pos z2]; omega
                · rw [if_neg z1, if_neg z2]; omega
      · have hbf : s.testBit c = false := by simpa using hbit
        rw [if_pos (bI0.mpr hbit)]
        rw [hbf] at e1 e2
        refine ⟨_, rfl, _, rfl, ?_, by dsimp only; rw [L_1, I_add, ← cst], g1, hp, hh, fun x y hx hy => ?_⟩
        · dsimp only; rw [e1]; rfl
        · rw [hcn x y hx hy, e2, if_neg (by decide), List.append_nil]
    · rintro ⟨w1, w2, w3⟩ ⟨e1, e2, g1, -⟩
      dsimp only at e1 e2 g1 ⊢
      subst e1; subst e2
      have hX1 := hX.mh g1
      exact ⟨(I ((knd N L P sg lab ix dk K : Int) - eff (tra N L P sg lab ix dk) (trb N L P sg lab ix dk) s N), w3), by rw [M_size hX1.1 hX1.2.1, bs, if_pos (le_y (by omega))], rfl, g1⟩
end XX
