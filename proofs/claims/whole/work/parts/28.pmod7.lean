/-! trees; neighbours; laws in the reference -/
noncomputable def trs (N : Nat) (L P : Nat → Nat) (sg : Nat) (lab : Nat → Nat) (ix : Nat → Int32) (dk : Bool) : Nat → Nat
  | 0 => 0
  | s + 1 => trs N L P sg lab ix dk s + (if (cnt s 16 : Int) = (knd N L P sg lab ix dk (N + 2) : Int) - 1 ∧ (knd N L P sg lab ix dk (N + 2) : Int) - eff (tra N L P sg lab ix dk) (trb N L P sg lab ix dk) s N = 1 then 1 else 0)
theorem trs_le (N : Nat) (L P : Nat → Nat) (sg : Nat) (lab : Nat → Nat) (ix : Nat → Int32) (dk : Bool) : ∀ n, trs N L P sg lab ix dk n ≤ n
  | 0 => Nat.le_refl _
  | n + 1 => by
    have := trs_le N L P sg lab ix dk n
    unfold trs
    split <;> omega
theorem eff_0 (a b : Nat → Nat) : ∀ n, eff a b 0 n = 0
  | 0 => rfl
  | n + 1 => by
    unfold eff
    rw [eff_0 a b n, Nat.zero_testBit, Bool.false_and]
    rfl
section TR
variable {A : AH} {m t N : Nat} {L P Q : Nat → Nat} {sg : Nat}
theorem XI.mk (hM : MI A m) (hW : WE A m t N L) (hV : VW N L P Q) (hS : Hi A 399 m = I sg) (hsg : sg < 256) (hF : faces N L P sg ≤ 10) (hi : IsLab (4 * N) (fR N L P sg (2 * N)) (fl N L P sg)) (hl : LbS A m (4 * N) (fl N L P sg)) (hx : ∀ f, f < faces N L P sg → He A (m + 9) f = ixF N L P sg f) : XI A m t N L P sg (faces N L P sg) (fl N L P sg) (ixF N L P sg) := by
  refine ⟨hM, hW, hS, hsg, hF, hl, hi, hx, fun c hc => ?_, ?_⟩
  · have e : faces N L P sg = roots (fl N L P sg) (4 * N) := by
      unfold faces
      rw [if_neg (by omega), ← comps_of hi]
    rw [e]
    exact fno_lt hi hc
  · by_cases h0 : N = 0
    · unfold faces; rw [if_pos h0]; omega
    · have := (lrf_lt hV hi (i := 0) (by omega)).1; omega
theorem M_trees (hM : MI A m) (hW : WE A m t N L) (hV : VW N L P Q) (hS : SG A m t sg) (dk : Bool) : ∃ r, fX12_trees A (some m) (I t) (bI (dk = true)) = some r ∧ r.1 = I (if faces N L P sg = N + 2 then (trs N L P sg (fl N L P sg) (ixF N L P sg) dk (2 ^ N) : Int) else -1) ∧ Ms m A r.2 := by
  have hN := hV.1
  have h2 := p2_lt hN
  have hsg := hS.2
  unfold fX12_trees
  obtain ⟨r, q1, q2, q3, -⟩ := M_isPlane hM hW hV (sg := sg) (by omega)
  have g : Ms m A r.2 := (Ms.si (by omega)).tr q3.1
  rw [hM.rc, bs, M_signsOf hM hW.1 hS, bs, q1, bs, q2]
  by_cases hp : faces N L P sg = N + 2
  · rw [if_neg (fun q => bI0.mp q hp), if_pos hp]
    obtain ⟨B, b1, b2, b3, b4, b5, b6⟩ := M_laysIndices (hM.ms g) (hW.ms g) hV (hS.ms g) (by omega)
    rw [b1, bs]
    have hX := XI.mk (hM.ms (g.tr b2)) (hW.ms (g.tr b2)) hV b3 hsg (by omega) b4 b5 b6
    obtain ⟨w, w1, w2, w3⟩ := M_joinedBy hX hV hp (s := 0) (by omega) dk
    rw [eff_0, hp] at w2
    have w1' : fX12_joinedBy B (some m) (I t) 0 (bI (dk = true)) = some w := w1
    have hkd := knd_le N L P sg (fl N L P sg) (ixF N L P sg) dk (N + 2)
    rw [w1', bs, w2]
    refine for_eb (2 ^ N) (fun j u => u.1 = I (trs N L P sg (fl N L P sg) (ixF N L P sg) dk j) ∧ u.2.1 = I j ∧ Mh m B u.2.2) (fun u => u.1 = I (trs N L P sg (fl N L P sg) (ixF N L P sg) dk (2 ^ N)) ∧ Mh m B u.2) ⟨rfl, rfl, w3⟩ ?_ ?_ (fun u hu => ⟨_, rfl, hu.1, (g.tr b2).tr hu.2.1⟩)
    · rintro j ⟨u1, u2, u3⟩ hj ⟨e1, e2, g1⟩
      dsimp only at e1 e2 g1 ⊢
      subst e1; subst e2
      have hX1 := hX.mh g1
      have hcn := cnt_le j 16
      have htr := trs_le N L P sg (fl N L P sg) (ixF N L P sg) dk j
      have es : trs N L P sg (fl N L P sg) (ixF N L P sg) dk (j + 1) = trs N L P sg (fl N L P sg) (ixF N L P sg) dk j + (if (cnt j 16 : Int) = (knd N L P sg (fl N L P sg) (ixF N L P sg) dk (N + 2) : Int) - 1 ∧ (knd N L P sg (fl N L P sg) (ixF N L P sg) dk (N + 2) : Int) - eff (tra N L P sg (fl N L P sg) (ixF N L P sg) dk) (trb N L P sg (fl N L P sg) (ixF N L P sg) dk) j N = 1 then 1 else 0) := rfl
      rw [M_size hX1.1 hX1.2.1, bs, I_shl1 (by omega), if_neg (le_n (by omega)), M_ones _ (by omega), bs, jp_eq]
      rw [Int.natCast_zero, Int.sub_zero, L_1, I_sub]
      by_cases q : (cnt j 16 : Int) = (knd N L P sg (fl N L P sg) (ixF N L P sg) dk (N + 2) : Int) - 1
      · obtain ⟨v, v1, v2, v3⟩ := M_joinedBy hX1 hV hp (s := j) (by omega) dk
        have hef := eff_le (tra N L P sg (fl N L P sg) (ixF N L P sg) dk) (trb N L P sg (fl N L P sg) (ixF N L P sg) dk) j N
        rw [hp] at v2
        rw [if_pos (by rw [q]), v1, bs, v2]
        by_cases z : (knd N L P sg (fl N L P sg) (ixF N L P sg) dk (N + 2) : Int) - eff (tra N L P sg (fl N L P sg) (ixF N L P sg) dk) (trb N L P sg (fl N L P sg) (ixF N L P sg) dk) j N = 1
        · rw [if_pos ⟨q, z⟩] at es
          rw [if_pos (by rw [z])]
          exact ⟨_, rfl, by dsimp only; rw [es, I_add, cst], by dsimp only; rw [I_add, ← cst], g1.tr v3⟩
        · rw [if_neg (fun y => z y.2)] at es
          rw [if_neg (eq_n (by omega))]
          exact ⟨_, rfl, by dsimp only; rw [es, L_0, I_add, Int.add_zero, Nat.add_zero], by dsimp only; rw [I_add, ← cst], g1.tr v3⟩
      · rw [if_neg (fun y => q y.1)] at es
        rw [if_neg (eq_n (by omega))]
        exact ⟨_, rfl, by dsimp only; rw [es, L_0, I_add, Int.add_zero, Nat.add_zero], by dsimp only; rw [I_add, ← cst], g1⟩
    · rintro ⟨u1, u2, u3⟩ ⟨e1, e2, g1⟩
      dsimp only at e1 e2 g1 ⊢
      subst e1; subst e2
      have hX1 := hX.mh g1
      exact ⟨(I (trs N L P sg (fl N L P sg) (ixF N L P sg) dk (2 ^ N)), u3), by rw [M_size hX1.1 hX1.2.1, bs, I_shl1 (by omega), if_pos (le_y ⟨Bd_n (by omega), Bd_n (by omega), Int.le_refl _⟩)], rfl, g1⟩
  · rw [if_pos (bI0.mpr hp), if_neg hp]
    exact ⟨_, rfl, rfl, g⟩
/-! neighbours -/
abbrev bsd (N i j : Nat) : Prop := nx N i = j ∨ nx N j = i
theorem M_areBeside (hM : MI A m) (hW : WE A m t N L) {i j : Nat} (hi : i < 2 * N) (hj : j < 2 * N) : fX12_areBeside A (some m) (I t) (I i) (I j) = some (bI (bsd N i j)) := by
  have hN := hW.2.1
  have hn1 : nx N i < 2 * N := Nat.mod_lt (i + 1) (show 2 * N > 0 by omega)
  have hn2 : nx N j < 2 * N := Nat.mod_lt (j + 1) (show 2 * N > 0 by omega)
  unfold fX12_areBeside
  rw [hM.rc, bs, M_size hM hW, bs, I_nx hN hi, bs, I_nx hN hj, bs]
  by_cases q1 : nx N i = j
  · rw [if_pos (by rw [q1])]; exact congrArg some (bI1.mpr (Or.inl q1)).symm
  · rw [if_neg (eq_n ⟨Bd_n (by omega), Bd_n (by omega), fun z => q1 (Int.natCast_inj.mp z)⟩)]
    by_cases q2 : nx N j = i
    · rw [if_pos (by rw [q2])]; exact congrArg some (bI1.mpr (Or.inr q2)).symm
    · rw [if_neg (eq_n ⟨Bd_n (by omega), Bd_n (by omega), fun z => q2 (Int.natCast_inj.mp z)⟩)]
      exact congrArg some (bI0.mpr (fun z => z.elim q1 q2)).symm
theorem M_isLoop (hM : MI A m) (hW : WE A m t N L) (hV : VW N L P Q) {c : Nat} (hc : c < N) : fX12_isLoop A (some m) (I t) (I c) = some (bI (bsd N (P c) (Q c))) := by
  obtain ⟨h1, h2, -, -⟩ := hV.2.1 c hc
  unfold fX12_isLoop
  rw [hM.rc, bs, L_0, M_pl0 hM hW hV hc, bs, L_1, M_pl1 hM hW hV hc, bs, M_areBeside hM hW (by omega) h2, bs, rz_bI, bs]
def lps (N : Nat) (P Q : Nat → Nat) : Nat → Nat
  | 0 => 0
  | c + 1 => lps N P Q c ||| (if bsd N (P c) (Q c) then 2 ^ c else 0)
theorem M_loops (hM : MI A m) (hW : WE A m t N L) (hV : VW N L P Q) : fX12_loops A (some m) (I t) = some (I (lps N P Q N)) := by
  have hN := hV.1
  unfold fX12_loops
  rw [hM.rc, bs]
  refine for_b (fun j => (I (lps N P Q j), I j)) N (I (lps N P Q N)) rfl (fun j hj => ?_) ?_ rfl
  · dsimp only
    rw [M_size hM hW, bs, if_neg (le_n (by omega)), M_isLoop hM hW hV hj, bs, jp1_eq, I_shl1 (by omega)]
    rw [show lps N P Q (j + 1) = lps N P Q j ||| (if bsd N (P j) (Q j) then 2 ^ j else 0) from rfl, ← I_or, cst, ← I_add]
    by_cases hb : bsd N (P j) (Q j)
    · rw [if_neg (fun q => bI0.mp q hb), if_pos hb]; rfl
    · rw [if_pos (bI0.mpr hb), if_neg hb]; rfl
  · dsimp only
    rw [M_size hM hW, bs, if_pos (le_y (by omega))]
/-! the laws -/
def shr (P Q : Nat → Nat) (N c d : Nat) : Nat := cnt (bset P Q c N &&& bset P Q d N) 16
/-- are sides chosen as they must, for letters d < n beside c -/
abbrev okS (P Q : Nat → Nat) (N s c d : Nat) : Prop := Btw P Q c d → ((s.testBit c ≠ s.testBit d) ↔ shr P Q N c d % 2 = 0)
theorem bset_l {P Q : Nat → Nat} {c N : Nat} (h : N ≤ 8) : bset P Q c N < 2147483648 := by
  have := bset_lt P Q c N
  have := p2_lt h
  omega
theorem I_m2 {k : Nat} (h : k < 1000) : rmI (I (k : Int)) 2 = some (I ((k % 2 : Nat) : Int)) := by
  rw [L_2, I_rem (by omega) (by omega) (by omega) (by omega), Int.natCast_emod]
  rfl
def anyB (f : Nat → Bool) : Nat → Bool
  | 0 => false
  | n + 1 => anyB f n || f n
theorem anyB_iff {f : Nat → Bool} : ∀ {n : Nat}, anyB f n = true ↔ ∃ j, j < n ∧ f j = true
  | 0 => by simp [anyB]
  | n + 1 => by
    show (anyB f n || f n) = true ↔ _
    rw [Bool.or_eq_true, anyB_iff]
    constructor
    · rintro (⟨j, h1, h2⟩ | h)
      · exact ⟨j, by omega, h2⟩
      · exact ⟨n, by omega, h⟩
    · rintro ⟨j, h1, h2⟩
      by_cases e : j = n
      · subst e; exact Or.inr h2
      · exact Or.inl ⟨j, by omega, h2⟩
theorem anyB_c {f g : Nat → Bool} {n : Nat} (h : ∀ j, j < n → f j = g j) : anyB f n = anyB g n := by
  rw [Bool.eq_iff_iff, anyB_iff, anyB_iff]
  exact ⟨fun ⟨j, h1, h2⟩ => ⟨j, h1, by rw [← h j h1]; exact h2⟩, fun ⟨j, h1, h2⟩ => ⟨j, h1, by rw [h j h1]; exact h2⟩⟩
theorem anyB_to {f : Nat → Bool} {n j : Nat} (hj : j < n) (h : f j = true) : anyB f n = true := anyB_iff.mpr ⟨j, hj, h⟩
/-- something is wrong with sides s: letter c and one of d < n -/
def badI (P Q : Nat → Nat) (N s c n : Nat) : Bool := anyB (fun d => !decide (okS P Q N s c d)) n
def badO (P Q : Nat → Nat) (N s n : Nat) : Bool := anyB (fun c => badI P Q N s c c) n
theorem M_areSides (hM : MI A m) (hW : WE A m t N L) (hV : VW N L P Q) {s : Nat} (hs : s < 2147483648) : fX12_areSides A (some m) (I t) (I s) = some (bI (badO P Q N s N = false)) := by
  have hN := hV.1
  unfold fX12_areSides
  rw [hM.rc, bs]
  have key : ∃ r, ((iter (S := Int32 × Int32) (T := Int32) (fun s1 => (fX12_size A (some m) (I t)).bind fun r4 => if r4 ≤ s1.2 then some (.inr s1.1) else (iter (S := Int32 × Int32) (T := Int32) (fun s5 => if s1.2 ≤ s5.2 then some (.inr s5.1) else if s5.1 = 0 then some (.inr s5.1) else (fX12_has A (I s) s1.2).bind fun r8 => (fX12_has A (I s) s5.2).bind fun r9 => jp1 (α := Int32) (if r8 = r9 then 0 else 1) fun x12 => (fX12_isBetween A (some m) (I t) s1.2 s5.2).bind fun r13 => jp (fun (x24 : Int32) => some (.inl (x24, (s5.2 + 1)))) fun K14 => if r13 = 0 then K14 1 else (fX12_betweenSet A (some m) (I t) s1.2).bind fun r15 => (fX12_betweenSet A (some m) (I t) s5.2).bind fun r16 => (fX12_ones A (r15 &&& r16)).bind fun r17 => (rmI r17 2).bind fun v18 => jp1 (α := Int32) (if v18 = 0 then 1 else 0) fun x21 => if x12 = x21 then K14 1 else K14 0) (s1.1, 0)).bind fun t6 => some (.inl (t6, (s1.2 + 1)))) (1, 0)).bind fun t2 => (rz t2).bind fun z29 => some z29) = some r ∧ r = bI (badO P Q N s N = false) := by
    refine for_eb2 N (fun c u => u.1 = bI (badO P Q N s c = false) ∧ u.2 = I c) (fun x => x = bI (badO P Q N s N = false)) ⟨rfl, rfl⟩ ?_ ?_ ?_
    · rintro c ⟨u1, u2⟩ hc ⟨e1, e2⟩
      dsimp only at e1 e2 ⊢
      subst e1; subst e2
      rw [M_size hM hW, bs, if_neg (le_n (by omega))]
      refine srch_eb c (fun d v => v.1 = bI ((badO P Q N s c || badI P Q N s c d) = false) ∧ v.2 = I d) (fun x => x = bI (badO P Q N s (c + 1) = false)) ⟨by dsimp only; exact bIc (by simp [badI, anyB]), rfl⟩ ?_ ?_ (fun x hx => ⟨_, rfl, _, rfl, hx, by dsimp only; rw [L_1, I_add, ← cst]⟩)
      · rintro d ⟨v1, v2⟩ hd ⟨f1, f2⟩
        dsimp only at f1 f2 ⊢
        subst f1; subst f2
        rw [if_neg (le_n (by omega))]
        by_cases hb : (badO P Q N s c || badI P Q N s c d) = false
        · left
          rw [if_neg (fun q => bI0.mp q hb), M_has A hs (by omega), bs, M_has A hs (by omega), bs, jp1_eq, M_isBetween hM hW hV hc (by omega), bs, jp_eq]
          have hnew : (badO P Q N s c || badI P Q N s c (d + 1)) = !decide (okS P Q N s c d) := by
            rw [Bool.or_eq_false_iff] at hb
            show (badO P Q N s c || (badI P Q N s c d || !decide (okS P Q N s c d))) = _
            rw [hb.1, hb.2, Bool.false_or, Bool.false_or]
          have fin : ∀ x : Int32, x = bI (okS P Q N s c d) → ∃ s', (some (.inl (x, I (d : Int) + 1)) : Option ((Int32 × Int32) ⊕ Int32)) = some (.inl s') ∧ s'.1 = bI ((badO P Q N s c || badI P Q N s c (d + 1)) = false) ∧ s'.2 = I ((d + 1 : Nat) : Int) := by
            intro x hx
            refine ⟨_, rfl, ?_, by dsimp only; rw [L_1, I_add, ← cst]⟩
            dsimp only
            rw [hx]
            refine bIc ?_
            rw [hnew]
            rw [Bool.not_eq_false']
            exact decide_eq_true_iff.symm
          by_cases hbt : Btw P Q c d
          · rw [if_neg (fun q => bI0.mp q hbt), M_betweenSet hM hW hV hc, bs, M_betweenSet hM hW hV (by omega), bs, I_and, M_ones A (by have := Nat.and_le_left (n := bset P Q c N) (m := bset P Q d N); have := bset_l (P := P) (Q := Q) (c := c) hN; omega), bs, I_m2 (by have := cnt_le (bset P Q c N &&& bset P Q d N) 16; omega), bs, jp1_eq]
            have hx12 : (if bI (s.testBit c = true) = bI (s.testBit d = true) then (0 : Int32) else 1) = bI (s.testBit c ≠ s.testBit d) := by
              rw [ite_bI']
              refine bIc ?_
              rw [bIe]
              cases s.testBit c <;> cases s.testBit d <;> simp
            have hx21 : (if I ((cnt (bset P Q c N &&& bset P Q d N) 16 % 2 : Nat) : Int) = 0 then (1 : Int32) else 0) = bI (shr P Q N c d % 2 = 0) := by
              rw [ite_bI]
              refine bIc ?_
              rw [L_0, I_eq (by omega) (by omega)]
              show _ ↔ cnt (bset P Q c N &&& bset P Q d N) 16 % 2 = 0
              omega
            rw [hx12, hx21]
            by_cases q : (s.testBit c ≠ s.testBit d) ↔ shr P Q N c d % 2 = 0
            · rw [if_pos (bIc q)]
              exact fin 1 (bI1.mpr (fun _ => q)).symm
            · rw [if_neg (fun z => q (bIe.mp z))]
              exact fin 0 (bI0.mpr (fun z => q (z hbt))).symm
          · rw [if_pos (bI0.mpr hbt)]
            exact fin 1 (bI1.mpr (fun z => absurd z hbt)).symm
        · right
          rw [if_pos (bI0.mpr hb)]
          refine ⟨_, rfl, ?_⟩
          refine bIc ⟨fun z => absurd z hb, fun z => ?_⟩
          exfalso
          apply hb
          have z : (badO P Q N s c || badI P Q N s c c) = false := z
          rw [Bool.or_eq_false_iff] at z ⊢
          refine ⟨z.1, ?_⟩
          cases hq : badI P Q N s c d with
          | false => rfl
          | true =>
            obtain ⟨j, j1, j2⟩ := anyB_iff.mp hq
            have := anyB_to (f := fun d => !decide (okS P Q N s c d)) (n := c) (j := j) (by omega) j2
            rw [show badI P Q N s c c = anyB (fun d => !decide (okS P Q N s c d)) c from rfl, this] at z
            cases z.2
      · rintro ⟨v1, v2⟩ ⟨f1, f2⟩
        dsimp only at f1 f2 ⊢
        subst f1; subst f2
        exact ⟨bI (badO P Q N s (c + 1) = false), by rw [if_pos (le_y (by omega))]; rfl, rfl⟩
    · rintro ⟨u1, u2⟩ ⟨e1, e2⟩
      dsimp only at e1 e2 ⊢
      subst e1; subst e2
      exact ⟨bI (badO P Q N s N = false), by rw [M_size hM hW, bs, if_pos (le_y (by omega))], rfl⟩
    · rintro x hx
      exact ⟨bI (badO P Q N s N = false), by rw [hx, rz_bI, bs], rfl⟩
  obtain ⟨r, k1, k2⟩ := key
  rw [← k2]
  exact k1
def br1 (P Q : Nat → Nat) (N n : Nat) : Bool := anyB (fun c => decide (cnt (bset P Q c N) 16 % 2 = 1)) n
def br2i (P Q : Nat → Nat) (N c n : Nat) : Bool := anyB (fun d => decide (¬ Btw P Q c d ∧ shr P Q N c d % 2 = 1)) n
def br2 (P Q : Nat → Nat) (N n : Nat) : Bool := anyB (fun c => br2i P Q N c c) n
def br3 (P Q : Nat → Nat) (N n : Nat) : Bool := anyB (fun s => !badO P Q N s N) n
def brk (P Q : Nat → Nat) (N : Nat) : Nat := if br1 P Q N N then 1 else if br2 P Q N N then 2 else if br3 P Q N (2 ^ N) then 0 else 3
end TR
