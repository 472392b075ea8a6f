/-! the class's faces: asked -/
theorem even_iff (d : Int32) : (d &&& 1) = 0 ↔ evn d := by
  have hd : d.toInt = if 2 * d.toBitVec.toNat < 2 ^ 32 then (d.toBitVec.toNat : Int) else (d.toBitVec.toNat : Int) - (2 ^ 32 : Nat) := BitVec.toInt_eq_toNat_cond d.toBitVec
  have e1 : (d &&& 1) = 0 ↔ d.toBitVec.toNat % 2 = 0 := by
    rw [← Nat.and_one_is_mod]
    constructor
    · intro h
      have : (d &&& 1).toBitVec.toNat = (0 : Int32).toBitVec.toNat := congrArg (fun z : Int32 => z.toBitVec.toNat) h
      rw [Int32.toBitVec_and, BitVec.toNat_and] at this
      exact this
    · intro h
      apply I_ext
      rw [Int32.toBitVec_and]
      apply BitVec.eq_of_toNat_eq
      rw [BitVec.toNat_and]
      exact h
  have e2 : evn d ↔ d.toInt % 2 = 0 := by
    unfold evn
    have hb := Bd_of d
    have q : (d / 2).toInt = d.toInt.tdiv 2 := by
      rw [Int32.toInt_div_of_ne_right _ _ (by decide)]; rfl
    have t := Int.mul_tdiv_add_tmod d.toInt 2
    have m1 := Int.tmod_lt_of_pos d.toInt (show (0 : Int) < 2 by omega)
    have m2 := Int.lt_tmod_of_pos d.toInt (show (0 : Int) < 2 by omega)
    have e : d - d / 2 * 2 = I (d.toInt - d.toInt.tdiv 2 * 2) := by
      rw [I_of (d / 2), q, L_2, I_mul]
      rw (occs := .pos [1]) [I_of d]
      rw [I_sub]
    rw [e, L_0, I_eq (by omega) (by omega)]
    omega
  rw [e1, e2, hd]
  split <;> omega
theorem comps_eff {a b : Nat → Nat} {K s : Nat} : ∀ {n : Nat}, (∀ c, c < n → a c < K ∧ b c < K) → comps K (prs a b s n) + eff a b s n = K ∧ ∃ l, IsLab K (prs a b s n) l
  | 0, _ => by
    have h0 : IsLab K [] (fun k => k) := ⟨fun _ _ => Nat.le_refl _, fun k _ => Conn.rf k, fun q hq => absurd hq List.not_mem_nil⟩
    refine ⟨?_, _, h0⟩
    show comps K [] + 0 = K
    rw [← comps_of h0]
    have : ∀ n, roots (fun k => k) n = n := by
      intro n
      induction n with
      | zero => rfl
      | succ n ih => rw [roots_s, ih, if_pos rfl]
    rw [this, Nat.add_zero]
  | n + 1, h => by
    obtain ⟨ih, l, hl⟩ := comps_eff (n := n) (s := s) (fun c hc => h c (by omega))
    have hn := h n (by omega)
    have e1 : prs a b s (n + 1) = prs a b s n ++ (if s.testBit n then [(a n, b n)] else []) := rfl
    have e2 : eff a b s (n + 1) = eff a b s n + (if s.testBit n && bC (¬ Conn (prs a b s n) (a n) (b n)) then 1 else 0) := rfl
    rw [e1, e2]
    cases q : s.testBit n with
    | false =>
      rw [if_neg (by decide), List.append_nil, Bool.false_and, if_neg (by decide)]
      exact ⟨by omega, l, hl⟩
    | true =>
      obtain ⟨c1, l', hl'⟩ := comps_snoc hl hn.1 hn.2
      rw [if_pos rfl, Bool.true_and]
      exact ⟨by omega, l', hl'⟩
section
variable {A B : AH} {x f r N w : Nat} {L P Q : Nat → Nat} {sg : Nat}
theorem FO.K32 (h : FO A x f r N L P sg) (hN : N ≤ 8) : faces N L P sg ≤ 32 ∧ 0 < faces N L P sg := ⟨faces_32 N L P sg hN, faces_pos h.2.1⟩
theorem C_fcount (h : FO A x f r N L P sg) : fX3_count A (some f) = some (I (faces N L P sg)) := by
  unfold fX3_count
  rw [rcv_ok h.1.k, bs, h.1.c, bs]
theorem C_handles (h : FO A x f r N L P sg) (hR : RD A x r N L P Q) : fX3_handles A (some f) = some (gen2 (I ((N : Int) + 2 - faces N L P sg))) := by
  unfold fX3_handles
  rw [rcv_ok h.1.k, bs, h.1.rw, bs, C_lc hR, bs, h.1.c, bs, gen2_eq, bs, L_2, I_add, I_sub]
theorem C_hasFace (h : FO A x f r N L P sg) (hN : N ≤ 8) {z : Int} (hz : Bd z) : fX3_hasFace A (some f) (I z) = some (bI (0 ≤ z ∧ z < faces N L P sg)) := by
  have := h.K32 hN
  unfold fX3_hasFace
  rw [rcv_ok h.1.k, bs, h.1.c, bs]
  exact rng hz (by omega)
theorem C_isPlane (h : FO A x f r N L P sg) : fX3_isPlane A (some f) = some (bI (faces N L P sg = N + 2)) := by
  unfold fX3_isPlane
  rw [rcv_ok h.1.k, bs, h.1.pl, bs, rz_bI, bs]
theorem C_sizeOf (h : FO A x f r N L P sg) (hN : N ≤ 8) {g : Nat} (hg : g < faces N L P sg) : fX3_sizeOf A (some f) (I g) = some (I (hit (fno (fl N L P sg)) g (4 * N))) := by
  have := h.K32 hN
  unfold fX3_sizeOf
  rw [rcv_ok h.1.k, bs, C_hasFace h hN (by omega), bs, if_neg (fun z => bI0.mp z (by omega)), h.1.r2, bs, aI_at h.1.k2 hg (by omega), bs, h.2.2.2.1 g hg]
theorem C_countOfSize (h : FO A x f r N L P sg) (hN : N ≤ 8) {k : Nat} (hk : k < 1000) : fX3_countOfSize A (some f) (I k) = some (I (fsz N (fl N L P sg) k (faces N L P sg))) := by
  have := h.K32 hN
  unfold fX3_countOfSize fsz
  rw [rcv_ok h.1.k, bs]
  refine for_b (fun j => (I (hit (fun f => hit (fno (fl N L P sg)) f (4 * N)) k j), I j)) (faces N L P sg) (I (hit (fun f => hit (fno (fl N L P sg)) f (4 * N)) k (faces N L P sg))) rfl (fun j hj => ?_) ?_ rfl
  · have q1 := hit_le (fno (fl N L P sg)) j (4 * N)
    have q2 := hit_le (fun f => hit (fno (fl N L P sg)) f (4 * N)) k j
    dsimp only
    rw [h.1.c, bs, if_neg (le_n (by omega)), h.1.r2, bs, aI_at h.1.k2 hj (by omega), bs, h.2.2.2.1 j hj, jp_eq, hit_s, L_1, I_add, ← cst]
    by_cases q : hit (fno (fl N L P sg)) j (4 * N) = k
    · rw [if_pos (by rw [q]), if_pos q, I_add, ← cst]
    · rw [if_neg (eq_n (by omega)), if_neg q]; rfl
  · dsimp only
    rw [h.1.c, bs, if_pos (le_y (by omega))]
theorem C_indexOf (h : FO A x f r N L P sg) (hN : N ≤ 8) (hp : faces N L P sg = N + 2) {g : Nat} (hg : g < faces N L P sg) : fX3_indexOf A (some f) (I g) = some (ixF N L P sg g) := by
  unfold fX3_indexOf
  rw [rcv_ok h.1.k, bs, C_hasFace h hN (by omega), bs, if_neg (fun z => bI0.mp z (by omega)), h.1.r5, bs, aI_at h.1.k5 hg (by omega), bs, h.2.2.2.2.2 hp g hg]
theorem C_fo (h : FO A x f r N L P sg) (hN : N ≤ 8) {c k : Nat} (hc : c < N) (hk : k < 4) : fX3_faceOf A (some f) (I c) (I k) = some (I (fno (fl N L P sg) (4 * c + k))) := by
  have := C_faceOf h.1 hN h.2.2.1 (a := c) (k := k + 1) hc (by omega)
  rw [show ((k + 1 : Nat) : Int) - 1 = (k : Int) by omega] at this
  rw [this]
  congr 4
  omega
theorem C_isDark (h : FO A x f r N L P sg) (hV : VW N L P Q) (hp : faces N L P sg = N + 2) {g : Nat} (hg : g < faces N L P sg) : fX3_isDark A (some f) (I g) = some (bI (drk N L P sg (fl N L P sg) (ixF N L P sg) g)) := by
  have hN := hV.1
  have e0 : He A (f + 3) 0 = I (f00 N L P sg (fl N L P sg)) := (h.2.2.2.2.1 0 (by omega)).1
  have l0 : f00 N L P sg (fl N L P sg) < faces N L P sg := by
    unfold f00
    by_cases q : N = 0
    · rw [if_pos q]; omega
    · rw [if_neg q]
      exact fno_K h.2.1 (cn_lt (sg := sg) hV (i := 0) (by omega)).1
  have a0 : aI A 14 (some (f + 3)) 0 = some (I (f00 N L P sg (fl N L P sg))) := by
    rw [← e0]; exact aI_at (j := 0) h.1.k3 (by omega) (by omega)
  unfold fX3_isDark
  rw [rcv_ok h.1.k, bs, C_indexOf h hN hp hg, bs, h.1.r3, bs, a0, bs, C_indexOf h hN hp l0, bs]
  have : fX11_isEven A (ixF N L P sg g - ixF N L P sg (f00 N L P sg (fl N L P sg))) = some (bI (drk N L P sg (fl N L P sg) (ixF N L P sg) g)) := by
    unfold fX11_isEven
    rw [some_bI]
    exact congrArg some (bIc (even_iff _))
  rw [this, bs, rz_bI, bs]
theorem C_middle (h : FO A x f r N L P sg) (hV : VW N L P Q) (hp : faces N L P sg = N + 2) {c : Nat} (hc : c < N) : fX3_middle A (some f) (I c) = some (mid (fl N L P sg) (ixF N L P sg) c) := by
  have hN := hV.1
  unfold fX3_middle
  rw [rcv_ok h.1.k, bs]
  refine for_b (fun j => (sumI (fun k => ixF N L P sg (fno (fl N L P sg) (4 * c + k))) j, I j)) 4 (sumI (fun k => ixF N L P sg (fno (fl N L P sg) (4 * c + k))) 4) rfl (fun j hj => ?_) rfl ?_
  · dsimp only
    rw [if_neg (show ¬ (4 : Int32) ≤ I (j : Int) from le_n (a := 4) (by omega)), C_fo h hN hc hj, bs, C_indexOf h hN hp (fno_K h.2.1 (by omega)), bs, L_1, I_add, ← cst]
    rfl
  · unfold dvI mid
    rw [if_neg (by decide), bs]
theorem add_sumI (v : Int32) (g : Nat → Int32) (n : Nat) : v + sumI g (n + 1) = v + sumI g n + g n := by
  show v + (sumI g n + g n) = _
  rw [Int32.add_assoc]
theorem add_difI (v y : Int32) (g : Nat → Int32) : ∀ n, difI (v + y) g n = v + difI y g n
  | 0 => rfl
  | n + 1 => by
    show difI (v + y) g n - g n = v + (difI y g n - g n)
    rw [add_difI v y g n, Int32.sub_eq_add_neg, Int32.sub_eq_add_neg, Int32.add_assoc]
theorem C_turnsAround (h : FO A x f r N L P sg) (hR : RD A x r N L P Q) (hV : VW N L P Q) (hp : faces N L P sg = N + 2) {g : Nat} (hg : g < faces N L P sg) : fX3_turnsAround A (some f) (I g) = some (trn N (fl N L P sg) (ixF N L P sg) g) := by
  have hN := hV.1
  unfold fX3_turnsAround
  rw [rcv_ok h.1.k, bs, C_indexOf h hN hp hg, bs]
  obtain ⟨v0, hv0⟩ : ∃ v0, v0 = (-2) * ixF N L P sg g := ⟨_, rfl⟩
  rw [← hv0]
  refine for_b (fun j => (v0 + sumI (ixF N L P sg) j, I j)) (faces N L P sg) (v0 + sumI (ixF N L P sg) (faces N L P sg)) ?_ (fun j hj => ?_) ?_ ?_
  · show _ = (v0 + 0, I ((0 : Nat) : Int))
    rw [Int32.add_zero]; rfl
  · dsimp only
    rw [h.1.c, bs, if_neg (le_n (by omega)), h.1.r5, bs, aI_at h.1.k5 hj (by omega), bs, h.2.2.2.2.2 hp j hj, L_1, I_add, ← cst, add_sumI]
  · dsimp only
    rw [h.1.c, bs, if_pos (le_y (by omega))]
  · refine for_b (fun j => (difI (v0 + sumI (ixF N L P sg) (faces N L P sg)) (mid (fl N L P sg) (ixF N L P sg)) j, I j)) N (difI (v0 + sumI (ixF N L P sg) (faces N L P sg)) (mid (fl N L P sg) (ixF N L P sg)) N) rfl (fun j hj => ?_) ?_ ?_
    · dsimp only
      rw [h.1.rw, bs, C_lc hR, bs, if_neg (le_n (by omega)), C_middle h hV hp hj, bs, L_1, I_add, ← cst]
      rfl
    · dsimp only
      rw [h.1.rw, bs, C_lc hR, bs, if_pos (le_y (by omega))]
    · unfold trn
      rw [hp, add_difI, hv0]
      generalize difI (sumI (ixF N L P sg) (N + 2)) (mid (fl N L P sg) (ixF N L P sg)) N = d
      generalize ixF N L P sg g = y
      rw [I_of d, I_of y, show ((-2) : Int32) = I (-2) from rfl, L_2, I_mul, I_mul, I_sub, I_add]
      congr 2
      omega
theorem C_countOfKind (h : FO A x f r N L P sg) (hV : VW N L P Q) (hp : faces N L P sg = N + 2) (dk : Bool) : fX3_countOfKind A (some f) (bI (dk = true)) = some (I (knd N L P sg (fl N L P sg) (ixF N L P sg) dk (N + 2))) := by
  have hN := hV.1
  unfold fX3_countOfKind
  rw [rcv_ok h.1.k, bs]
  refine for_b (fun j => (I (knd N L P sg (fl N L P sg) (ixF N L P sg) dk j), I j)) (N + 2) (I (knd N L P sg (fl N L P sg) (ixF N L P sg) dk (N + 2))) rfl (fun j hj => ?_) ?_ rfl
  · have hl := knd_le N L P sg (fl N L P sg) (ixF N L P sg) dk j
    dsimp only
    rw [h.1.c, bs, hp, if_neg (le_n (by omega)), C_isDark h hV hp (by omega), bs, jp_eq, L_1, I_add, ← cst]
    rw [show knd N L P sg (fl N L P sg) (ixF N L P sg) dk (j + 1) = knd N L P sg (fl N L P sg) (ixF N L P sg) dk j + (if decide (drk N L P sg (fl N L P sg) (ixF N L P sg) j) = dk then 1 else 0) from rfl]
    by_cases q : decide (drk N L P sg (fl N L P sg) (ixF N L P sg) j) = dk
    · rw [if_pos (bI_dk.mpr q), if_pos q, I_add, ← cst]
    · rw [if_neg (fun z => q (bI_dk.mp z)), if_neg q]; rfl
  · dsimp only
    rw [h.1.c, bs, hp, if_pos (le_y (by omega))]
theorem C_heapsJoinedBy (hC : CI A x) (h : FO A x f r N L P sg) (hR : RD A x r N L P Q) (hV : VW N L P Q) (hp : faces N L P sg = N + 2) {s : Nat} (hs : s < 2147483648) (dk : Bool) : ∃ y, fX3_heapsJoinedBy A (some f) (I s) (bI (dk = true)) (some (x + 20)) = some y ∧ y.1 = I (((N + 2 : Nat) : Int) - eff (tra N L P sg (fl N L P sg) (ixF N L P sg) dk) (trb N L P sg (fl N L P sg) (ixF N L P sg) dk) s N) ∧ Fr (hS x) A y.2 := by
  have hN := hV.1
  obtain ⟨a, hae⟩ : ∃ a, a = tra N L P sg (fl N L P sg) (ixF N L P sg) dk := ⟨_, rfl⟩
  obtain ⟨b, hbe⟩ : ∃ b, b = trb N L P sg (fl N L P sg) (ixF N L P sg) dk := ⟨_, rfl⟩
  rw [← hae, ← hbe]
  have kd1 : ∀ c, kd2 N L P sg (fl N L P sg) (ixF N L P sg) dk c ≤ 1 := fun c => by unfold kd2; split <;> omega
  have hab : ∀ c, c < N → a c < N + 2 ∧ b c < N + 2 := fun c hc => by
    have := kd1 c
    rw [← hp, hae, hbe]
    exact ⟨fno_K h.2.1 (by omega), fno_K h.2.1 (by omega)⟩
  unfold fX3_heapsJoinedBy
  obtain ⟨A2, e2, g2, l2⟩ := C_scatter (n := N + 2) hC (by omega)
  rw [rcv_ok h.1.k, bs, h.1.c, bs, hp, e2, bs]
  refine for_eb N (fun c u => u.1 = I c ∧ Fr (hS x) A u.2 ∧ Hp u.2 x (N + 2) (prs a b s c)) (fun t => Fr (hS x) A t ∧ Hp t x (N + 2) (prs a b s N)) ⟨rfl, g2, l2⟩ ?_ ?_ ?_
  · rintro c ⟨u1, u2⟩ hc ⟨e1, g, l1⟩
    dsimp only at e1 g l1 ⊢
    subst e1
    have h' := h.fh g
    have hR' := hR.fh g
    have es : prs a b s (c + 1) = prs a b s c ++ (if s.testBit c then [(a c, b c)] else []) := rfl
    rw [h'.1.rw, bs, C_lc hR', bs, if_neg (le_n (by omega)), C_isIn u2 hs (by omega), bs, jp_eq]
    by_cases q : s.testBit c = true
    · have f0 : fX3_faceOf u2 (some f) (I c) 0 = some (I (fno (fl N L P sg) (4 * c))) := C_fo h' hN hc (k := 0) (by omega)
      have hx14 : (if bI (drk N L P sg (fl N L P sg) (ixF N L P sg) (fno (fl N L P sg) (4 * c))) = bI (dk = true) then (0 : Int32) else 1) = I (kd2 N L P sg (fl N L P sg) (ixF N L P sg) dk c) := by
        unfold kd2
        by_cases z : decide (drk N L P sg (fl N L P sg) (ixF N L P sg) (fno (fl N L P sg) (4 * c))) = dk
        · rw [if_pos (bI_dk.mpr z), if_pos z]; rfl
        · rw [if_neg (fun y => z (bI_dk.mp y)), if_neg z]; rfl
      have k1 := kd1 c
      have fa : fX3_faceOf u2 (some f) (I c) (I (kd2 N L P sg (fl N L P sg) (ixF N L P sg) dk c)) = some (I (a c)) := by
        rw [C_fo h' hN hc (by omega), hae]; rfl
      have fb : fX3_faceOf u2 (some f) (I c) (I (kd2 N L P sg (fl N L P sg) (ixF N L P sg) dk c) + 2) = some (I (b c)) := by
        rw [L_2, I_add, show ((kd2 N L P sg (fl N L P sg) (ixF N L P sg) dk c : Nat) : Int) + 2 = ((kd2 N L P sg (fl N L P sg) (ixF N L P sg) dk c + 2 : Nat) : Int) by omega, C_fo h' hN hc (by omega), hbe]; rfl
      obtain ⟨B, b1, b2, b3⟩ := C_join (hC.fr g) l1 (hab c hc).1 (hab c hc).2
      rw [if_neg (fun z => bI0.mp z q), f0, bs, C_isDark h' hV hp (fno_K h.2.1 (by omega)), bs, jp1_eq, hx14, fa, bs, fb, bs, b1, bs]
      refine ⟨_, rfl, by dsimp only; rw [L_1, I_add, ← cst], g.tr' b2, ?_⟩
      rw [es, if_pos q]; exact b3
    · rw [if_pos (bI0.mpr q)]
      refine ⟨_, rfl, by dsimp only; rw [L_1, I_add, ← cst], g, ?_⟩
      rw [es, if_neg q, List.append_nil]; exact l1
  · rintro ⟨u1, u2⟩ ⟨e1, g, l1⟩
    dsimp only at e1 g l1 ⊢
    subst e1
    exact ⟨u2, by rw [(h.fh g).1.rw, bs, C_lc (hR.fh g), bs, if_pos (le_y (by omega))], g, l1⟩
  · rintro T ⟨gT, lT⟩
    rw [C_hcount (hC.fr gT) lT, bs]
    refine ⟨_, rfl, ?_, gT⟩
    have := (comps_eff (K := N + 2) (s := s) hab).1
    dsimp only
    congr 1
    omega
theorem C_trees (hC : CI A x) (h : FO A x f r N L P sg) (hR : RD A x r N L P Q) (hV : VW N L P Q) (dk : Bool) : ∃ y, fX3_trees A (some f) (bI (dk = true)) (some (x + 20)) = some y ∧ y.1 = I (if faces N L P sg = N + 2 then (trs N L P sg (fl N L P sg) (ixF N L P sg) dk (2 ^ N) : Int) else -1) ∧ Fr (hS x) A y.2 := by
  have hN := hV.1
  have hp2 := p2_lt hN
  unfold fX3_trees
  rw [rcv_ok h.1.k, bs, h.1.pl, bs]
  by_cases hp : faces N L P sg = N + 2
  rotate_left
  · rw [if_pos (bI0.mpr hp), if_neg hp]; exact ⟨_, rfl, rfl, Fr.rf⟩
  have hkd := knd_le N L P sg (fl N L P sg) (ixF N L P sg) dk (N + 2)
  rw [if_neg (fun z => bI0.mp z hp), if_pos hp, C_countOfKind h hV hp dk, bs]
  obtain ⟨kd, hkde⟩ : ∃ kd, kd = knd N L P sg (fl N L P sg) (ixF N L P sg) dk (N + 2) := ⟨_, rfl⟩
  rw [← hkde] at hkd ⊢
  refine for_eb (2 ^ N) (fun j u => u.1 = I (trs N L P sg (fl N L P sg) (ixF N L P sg) dk j) ∧ u.2.1 = I j ∧ Fr (hS x) A u.2.2) (fun t => t.1 = I (trs N L P sg (fl N L P sg) (ixF N L P sg) dk (2 ^ N)) ∧ Fr (hS x) A t.2) ⟨rfl, rfl, Fr.rf⟩ ?_ ?_ (fun t ht => ⟨_, rfl, ht.1, ht.2⟩)
  · rintro j ⟨u1, u2, u3⟩ hj ⟨e1, e2, g⟩
    dsimp only at e1 e2 g ⊢
    subst e1; subst e2
    have h' := h.fh g
    have hR' := hR.fh g
    have hct := cnt_le j 16
    have htl := trs_le N L P sg (fl N L P sg) (ixF N L P sg) dk j
    have hef := eff_le (tra N L P sg (fl N L P sg) (ixF N L P sg) dk) (trb N L P sg (fl N L P sg) (ixF N L P sg) dk) j N
    have hs : trs N L P sg (fl N L P sg) (ixF N L P sg) dk (j + 1) = trs N L P sg (fl N L P sg) (ixF N L P sg) dk j + (if (cnt j 16 : Int) = (kd : Int) - 1 ∧ (kd : Int) - eff (tra N L P sg (fl N L P sg) (ixF N L P sg) dk) (trb N L P sg (fl N L P sg) (ixF N L P sg) dk) j N = 1 then 1 else 0) := by rw [hkde]; rfl
    rw [h'.1.rw, bs, C_lc hR', bs, I_shl1 (by omega), if_neg (le_n (by omega)), C_bitCount u3 (by omega), bs, jp_eq, L_1, I_sub, I_add, ← cst, hs]
    by_cases q : (cnt j 16 : Int) = (kd : Int) - 1
    · obtain ⟨y, y1, y2, y3⟩ := C_heapsJoinedBy (hC.fr g) h' hR' hV hp (s := j) (by omega) dk
      rw [if_pos (by rw [q]), y1, bs, (h'.fh y3).1.c, bs, y2, hp, I_sub]
      by_cases q2 : (kd : Int) - eff (tra N L P sg (fl N L P sg) (ixF N L P sg) dk) (trb N L P sg (fl N L P sg) (ixF N L P sg) dk) j N = 1
      · rw [if_pos (by congr 1; omega), if_pos ⟨q, q2⟩, I_add, ← cst]
        exact ⟨_, rfl, rfl, rfl, g.tr' y3⟩
      · rw [if_neg (eq_n (by omega)), if_neg (fun z => q2 z.2)]
        exact ⟨_, rfl, rfl, rfl, g.tr' y3⟩
    · rw [if_neg (eq_n (by omega)), if_neg (fun z => q z.1)]
      exact ⟨_, rfl, rfl, rfl, g⟩
  · rintro ⟨u1, u2, u3⟩ ⟨e1, e2, g⟩
    dsimp only at e1 e2 g ⊢
    subst e1; subst e2
    exact ⟨_, by rw [(h.fh g).1.rw, bs, C_lc (hR.fh g), bs, I_shl1 (by omega), if_pos (le_y ⟨Bd_n (by omega), Bd_n (by omega), Int.le_refl _⟩)], rfl, g⟩
end
