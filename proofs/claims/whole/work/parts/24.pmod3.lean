/-! faces in the reference -/
abbrev nx (N i : Nat) : Nat := (i + 1) % (2 * N)
def lvA (L P : Nat → Nat) (sg i : Nat) : Nat := if P (L i) = i then 0 else if sg.testBit (L i) then 3 else 1
def cmA (N : Nat) (L P : Nat → Nat) (sg i : Nat) : Nat := if P (L (nx N i)) = nx N i then 2 else if sg.testBit (L (nx N i)) then 1 else 3
def lC (L P : Nat → Nat) (sg i : Nat) : Nat := 4 * L i + lvA L P sg i
def rC (L P : Nat → Nat) (sg i : Nat) : Nat := 4 * L i + (lvA L P sg i + 3) % 4
def lF (N : Nat) (L P : Nat → Nat) (sg i : Nat) : Nat := 4 * L (nx N i) + (cmA N L P sg i + 3) % 4
def rF (N : Nat) (L P : Nat → Nat) (sg i : Nat) : Nat := 4 * L (nx N i) + cmA N L P sg i
def fR (N : Nat) (L P : Nat → Nat) (sg : Nat) : Nat → List (Nat × Nat)
  | 0 => []
  | i + 1 => fR N L P sg i ++ [(lC L P sg i, lF N L P sg i), (rC L P sg i, rF N L P sg i)]
/-- the face's label of a corner -/
noncomputable def fl (N : Nat) (L P : Nat → Nat) (sg : Nat) : Nat → Nat := theLab (4 * N) (fR N L P sg (2 * N))
noncomputable def faces (N : Nat) (L P : Nat → Nat) (sg : Nat) : Nat := if N = 0 then 2 else comps (4 * N) (fR N L P sg (2 * N))
theorem lvA_lt (L P : Nat → Nat) (sg i : Nat) : lvA L P sg i < 4 := by unfold lvA; split <;> (try split) <;> omega
theorem cmA_lt (N : Nat) (L P : Nat → Nat) (sg i : Nat) : cmA N L P sg i < 4 := by unfold cmA; split <;> (try split) <;> omega
section FC
variable {A : AH} {m t N : Nat} {L P Q : Nat → Nat} {sg : Nat}
theorem nx_lt (hV : VW N L P Q) {i : Nat} (hi : i < 2 * N) : nx N i < 2 * N ∧ L (nx N i) < N := by
  have h := Nat.mod_lt (i + 1) (show 2 * N > 0 by omega)
  exact ⟨h, (hV.2.2 _ h).1⟩
theorem cn_lt (hV : VW N L P Q) {i : Nat} (hi : i < 2 * N) : lC L P sg i < 4 * N ∧ rC L P sg i < 4 * N ∧ lF N L P sg i < 4 * N ∧ rF N L P sg i < 4 * N := by
  have h1 := (hV.2.2 i hi).1
  have h2 := (nx_lt hV hi).2
  have h3 := lvA_lt L P sg i
  have h4 := cmA_lt N L P sg i
  unfold lC rC lF rF
  omega
theorem fR_lt (hV : VW N L P Q) : ∀ n, n ≤ 2 * N → ∀ q ∈ fR N L P sg n, q.1 < 4 * N ∧ q.2 < 4 * N
  | 0, _, q, h => absurd h List.not_mem_nil
  | i + 1, hn, q, h => by
    obtain ⟨h1, h2, h3, h4⟩ := cn_lt (sg := sg) hV (i := i) (by omega)
    rcases List.mem_append.mp h with h | h
    · exact fR_lt hV i (by omega) q h
    · simp only [List.mem_cons, List.not_mem_nil, or_false] at h
      rcases h with rfl | rfl
      · exact ⟨h1, h3⟩
      · exact ⟨h2, h4⟩
theorem M_leavesAs (hM : MI A m) (hW : WE A m t N L) (hV : VW N L P Q) (hS : Hi A 399 m = I sg) (hsg : sg < 2147483648) {i : Nat} (hi : i < 2 * N) : fX12_leavesAs A (some m) (I t) (I i) = some (I (lvA L P sg i)) := by
  have hN := hV.1
  have hl := (hV.2.2 i hi).1
  obtain ⟨p1, p2, -, -⟩ := hV.2.1 (L i) hl
  unfold fX12_leavesAs lvA
  rw [hM.rc, bs, M_letterAt hM hW hi, bs, L_0, M_pl0 hM hW hV hl, bs]
  by_cases h : P (L i) = i
  · rw [if_pos (by rw [h]), if_pos h]; rfl
  · rw [if_neg (eq_n (by omega)), if_neg h, gI_ok hM.k, bs, hS, M_has A hsg (by omega), bs]
    by_cases q : sg.testBit (L i) = true
    · rw [if_neg (fun z => bz.mp z q), if_pos q]; rfl
    · rw [if_pos (bz.mpr q), if_neg q]; rfl
theorem I_nx {N i : Nat} (hN : N ≤ 8) (hi : i < 2 * N) : rmI (I (i : Int) + 1) (2 * I (N : Int)) = some (I ((nx N i : Nat) : Int)) := by
  rw [L_1, L_2, I_add, I_mul, I_rem (by omega) (by omega) (by omega) (by omega), Int.natCast_emod]
  congr 3 <;> omega
theorem M_comesAs (hM : MI A m) (hW : WE A m t N L) (hV : VW N L P Q) (hS : Hi A 399 m = I sg) (hsg : sg < 2147483648) {i : Nat} (hi : i < 2 * N) : fX12_comesAs A (some m) (I t) (I i) = some (I (cmA N L P sg i)) := by
  have hN := hV.1
  obtain ⟨h1, hl⟩ := nx_lt hV hi
  obtain ⟨p1, p2, -, -⟩ := hV.2.1 (L (nx N i)) hl
  unfold fX12_comesAs cmA
  rw [hM.rc, bs, M_size hM hW, bs, I_nx hN hi, bs, M_letterAt hM hW h1, bs, L_0, M_pl0 hM hW hV hl, bs]
  by_cases h : P (L (nx N i)) = nx N i
  · rw [if_pos (by rw [h]), if_pos h]; rfl
  · rw [if_neg (eq_n ⟨Bd_n (by omega), Bd_n (by omega), fun z => h (Int.natCast_inj.mp z)⟩), if_neg h, gI_ok hM.k, bs, hS, M_has A hsg (by omega), bs]
    by_cases q : sg.testBit (L (nx N i)) = true
    · rw [if_neg (fun z => bz.mp z q), if_pos q]; rfl
    · rw [if_pos (bz.mpr q), if_neg q]; rfl
theorem I_m4 {k : Nat} (h : k < 4) : rmI (I (k : Int) + 3) 4 = some (I (((k + 3) % 4 : Nat) : Int)) := by
  rw [L_3, L_4, I_add, I_rem (by omega) (by omega) (by omega) (by omega), Int.natCast_emod]
  congr 3
theorem M_lC (hM : MI A m) (hW : WE A m t N L) (hV : VW N L P Q) (hS : Hi A 399 m = I sg) (hsg : sg < 2147483648) {i : Nat} (hi : i < 2 * N) : fX12_leftCorner A (some m) (I t) (I i) = some (I (lC L P sg i)) := by
  unfold fX12_leftCorner lC
  rw [hM.rc, bs, M_letterAt hM hW hi, bs, M_leavesAs hM hW hV hS hsg hi, bs, L_4, I_mul, I_add]
  congr 2
theorem M_rC (hM : MI A m) (hW : WE A m t N L) (hV : VW N L P Q) (hS : Hi A 399 m = I sg) (hsg : sg < 2147483648) {i : Nat} (hi : i < 2 * N) : fX12_rightCorner A (some m) (I t) (I i) = some (I (rC L P sg i)) := by
  unfold fX12_rightCorner rC
  rw [hM.rc, bs, M_letterAt hM hW hi, bs, M_leavesAs hM hW hV hS hsg hi, bs, I_m4 (lvA_lt _ _ _ _), bs, L_4, I_mul, I_add]
  congr 2
theorem M_lF (hM : MI A m) (hW : WE A m t N L) (hV : VW N L P Q) (hS : Hi A 399 m = I sg) (hsg : sg < 2147483648) {i : Nat} (hi : i < 2 * N) : fX12_leftFar A (some m) (I t) (I i) = some (I (lF N L P sg i)) := by
  unfold fX12_leftFar lF
  rw [hM.rc, bs, M_size hM hW, bs, I_nx hV.1 hi, bs, M_letterAt hM hW (nx_lt hV hi).1, bs, M_comesAs hM hW hV hS hsg hi, bs, I_m4 (cmA_lt _ _ _ _ _), bs, L_4, I_mul, I_add]
  congr 2
theorem M_rF (hM : MI A m) (hW : WE A m t N L) (hV : VW N L P Q) (hS : Hi A 399 m = I sg) (hsg : sg < 2147483648) {i : Nat} (hi : i < 2 * N) : fX12_rightFar A (some m) (I t) (I i) = some (I (rF N L P sg i)) := by
  unfold fX12_rightFar rF
  rw [hM.rc, bs, M_size hM hW, bs, I_nx hV.1 hi, bs, M_letterAt hM hW (nx_lt hV hi).1, bs, M_comesAs hM hW hV hS hsg hi, bs, L_4, I_mul, I_add]
  congr 2
theorem M_laysFaces (hM : MI A m) (hW : WE A m t N L) (hV : VW N L P Q) (hsg : sg < 2147483648) : ∃ r, fX12_laysFaces A (some m) (I t) (I sg) = some r ∧ r.1 = I (faces N L P sg) ∧ Ml m (si A 399 m (I sg)) r.2 ∧ IsLab (4 * N) (fR N L P sg (2 * N)) (fl N L P sg) ∧ LbS r.2 m (4 * N) (fl N L P sg) := by
  have hN := hV.1
  unfold fX12_laysFaces faces
  rw [hM.rc, bs, pI_ok hM.k, bs]
  have g0 : Ms m A (si A 399 m (I sg)) := Ms.si (by omega)
  have hM0 := hM.ms g0
  have hW0 := hW.ms g0
  have hS0 : Hi (si A 399 m (I sg)) 399 m = I sg := hi_si
  generalize si A 399 m (I sg) = A0 at g0 hM0 hW0 hS0 ⊢
  rw [M_size hM0 hW0, bs, L_4, I_mul]
  obtain ⟨A2, e2, g2, l2⟩ := M_startsLabels (n := 4 * N) hM0 (by omega)
  rw [show (4 * (N : Int)) = ((4 * N : Nat) : Int) by omega, e2, bs, pZ_1 (hM0.ms g2.1).k, bs]
  refine whl_lab (n := 4 * N) (R := fR N L P sg (2 * N)) (Fr := Ml m A0) (fR_lt hV (2 * N) (Nat.le_refl _)) (by omega) (g2.tr Ml.si) l2 hi_si (fun B hB gB => ?_) (fun B lab gB hB lB bB => ?_) (fun T lab gT lT hT => ?_)
  · rw [gI_ok (hM0.ms gB.1).k, bs, hB, if_pos bI_f]
  · have hMB := hM0.ms gB.1
    rw [gI_ok hMB.k, bs, hB, if_neg (by decide), pZ_0 hMB.k, bs]
    refine for_eb (2 * N) (fun i s' => s'.1 = I i ∧ Ml m A0 s'.2 ∧ LbS s'.2 m (4 * N) (jnl lab (fR N L P sg i)) ∧ Hi s'.2 398 m = bI (mvl lab (fR N L P sg i) = true)) (fun t => Ml m A0 t ∧ LbS t m (4 * N) (jnl lab (fR N L P sg (2 * N))) ∧ Hi t 398 m = bI (mvl lab (fR N L P sg (2 * N)) = true)) ⟨rfl, gB.tr Ml.si, lB, hi_si⟩ ?_ ?_ (fun t ht => ⟨.inl t, rfl, t, rfl, ht⟩)
    · rintro i ⟨s1, s2⟩ hi ⟨e1, g1, l1, m1⟩
      dsimp only at e1 g1 l1 m1 ⊢
      subst e1
      have hM1 := hM0.ms g1.1
      have hW1 := hW0.ms g1.1
      have hS1 : Hi s2 399 m = I sg := by rw [g1.2.2 399 m (by omega)]; exact hS0
      obtain ⟨c1, c2, c3, c4⟩ := cn_lt (sg := sg) hV hi
      obtain ⟨A', q1, q2, q3, q4⟩ := M_joins hM1 (by omega) l1 (jl_b bB _) c1 c3 m1
      have hM2 := hM1.ms q2.1
      have hW2 := hW1.ms q2.1
      have hS2 : Hi A' 399 m = I sg := by rw [q2.2.2 399 m (by omega)]; exact hS1
      obtain ⟨A'', r1, r2, r3, r4⟩ := M_joins hM2 (by omega) q3 (fun k hk => Nat.lt_of_le_of_lt (jn_le _ _ _ _) (jl_b bB _ k hk)) c2 c4 q4
      rw [M_size hM1 hW1, bs, L_2, I_mul, if_neg (le_n (by omega)), M_lC hM1 hW1 hV hS1 hsg hi, bs, M_lF hM1 hW1 hV hS1 hsg hi, bs, q1, bs, M_rC hM2 hW2 hV hS2 hsg hi, bs, M_rF hM2 hW2 hV hS2 hsg hi, bs, r1, bs]
      refine ⟨_, rfl, by dsimp only; rw [L_1, I_add, ← cst], g1.tr (q2.tr r2), ?_, ?_⟩
      · rw [show fR N L P sg (i + 1) = fR N L P sg i ++ [(lC L P sg i, lF N L P sg i), (rC L P sg i, rF N L P sg i)] from rfl, jl2]; exact r3
      · rw [show fR N L P sg (i + 1) = fR N L P sg i ++ [(lC L P sg i, lF N L P sg i), (rC L P sg i, rF N L P sg i)] from rfl, ml2]; exact r4
    · rintro ⟨s1, s2⟩ ⟨e1, g1, l1, m1⟩
      dsimp only at e1 g1 l1 m1 ⊢
      subst e1
      exact ⟨_, by rw [M_size (hM0.ms g1.1) (hW0.ms g1.1), bs, L_2, I_mul, if_pos (le_y (by omega))], g1, l1, m1⟩
  · have hMT := hM0.ms gT.1
    have hlab : LbS T m (4 * N) (fl N L P sg) := fun k hk => by rw [lT k hk, hT.the k hk]; rfl
    rw [M_size hMT (hW0.ms gT.1), bs]
    by_cases h0 : N = 0
    · rw [if_pos (by rw [h0]; rfl), if_pos h0]
      exact ⟨_, rfl, rfl, gT, hT.isThe, hlab⟩
    · rw [if_neg (by rw [L_0]; exact eq_n (by omega)), if_neg h0, bs, show I 4 * I (N : Int) = I ((4 * N : Nat) : Int) by rw [I_mul]; congr 1, M_heaps hMT (by omega) lT (fun k hk => by have := hT.1 k hk; omega), bs]
      exact ⟨_, rfl, by rw [comps_of hT], gT, hT.isThe, hlab⟩
theorem faces_le (N : Nat) (L P : Nat → Nat) (sg : Nat) : faces N L P sg ≤ 4 * N + 2 := by
  unfold faces
  split
  · omega
  · have := comps_le (4 * N) (fR N L P sg (2 * N)); omega
theorem M_isPlane (hM : MI A m) (hW : WE A m t N L) (hV : VW N L P Q) (hsg : sg < 2147483648) : ∃ r, fX12_isPlane A (some m) (I t) (I sg) = some r ∧ r.1 = bI (faces N L P sg = N + 2) ∧ Ml m (si A 399 m (I sg)) r.2 ∧ IsLab (4 * N) (fR N L P sg (2 * N)) (fl N L P sg) ∧ LbS r.2 m (4 * N) (fl N L P sg) := by
  have hN := hV.1
  obtain ⟨r, h1, h2, h3, h4, h5⟩ := M_laysFaces hM hW hV hsg
  have g : Ms m A r.2 := (Ms.si (by omega)).tr h3.1
  have hf := faces_le N L P sg
  unfold fX12_isPlane
  rw [hM.rc, bs, h1, bs, M_size (hM.ms g) (hW.ms g), bs, h2, L_2, I_add]
  by_cases q : faces N L P sg = N + 2
  · rw [if_pos (by rw [q]; rfl)]
    exact ⟨_, rfl, (bI1.mpr q).symm, h3, h4, h5⟩
  · rw [if_neg (eq_n (by omega))]
    exact ⟨_, rfl, (bI0.mpr q).symm, h3, h4, h5⟩
/-- how many of the signs below n it can be drawn by -/
noncomputable def dws (N : Nat) (L P : Nat → Nat) : Nat → Nat
  | 0 => 0
  | s + 1 => dws N L P s + (if faces N L P s = N + 2 then 1 else 0)
/-- the least of the signs below n by which it can be drawn; none: -1 -/
noncomputable def dwn (N : Nat) (L P : Nat → Nat) : Nat → Int
  | 0 => -1
  | s + 1 => if dwn N L P s = -1 ∧ faces N L P s = N + 2 then s else dwn N L P s
theorem dws_le (N : Nat) (L P : Nat → Nat) : ∀ n, dws N L P n ≤ n
  | 0 => Nat.le_refl _
  | n + 1 => by
    have := dws_le N L P n
    unfold dws
    split <;> omega
theorem dwn_bd (N : Nat) (L P : Nat → Nat) : ∀ n, -1 ≤ dwn N L P n ∧ dwn N L P n < n
  | 0 => by unfold dwn; omega
  | n + 1 => by
    have := dwn_bd N L P n
    unfold dwn
    split <;> omega
theorem M_drawings (hM : MI A m) (hW : WE A m t N L) (hV : VW N L P Q) : ∃ r, fX12_drawings A (some m) (I t) = some r ∧ r.1 = I (dws N L P (2 ^ N)) ∧ Ms m A r.2 := by
  have hN := hV.1
  have h2 := p2_lt hN
  unfold fX12_drawings
  rw [hM.rc, bs]
  refine for_eb (2 ^ N) (fun j s => s.1 = I (dws N L P j) ∧ s.2.1 = I j ∧ Ms m A s.2.2) (fun t => t.1 = I (dws N L P (2 ^ N)) ∧ Ms m A t.2) ⟨rfl, rfl, Ms.rf⟩ ?_ ?_ (fun t ht => ⟨_, rfl, ht⟩)
  · rintro j ⟨s1, s2, s3⟩ hj ⟨e1, e2, g⟩
    dsimp only at e1 e2 g ⊢
    subst e1; subst e2
    obtain ⟨r, q1, q2, q3, -⟩ := M_isPlane (hM.ms g) (hW.ms g) hV (sg := j) (by omega)
    rw [M_size (hM.ms g) (hW.ms g), bs, I_shl1 (by omega), if_neg (le_n (by omega)), q1, bs, jp1_eq, q2]
    refine ⟨_, rfl, ?_, by dsimp only; rw [L_1, I_add, ← cst], g.tr ((Ms.si (by omega)).tr q3.1)⟩
    dsimp only
    rw [show dws N L P (j + 1) = dws N L P j + (if faces N L P j = N + 2 then 1 else 0) from rfl]
    by_cases z : faces N L P j = N + 2
    · rw [if_neg (fun q => bI0.mp q z), if_pos z, L_1, I_add, cst]
    · rw [if_pos (bI0.mpr z), if_neg z, L_0, I_add, Nat.add_zero, Int.add_zero]
  · rintro ⟨s1, s2, s3⟩ ⟨e1, e2, g⟩
    dsimp only at e1 e2 g ⊢
    subst e1; subst e2
    exact ⟨_, by rw [M_size (hM.ms g) (hW.ms g), bs, I_shl1 (by omega), if_pos (le_y ⟨Bd_n (by omega), Bd_n (by omega), Int.le_refl _⟩)], rfl, g⟩
end FC
