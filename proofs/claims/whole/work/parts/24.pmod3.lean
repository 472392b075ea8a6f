/-! faces in the reference -/
abbrev nx (N i : Nat) : Nat := (i + 1) % (2 * N)
def lvA (L P : Nat → Nat) (sg i : Nat) : Nat := if P (L i) = i then 0 else if sg.testBit (L i) then 3 else 1
def cmA (N : Nat) (L P : Nat → Nat) (sg i : Nat) : Nat := if P (L (nx N i)) = nx N i then 2 else if sg.testBit (L (nx N i)) then 1 else 3
def lC (L P : Nat → Nat) (sg i : Nat) : Nat := 4 * L i + lvA L P sg i
def rC (L P : Nat → Nat) (sg i : Nat) : Nat := 4 * L i + (lvA L P sg i + 3) % 4
def lF (N : Nat) (L P : Nat → Nat) (sg i : Nat) : Nat := 4 * L (nx N i) + (cmA N L P sg i + 3) % 4
def rF (N : Nat) (L P : Nat → Nat) (sg i : Nat) : Nat := 4 * L (nx N i) + cmA N L P sg i
def fR (N : Nat) (L P : Nat → Nat) (sg : Nat) : Nat → List (Nat × Nat)
  | 0 => []
  | i + 1 => fR N L P sg i ++ [(lC L P sg i, lF N L P sg i), (rC L P sg i, rF N L P sg i)]
/-- the face's label of a corner -/
noncomputable def fl (N : Nat) (L P : Nat → Nat) (sg : Nat) : Nat → Nat := theLab (4 * N) (fR N L P sg (2 * N))
noncomputable def faces (N : Nat) (L P : Nat → Nat) (sg : Nat) : Nat := if N = 0 then 2 else comps (4 * N) (fR N L P sg (2 * N))
theorem lvA_lt (L P : Nat → Nat) (sg i : Nat) : lvA L P sg i < 4 := by unfold lvA; split <;> (try split) <;> omega
theorem cmA_lt (N : Nat) (L P : Nat → Nat) (sg i : Nat) : cmA N L P sg i < 4 := by unfold cmA; split <;> (try split) <;> omega
section FC
variable {A : AH} {m t N : Nat} {L P Q : Nat → Nat} {sg : Nat}
theorem nx_lt (hV : VW N L P Q) {i : Nat} (hi : i < 2 * N) : nx N i < 2 * N ∧ L (nx N i) < N := by
  have h := Nat.mod_lt (i + 1) (show 2 * N > 0 by omega)
  exact ⟨h, (hV.2.2 _ h).1⟩
theorem cn_lt (hV : VW N L P Q) {i : Nat} (hi : i < 2 * N) : lC L P sg i < 4 * N ∧ rC L P sg i < 4 * N ∧ lF N L P sg i < 4 * N ∧ rF N L P sg i < 4 * N := by
  have h1 := (hV.2.2 i hi).1
  have h2 := (nx_lt hV hi).2
  have h3 := lvA_lt L P sg i
  have h4 := cmA_lt N L P sg i
  unfold lC rC lF rF
  omega
theorem fR_lt (hV : VW N L P Q) : ∀ n, n ≤ 2 * N → ∀ q ∈ fR N L P sg n, q.1 < 4 * N ∧ q.2 < 4 * N
  | 0, _, q, h => absurd h List.not_mem_nil
  | i + 1, hn, q, h => by
    obtain ⟨h1, h2, h3, h4⟩ := cn_lt (sg := sg) hV (i := i) (by omega)
    rcases List.mem_append.mp h with h | h
    · exact fR_lt hV i (by omega) q h
    · simp only [List.mem_cons, List.not_mem_nil, or_false] at h
      rcases h with rfl | rfl
      · exact ⟨h1, h3⟩
      · exact ⟨h2, h4⟩
theorem M_leavesAs (hM : MI A m) (hW : WE A m t N L) (hV : VW N L P Q) (hS : Hi A 399 m = I sg) (hsg : sg < 2147483648) {i : Nat} (hi : i < 2 * N) : fX12_leavesAs A (some m) (I t) (I i) = some (I (lvA L P sg i)) := by
  have hN := hV.1
  have hl := (hV.2.2 i hi).1
  obtain ⟨p1, p2, -, -⟩ := hV.2.1 (L i) hl
  unfold fX12_leavesAs lvA
  rw [hM.rc, bs, M_letterAt hM hW hi, bs, L_0, M_pl0 hM hW hV hl, bs]
  by_cases h : P (L i) = i
  · rw [if_pos (by rw [h]), if_pos h]; rfl
  · rw [if_neg (eq_n (by omega)), if_neg h, gI_ok hM.k, bs, hS, M_has A hsg (by omega), bs]
    by_cases q : sg.testBit (L i) = true
    · rw [if_neg (fun z => bz.mp z q), if_pos q]; rfl
    · rw [if_pos (bz.mpr q), if_neg q]; rfl
theorem I_nx {N i : Nat} (hN : N ≤ 8) (hi : i < 2 * N) : rmI (I (i : Int) + 1) (2 * I (N : Int)) = some (I ((nx N i : Nat) : Int)) := by
  rw [L_1, L_2, I_add, I_mul, I_rem (by omega) (by omega) (by omega) (by omega), Int.natCast_emod]
  congr 3 <;> omega
theorem M_comesAs (hM : MI A m) (hW : WE A m t N L) (hV : VW N L P Q) (hS : Hi A 399 m = I sg) (hsg : sg < 2147483648) {i : Nat} (hi : i < 2 * N) : fX12_comesAs A (some m) (I t) (I i) = some (I (cmA N L P sg i)) := by
  have hN := hV.1
  obtain ⟨h1, hl⟩ := nx_lt hV hi
  obtain ⟨p1, p2, -, -⟩ := hV.2.1 (L (nx N i)) hl
  unfold fX12_comesAs cmA
  rw [hM.rc, bs, M_size hM hW, bs, I_nx hN hi, bs, M_letterAt hM hW h1, bs, L_0, M_pl0 hM hW hV hl, bs]
  by_cases h : P (L (nx N i)) = nx N i
  · rw [if_pos (by rw [h]), if_pos h]; rfl
  · rw [if_neg (eq_n ⟨Bd_n (by omega), Bd_n (by omega), fun z => h (Int.natCast_inj.mp z)⟩), if_neg h, gI_ok hM.k, bs, hS, M_has A hsg (by omega), bs]
    by_cases q : sg.testBit (L (nx N i)) = true
    · rw [if_neg (fun z => bz.mp z q), if_pos q]; rfl
    · rw [if_pos (bz.mpr q), if_neg q]; rfl
theorem I_m4 {k : Nat} (h : k < 4) : rmI (I (k : Int) + 3) 4 = some (I (((k + 3) % 4 : Nat) : Int)) := by
  rw [L_3, L_4, I_add, I_rem (by omega) (by omega) (by omega) (by omega), Int.natCast_emod]
  congr 3
theorem M_lC (hM : MI A m) (hW : WE A m t N L) (hV : VW N L P Q) (hS : Hi A 399 m = I sg) (hsg : sg < 2147483648) {i : Nat} (hi : i < 2 * N) : fX12_leftCorner A (some m) (I t) (I i) = some (I (lC L P sg i)) := by
  unfold fX12_leftCorner lC
  rw [hM.rc, bs, M_letterAt hM hW hi, bs, M_leavesAs hM hW hV hS hsg hi, bs, L_4, I_mul, I_add]
  congr 2
theorem M_rC (hM : MI A m) (hW : WE A m t N L) (hV : VW N L P Q) (hS : Hi A 399 m = I sg) (hsg : sg < 2147483648) {i : Nat} (hi : i < 2 * N) : fX12_rightCorner A (some m) (I t) (I i) = some (I (rC L P sg i)) := by
  unfold fX12_rightCorner rC
  rw [hM.rc, bs, M_letterAt hM hW hi, bs, M_leavesAs hM hW hV hS hsg hi, bs, I_m4 (lvA_lt _ _ _ _), bs, L_4, I_mul, I_add]
  congr 2
theorem M_lF (hM : MI A m) (hW : WE A m t N L) (hV : VW N L P Q) (hS : Hi A 399 m = I sg) (hsg : sg < 2147483648) {i : Nat} (hi : i < 2 * N) : fX12_leftFar A (some m) (I t) (I i) = some (I (lF N L P sg i)) := by
  unfold fX12_leftFar lF
  rw [hM.rc, bs, M_size hM hW, bs, I_nx hV.1 hi, bs, M_letterAt hM hW (nx_lt hV hi).1, bs, M_comesAs hM hW hV hS hsg hi, bs, I_m4 (cmA_lt _ _ _ _ _), bs, L_4, I_mul, I_add]
  congr 2
theorem M_rF (hM : MI A m) (hW : WE A m t N L) (hV : VW N L P Q) (hS : Hi A 399 m = I sg) (hsg : sg < 2147483648) {i : Nat} (hi : i < 2 * N) : fX12_rightFar A (some m) (I t) (I i) = some (I (rF N L P sg i)) := by
  unfold fX12_rightFar rF
  rw [hM.rc, bs, M_size hM hW, bs, I_nx hV.1 hi, bs, M_letterAt hM hW (nx_lt hV hi).1, bs, M_comesAs hM hW hV hS hsg hi, bs, L_4, I_mul, I_add]
  congr 2
/-- a step that writes labels and the mark alone -/
theorem M_joinsS (hM : MI A m) {n : Nat} {lab : Nat → Nat} (hn : n ≤ 32) (hl : LbS A m n lab) (hb : ∀ k, k < n → lab k < 1000) {a b : Nat} (ha : a < n) (hb' : b < n) {mv : Bool} (hm : Hi A 398 m = bI (mv = true)) :
    ∃ A', fX12_joins A (some m) (I a) (I b) = some A' ∧ Ms m A A' ∧ LbS A' m n (jn lab a b) ∧ Hi A' 398 m = bI ((mv || decide (lab a ≠ lab b)) = true) ∧ Hi A' 399 m = Hi A 399 m := by
  sorry
end FC
