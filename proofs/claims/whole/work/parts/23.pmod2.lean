/-! parts, rings, faces in the reference -/
def pin (P Q : Nat → Nat) (c : Nat) : Nat → List (Nat × Nat)
  | 0 => []
  | j + 1 => pin P Q c j ++ (if Btw P Q c j then [(c, j)] else [])
def ptR (P Q : Nat → Nat) : Nat → List (Nat × Nat)
  | 0 => []
  | c + 1 => ptR P Q c ++ pin P Q c c
theorem pin_lt (P Q : Nat → Nat) (c : Nat) : ∀ j, ∀ q ∈ pin P Q c j, q.1 = c ∧ q.2 < j
  | 0, q, h => absurd h List.not_mem_nil
  | j + 1, q, h => by
    rcases List.mem_append.mp h with h | h
    · have := pin_lt P Q c j q h; omega
    · split at h
      · rw [List.mem_singleton.mp h]; exact ⟨rfl, by simp⟩
      · exact absurd h List.not_mem_nil
theorem ptR_lt (P Q : Nat → Nat) : ∀ n, ∀ q ∈ ptR P Q n, q.1 < n ∧ q.2 < n
  | 0, q, h => absurd h List.not_mem_nil
  | c + 1, q, h => by
    rcases List.mem_append.mp h with h | h
    · have := ptR_lt P Q c q h; omega
    · have := pin_lt P Q c c q h; omega
theorem jl_b {lab : Nat → Nat} {n : Nat} (h : ∀ k, k < n → lab k < 1000) (R : List (Nat × Nat)) : ∀ k, k < n → jnl lab R k < 1000 := fun k hk => Nat.lt_of_le_of_lt (jnl_le R lab k) (h k hk)
theorem jl1 (lab : Nat → Nat) (R : List (Nat × Nat)) (a b : Nat) : jnl lab (R ++ [(a, b)]) = jn (jnl lab R) a b := jnl_app lab R [(a, b)]
theorem ml1 (lab : Nat → Nat) (R : List (Nat × Nat)) (a b : Nat) : mvl lab (R ++ [(a, b)]) = (mvl lab R || decide (jnl lab R a ≠ jnl lab R b)) := by
  rw [mvl_app]
  show (_ || (decide _ || false)) = _
  rw [Bool.or_false]
theorem bz {P : Prop} [Decidable P] : bI P = I 0 ↔ ¬ P := bI0
theorem bI_t : bI (true = true) = 1 := rfl
theorem bI_f : bI (false = true) = 0 := rfl
section MP
variable {A : AH} {m t N : Nat} {L P Q : Nat → Nat}
theorem M_parts (hM : MI A m) (hW : WE A m t N L) (hV : VW N L P Q) : ∃ r, fX12_parts A (some m) (I t) = some r ∧ r.1 = I (comps N (ptR P Q N)) ∧ Ms m A r.2 := by
  have hN := hV.1
  unfold fX12_parts
  rw [hM.rc, bs, M_size hM hW, bs]
  obtain ⟨A2, e2, g2, l2⟩ := M_startsLabels (n := N) hM (by omega)
  rw [e2, bs, pZ_1 (hM.ms g2.1).k, bs]
  refine whl_lab (n := N) (R := ptR P Q N) (Fr := Ms m A) (ptR_lt P Q N) (by omega) (g2.1.tr (Ms.si (by omega))) l2 hi_si (fun B hB gB => ?_) (fun B lab gB hB lB bB => ?_) (fun T lab gT lT hT => ?_)
  · rw [gI_ok (hM.ms gB).k, bs, hB, if_pos bI_f]
  · have hMB := hM.ms gB
    rw [gI_ok hMB.k, bs, hB, if_neg (by decide), pZ_0 hMB.k, bs]
    refine for_eb2 N (fun c s => s.1 = I c ∧ Ms m A s.2 ∧ LbS s.2 m N (jnl lab (ptR P Q c)) ∧ Hi s.2 398 m = bI (mvl lab (ptR P Q c) = true)) (fun t => Ms m A t ∧ LbS t m N (jnl lab (ptR P Q N)) ∧ Hi t 398 m = bI (mvl lab (ptR P Q N) = true)) ⟨rfl, gB.tr (Ms.si (by omega)), lB, hi_si⟩ ?_ ?_ (fun t ht => ⟨.inl t, rfl, t, rfl, ht⟩)
    · rintro c ⟨s1, s2⟩ hc ⟨e1, g1, l1, m1⟩
      dsimp only at e1 g1 l1 m1 ⊢
      subst e1
      rw [M_size (hM.ms g1) (hW.ms g1), bs, if_neg (le_n (by omega))]
      refine for_eb c (fun d s => s.1 = I d ∧ Ms m A s.2 ∧ LbS s.2 m N (jnl lab (ptR P Q c ++ pin P Q c d)) ∧ Hi s.2 398 m = bI (mvl lab (ptR P Q c ++ pin P Q c d) = true)) (fun t => Ms m A t ∧ LbS t m N (jnl lab (ptR P Q (c + 1))) ∧ Hi t 398 m = bI (mvl lab (ptR P Q (c + 1)) = true)) ⟨rfl, g1, by rw [show pin P Q c 0 = [] from rfl, List.append_nil]; exact l1, by rw [show pin P Q c 0 = [] from rfl, List.append_nil]; exact m1⟩ ?_ ?_ (fun t ht => ⟨.inl (I c + 1, t), rfl, (I c + 1, t), rfl, by rw [L_1, I_add, ← cst], ht⟩)
      · rintro d ⟨u1, u2⟩ hd ⟨f1, h1, k1, n1⟩
        dsimp only at f1 h1 k1 n1 ⊢
        subst f1
        have hMu := hM.ms h1
        rw [if_neg (le_n (by omega)), M_isBetween hMu (hW.ms h1) hV (by omega) (by omega), bs, jp_eq]
        by_cases hb : Btw P Q c d
        · obtain ⟨A', q1, q2, q3, q4⟩ := M_joins hMu (by omega) k1 (jl_b bB _) (a := c) (b := d) (by omega) (by omega) n1
          rw [if_neg (fun q => bI0.mp q hb), q1, bs]
          refine ⟨_, rfl, by dsimp only; rw [L_1, I_add, ← cst], h1.tr q2.1, ?_, ?_⟩
          · rw [show pin P Q c (d + 1) = pin P Q c d ++ [(c, d)] from by unfold pin; rw [if_pos hb]; cases d <;> rfl, ← List.append_assoc, jl1]; exact q3
          · rw [show pin P Q c (d + 1) = pin P Q c d ++ [(c, d)] from by unfold pin; rw [if_pos hb]; cases d <;> rfl, ← List.append_assoc, ml1]; exact q4
        · rw [if_pos (bI0.mpr hb)]
          have e : pin P Q c (d + 1) = pin P Q c d := by
            show pin P Q c d ++ _ = _
            rw [if_neg hb, List.append_nil]
          exact ⟨_, rfl, by dsimp only; rw [L_1, I_add, ← cst], h1, by rw [e]; exact k1, by rw [e]; exact n1⟩
      · rintro ⟨u1, u2⟩ ⟨f1, h1, k1, n1⟩
        dsimp only at f1 h1 k1 n1 ⊢
        subst f1
        exact ⟨_, by rw [if_pos (le_y (by omega))], h1, k1, n1⟩
    · rintro ⟨s1, s2⟩ ⟨e1, g1, l1, m1⟩
      dsimp only at e1 g1 l1 m1 ⊢
      subst e1
      exact ⟨_, by rw [M_size (hM.ms g1) (hW.ms g1), bs, if_pos (le_y (by omega))], g1, l1, m1⟩
  · have hMT := hM.ms gT
    rw [M_size hMT (hW.ms gT), bs, M_heaps hMT (by omega) lT (fun k hk => by have := hT.1 k hk; omega), bs]
    exact ⟨_, rfl, by rw [comps_of hT], gT⟩
/-! rings -/
def rgR (N : Nat) (P Q : Nat → Nat) (s : Nat) : Nat → List (Nat × Nat)
  | 0 => []
  | c + 1 => rgR N P Q s c ++ [((P c + 2 * N - 1) % (2 * N), if s.testBit c then Q c - 1 else Q c), (P c, if s.testBit c then Q c else Q c - 1)]
noncomputable def rings (N : Nat) (P Q : Nat → Nat) (s : Nat) : Nat := if N = 0 then 1 else comps (2 * N) (rgR N P Q s N)
theorem rgR_lt {N : Nat} {L P Q : Nat → Nat} (hV : VW N L P Q) (s : Nat) : ∀ n, n ≤ N → ∀ q ∈ rgR N P Q s n, q.1 < 2 * N ∧ q.2 < 2 * N
  | 0, _, q, h => absurd h List.not_mem_nil
  | c + 1, hn, q, h => by
    obtain ⟨h1, h2, -, -⟩ := hV.2.1 c (by omega)
    rcases List.mem_append.mp h with h | h
    · exact rgR_lt hV s c (by omega) q h
    · simp only [List.mem_cons, List.not_mem_nil, or_false] at h
      have := Nat.mod_lt (P c + 2 * N - 1) (show 2 * N > 0 by omega)
      rcases h with rfl | rfl
      · exact ⟨this, by dsimp only; split <;> omega⟩
      · exact ⟨by dsimp only; omega, by dsimp only; split <;> omega⟩
theorem jl2 (lab : Nat → Nat) (R : List (Nat × Nat)) (a b c d : Nat) : jnl lab (R ++ [(a, b), (c, d)]) = jn (jn (jnl lab R) a b) c d := jnl_app lab R [(a, b), (c, d)]
theorem ml2 (lab : Nat → Nat) (R : List (Nat × Nat)) (a b c d : Nat) : mvl lab (R ++ [(a, b), (c, d)]) = (mvl lab R || decide (jnl lab R a ≠ jnl lab R b) || decide (jn (jnl lab R) a b c ≠ jn (jnl lab R) a b d)) := by
  rw [mvl_app]
  show (_ || (decide _ || (decide _ || false))) = _
  rw [Bool.or_false, Bool.or_assoc]
theorem M_ringsOf (hM : MI A m) (hW : WE A m t N L) (hV : VW N L P Q) {s : Nat} (hs : s < 2147483648) : ∃ r, fX12_ringsOf A (some m) (I t) (I s) = some r ∧ r.1 = I (rings N P Q s) ∧ Ms m A r.2 := by
  have hN := hV.1
  unfold fX12_ringsOf rings
  rw [hM.rc, bs, M_size hM hW, bs, L_2, I_mul]
  by_cases h0 : N = 0
  · subst h0
    exact ⟨(1, A), by rw [if_pos (show I (2 * ((0 : Nat) : Int)) = 0 from rfl)], by rw [if_pos rfl]; rfl, Ms.rf⟩
  rw [if_neg (by rw [L_0]; exact eq_n (by omega)), if_neg h0]
  obtain ⟨A2, e2, g2, l2⟩ := M_startsLabels (n := 2 * N) hM (by omega)
  rw [show (2 * (N : Int)) = ((2 * N : Nat) : Int) by omega, e2, bs, pZ_1 (hM.ms g2.1).k, bs]
  refine whl_lab (n := 2 * N) (R := rgR N P Q s N) (Fr := Ms m A) (rgR_lt hV s N (Nat.le_refl _)) (by omega) (g2.1.tr (Ms.si (by omega))) l2 hi_si (fun B hB gB => ?_) (fun B lab gB hB lB bB => ?_) (fun T lab gT lT hT => ?_)
  · rw [gI_ok (hM.ms gB).k, bs, hB, if_pos bI_f]
  · have hMB := hM.ms gB
    rw [gI_ok hMB.k, bs, hB, if_neg (by decide), pZ_0 hMB.k, bs]
    refine for_eb N (fun c s' => s'.1 = I c ∧ Ms m A s'.2 ∧ LbS s'.2 m (2 * N) (jnl lab (rgR N P Q s c)) ∧ Hi s'.2 398 m = bI (mvl lab (rgR N P Q s c) = true)) (fun t => Ms m A t ∧ LbS t m (2 * N) (jnl lab (rgR N P Q s N)) ∧ Hi t 398 m = bI (mvl lab (rgR N P Q s N) = true)) ⟨rfl, gB.tr (Ms.si (by omega)), lB, hi_si⟩ ?_ ?_ (fun t ht => ⟨.inl t, rfl, t, rfl, ht⟩)
    · rintro c ⟨s1, s2⟩ hc ⟨e1, g1, l1, m1⟩
      dsimp only at e1 g1 l1 m1 ⊢
      subst e1
      obtain ⟨h1, h2, -, -⟩ := hV.2.1 c hc
      have hM1 := hM.ms g1
      have hmod := Nat.mod_lt (P c + 2 * N - 1) (show 2 * N > 0 by omega)
      rw [M_size hM1 (hW.ms g1), bs, if_neg (le_n (by omega)), L_0, L_1, M_pl0 hM1 (hW.ms g1) hV hc, bs, M_pl1 hM1 (hW.ms g1) hV hc, bs, I_add, I_sub, I_sub, I_rem (by omega) (by omega) (by omega) (by omega), bs, M_has _ hs (by omega), bs, jp1_eq]
      have ex : (((P c : Int) + ((2 * N : Nat) : Int) - 1) % ((2 * N : Nat) : Int)) = (((P c + 2 * N - 1) % (2 * N) : Nat) : Int) := by
        rw [Int.natCast_emod]; congr 1; omega
      have ey : (if bI (s.testBit c = true) = I 0 then I (Q c : Int) else I ((Q c : Int) - 1)) = I ((if s.testBit c then Q c - 1 else Q c : Nat) : Int) := by
        by_cases q : s.testBit c = true
        · rw [if_neg (fun z => bz.mp z q), if_pos q]; congr 1; omega
        · rw [if_pos (bz.mpr q), if_neg q]
      have ez : (if bI (s.testBit c = true) = I 0 then I ((Q c : Int) - 1) else I (Q c : Int)) = I ((if s.testBit c then Q c else Q c - 1 : Nat) : Int) := by
        by_cases q : s.testBit c = true
        · rw [if_neg (fun z => bz.mp z q), if_pos q]
        · rw [if_pos (bz.mpr q), if_neg q]; congr 1; omega
      rw [ex, ey]
      obtain ⟨A', q1, q2, q3, q4⟩ := M_joins hM1 (by omega) l1 (jl_b bB _) (a := (P c + 2 * N - 1) % (2 * N)) (b := if s.testBit c then Q c - 1 else Q c) hmod (by split <;> omega) m1
      have hM2 := hM1.ms q2.1
      rw [q1, bs, M_has _ hs (by omega), bs, jp1_eq, ez]
      obtain ⟨A'', r1, r2, r3, r4⟩ := M_joins hM2 (by omega) q3 (fun k hk => Nat.lt_of_le_of_lt (jn_le _ _ _ _) (jl_b bB _ k hk)) (a := P c) (b := if s.testBit c then Q c else Q c - 1) (by omega) (by split <;> omega) q4
      rw [r1, bs]
      refine ⟨_, rfl, by dsimp only; rw [I_add, ← cst], g1.tr (q2.1.tr r2.1), ?_, ?_⟩
      · rw [show rgR N P Q s (c + 1) = rgR N P Q s c ++ [((P c + 2 * N - 1) % (2 * N), if s.testBit c then Q c - 1 else Q c), (P c, if s.testBit c then Q c else Q c - 1)] from rfl, jl2]; exact r3
      · rw [show rgR N P Q s (c + 1) = rgR N P Q s c ++ [((P c + 2 * N - 1) % (2 * N), if s.testBit c then Q c - 1 else Q c), (P c, if s.testBit c then Q c else Q c - 1)] from rfl, ml2]; exact r4
    · rintro ⟨s1, s2⟩ ⟨e1, g1, l1, m1⟩
      dsimp only at e1 g1 l1 m1 ⊢
      subst e1
      exact ⟨_, by rw [M_size (hM.ms g1) (hW.ms g1), bs, if_pos (le_y (by omega))], g1, l1, m1⟩
  · have hMT := hM.ms gT
    rw [M_heaps hMT (by omega) lT (fun k hk => by have := hT.1 k hk; omega), bs]
    exact ⟨_, rfl, by rw [comps_of hT], gT⟩
theorem rings_le (N : Nat) (P Q : Nat → Nat) (s : Nat) : rings N P Q s ≤ 2 * N + 1 := by
  unfold rings
  split
  · omega
  · have := comps_le (2 * N) (rgR N P Q s N); omega
/-- how many sets below n have k rings -/
noncomputable def sts (N : Nat) (P Q : Nat → Nat) (k : Int) : Nat → Nat
  | 0 => 0
  | s + 1 => sts N P Q k s + (if (rings N P Q s : Int) = k then 1 else 0)
theorem sts_le (N : Nat) (P Q : Nat → Nat) (k : Int) : ∀ n, sts N P Q k n ≤ n
  | 0 => Nat.le_refl _
  | n + 1 => by
    have := sts_le N P Q k n
    unfold sts
    split <;> omega
theorem p2_lt {N : Nat} (h : N ≤ 8) : 2 ^ N ≤ 256 := Nat.pow_le_pow_right (by decide) h
theorem M_statesOf (hM : MI A m) (hW : WE A m t N L) (hV : VW N L P Q) {k : Int} (hk : Bd k) : ∃ r, fX12_statesOf A (some m) (I t) (I k) = some r ∧ r.1 = I (sts N P Q k (2 ^ N)) ∧ Ms m A r.2 := by
  have hN := hV.1
  have h2 := p2_lt hN
  unfold fX12_statesOf
  rw [hM.rc, bs]
  refine for_eb (2 ^ N) (fun j s => s.1 = I (sts N P Q k j) ∧ s.2.1 = I j ∧ Ms m A s.2.2) (fun t => t.1 = I (sts N P Q k (2 ^ N)) ∧ Ms m A t.2) ⟨rfl, rfl, Ms.rf⟩ ?_ ?_ (fun t ht => ⟨_, rfl, ht⟩)
  · rintro j ⟨s1, s2, s3⟩ hj ⟨e1, e2, g⟩
    dsimp only at e1 e2 g ⊢
    subst e1; subst e2
    have hl := sts_le N P Q k j
    obtain ⟨r, q1, q2, q3⟩ := M_ringsOf (hM.ms g) (hW.ms g) hV (s := j) (by omega)
    have hr := rings_le N P Q j
    rw [M_size (hM.ms g) (hW.ms g), bs, I_shl1 (by omega), if_neg (le_n (by omega)), q1, bs, jp1_eq, q2]
    refine ⟨_, rfl, ?_, by dsimp only; rw [L_1, I_add, ← cst], g.tr q3⟩
    dsimp only
    rw [show sts N P Q k (j + 1) = sts N P Q k j + (if (rings N P Q j : Int) = k then 1 else 0) from rfl]
    by_cases z : (rings N P Q j : Int) = k
    · rw [if_pos (by rw [z]), if_pos z, L_1, I_add, cst]
    · rw [if_neg (eq_n (by omega)), if_neg z, L_0, I_add, Nat.add_zero, Int.add_zero]
  · rintro ⟨s1, s2, s3⟩ ⟨e1, e2, g⟩
    dsimp only at e1 e2 g ⊢
    subst e1; subst e2
    exact ⟨_, by rw [M_size (hM.ms g) (hW.ms g), bs, I_shl1 (by omega), if_pos (le_y ⟨Bd_n (by omega), Bd_n (by omega), Int.le_refl _⟩)], rfl, g⟩
end MP
