/-! the class's rows: what is so of one, and its small questions -/
def RD (A : AH) (x r N : Nat) (L P Q : Nat → Nat) : Prop := (x + 34 ≤ r ∧ r + 5 < Hs A) ∧ Hk A r = 8 ∧ Hi A 224 r = I N ∧ Hi A 225 r = I ((2 * N : Nat) : Int) ∧ (Hr A 226 r = some (r + 2) ∧ Hr A 227 r = some (r + 3) ∧ Hr A 228 r = some (r + 4) ∧ Hr A 229 r = some (r + 5) ∧ Hr A 237 r = some (r + 1)) ∧ (Hk A (r + 1) = 14 ∧ Hn A (r + 1) = 10) ∧ (Hk A (r + 2) = 14 ∧ Hn A (r + 2) = 2 * N) ∧ (Hk A (r + 3) = 14 ∧ Hn A (r + 3) = N) ∧ (Hk A (r + 4) = 14 ∧ Hn A (r + 4) = N) ∧ (Hk A (r + 5) = 14 ∧ Hn A (r + 5) = N) ∧ (∀ i, i < 2 * N → He A (r + 2) i = I (L i)) ∧ ∀ c, c < N → He A (r + 3) c = I (P c) ∧ He A (r + 4) c = I (Q c) ∧ He A (r + 5) c = I (bset P Q c N)
section
variable {A B : AH} {x r N : Nat} {L P Q : Nat → Nat} {S : Nat → Prop}
theorem RD.a (h : RD A x r N L P Q) : x + 34 ≤ r ∧ r + 5 < Hs A := h.1
theorem RD.k (h : RD A x r N L P Q) : Hk A r = 8 := h.2.1
theorem RD.i0 (h : RD A x r N L P Q) : Hi A 224 r = I N := h.2.2.1
theorem RD.i1 (h : RD A x r N L P Q) : Hi A 225 r = I ((2 * N : Nat) : Int) := h.2.2.2.1
theorem RD.r2 (h : RD A x r N L P Q) : gR A 8 226 (some r) = some (some (r + 2)) := by rw [gR_ok h.k, h.2.2.2.2.1.1]
theorem RD.r3 (h : RD A x r N L P Q) : gR A 8 227 (some r) = some (some (r + 3)) := by rw [gR_ok h.k, h.2.2.2.2.1.2.1]
theorem RD.r4 (h : RD A x r N L P Q) : gR A 8 228 (some r) = some (some (r + 4)) := by rw [gR_ok h.k, h.2.2.2.2.1.2.2.1]
theorem RD.r5 (h : RD A x r N L P Q) : gR A 8 229 (some r) = some (some (r + 5)) := by rw [gR_ok h.k, h.2.2.2.2.1.2.2.2.1]
theorem RD.r1 (h : RD A x r N L P Q) : gR A 8 237 (some r) = some (some (r + 1)) := by rw [gR_ok h.k, h.2.2.2.2.1.2.2.2.2]
theorem RD.k1 (h : RD A x r N L P Q) : Hk A (r + 1) = 14 ∧ Hn A (r + 1) = 10 := h.2.2.2.2.2.1
theorem RD.k2 (h : RD A x r N L P Q) : Hk A (r + 2) = 14 ∧ Hn A (r + 2) = 2 * N := h.2.2.2.2.2.2.1
theorem RD.k3 (h : RD A x r N L P Q) : Hk A (r + 3) = 14 ∧ Hn A (r + 3) = N := h.2.2.2.2.2.2.2.1
theorem RD.k4 (h : RD A x r N L P Q) : Hk A (r + 4) = 14 ∧ Hn A (r + 4) = N := h.2.2.2.2.2.2.2.2.1
theorem RD.k5 (h : RD A x r N L P Q) : Hk A (r + 5) = 14 ∧ Hn A (r + 5) = N := h.2.2.2.2.2.2.2.2.2.1
theorem RD.l (h : RD A x r N L P Q) : ∀ i, i < 2 * N → He A (r + 2) i = I (L i) := h.2.2.2.2.2.2.2.2.2.2.1
theorem RD.p (h : RD A x r N L P Q) : ∀ c, c < N → He A (r + 3) c = I (P c) ∧ He A (r + 4) c = I (Q c) ∧ He A (r + 5) c = I (bset P Q c N) := h.2.2.2.2.2.2.2.2.2.2.2
/-- a row stays where its fixed cells do -/
theorem RD.mv (h : RD A x r N L P Q) (hs : Hs A ≤ Hs B) (hk : ∀ a, a < Hs A → Hk B a = Hk A a ∧ Hn B a = Hn A a) (h0 : Hi B 224 r = Hi A 224 r) (h1 : Hi B 225 r = Hi A 225 r) (hr : ∀ f, f ≠ 322 → Hr B f r = Hr A f r) (he : ∀ j, 2 ≤ j → j ≤ 5 → He B (r + j) = He A (r + j)) : RD B x r N L P Q := by
  obtain ⟨⟨a1, a2⟩, a3, a4, a5, ⟨b1, b2, b3, b4, b5⟩, c1, c2, c3, c4, c5, d1, d2⟩ := h
  have z := fun j (hj : j ≤ 5) => hk (r + j) (by omega)
  refine ⟨⟨a1, by omega⟩, by rw [(hk r (by omega)).1]; exact a3, by rw [h0]; exact a4, by rw [h1]; exact a5, ⟨by rw [hr _ (by decide)]; exact b1, by rw [hr _ (by decide)]; exact b2, by rw [hr _ (by decide)]; exact b3, by rw [hr _ (by decide)]; exact b4, by rw [hr _ (by decide)]; exact b5⟩, by rw [(z 1 (by omega)).1, (z 1 (by omega)).2]; exact c1, by rw [(z 2 (by omega)).1, (z 2 (by omega)).2]; exact c2, by rw [(z 3 (by omega)).1, (z 3 (by omega)).2]; exact c3, by rw [(z 4 (by omega)).1, (z 4 (by omega)).2]; exact c4, by rw [(z 5 (by omega)).1, (z 5 (by omega)).2]; exact c5, fun i hi => by rw [he 2 (by omega) (by omega)]; exact d1 i hi, fun c hc => by rw [he 3 (by omega) (by omega), he 4 (by omega) (by omega), he 5 (by omega) (by omega)]; exact d2 c hc⟩
theorem RD.fr (h : RD A x r N L P Q) (g : Fr S A B) (hS : ∀ a, r ≤ a → a ≤ r + 5 → ¬ S a) : RD B x r N L P Q := by
  have ha := h.a
  have e := fun j (hj : j ≤ 5) => g.2.2.2.1 (r + j) (Or.inl ⟨by omega, hS _ (by omega) (by omega)⟩)
  exact h.mv g.1 g.2.1 ((e 0 (by omega)).1 _) ((e 0 (by omega)).1 _) (fun f hf => g.2.2.1 f r (by omega) hf) (fun j _ h5 => (e j h5).2.2.2.1)
theorem RD.fh (h : RD A x r N L P Q) (g : Fr (hS x) A B) : RD B x r N L P Q := h.fr g (fun a h1 h2 q => by have := h.a; rcases q with q | q <;> omega)
theorem C_lc (h : RD A x r N L P Q) : fX7_letterCount A (some r) = some (I N) := by
  unfold fX7_letterCount
  rw [rcv_ok h.k, bs, gI_ok h.k, bs, h.i0]
theorem C_pc (h : RD A x r N L P Q) : fX7_placeCount A (some r) = some (I ((2 * N : Nat) : Int)) := by
  unfold fX7_placeCount
  rw [rcv_ok h.k, bs, gI_ok h.k, bs, h.i1]
theorem rng {k : Nat} {z : Int} (hz : Bd z) (hk : k < 2147483648) : (if I z < 0 then some (0 : Int32) else if I (k : Int) ≤ I z then some 0 else some 1) = some (bI (0 ≤ z ∧ z < k)) := by
  by_cases q : z < 0
  · rw [if_pos (show I z < (0 : Int32) from lt_y (b := 0) ⟨hz, by omega, q⟩)]
    exact congrArg some (bI0.mpr (by omega)).symm
  · rw [if_neg (show ¬ I z < (0 : Int32) from lt_n (b := 0) ⟨hz, by omega, by omega⟩)]
    by_cases q2 : z < k
    · rw [if_neg (le_n ⟨by omega, hz, q2⟩)]
      exact congrArg some (bI1.mpr (by omega)).symm
    · rw [if_pos (le_y ⟨by omega, hz, by omega⟩)]
      exact congrArg some (bI0.mpr (by omega)).symm
theorem C_hasLetter (h : RD A x r N L P Q) (hN : N ≤ 8) {z : Int} (hz : Bd z) : fX7_hasLetter A (some r) (I z) = some (bI (0 ≤ z ∧ z < N)) := by
  unfold fX7_hasLetter
  rw [rcv_ok h.k, bs, gI_ok h.k, bs, h.i0]
  exact rng hz (by omega)
theorem C_hasPlace (h : RD A x r N L P Q) (hN : N ≤ 8) {z : Int} (hz : Bd z) : fX7_hasPlace A (some r) (I z) = some (bI (0 ≤ z ∧ z < (2 * N : Nat))) := by
  unfold fX7_hasPlace
  rw [rcv_ok h.k, bs, gI_ok h.k, bs, h.i1]
  exact rng hz (by omega)
theorem C_letterOn (h : RD A x r N L P Q) (hN : N ≤ 8) {i : Nat} (hi : i < 2 * N) : fX7_letterOn A (some r) (I i) = some (I (L i)) := by
  unfold fX7_letterOn
  rw [rcv_ok h.k, bs, C_hasPlace h hN (by omega), bs, if_neg (fun z => bI0.mp z (by omega)), h.r2, bs, aI_at h.k2 hi (by omega), bs, h.l i hi]
theorem C_letterOn0 (h : RD A x r N L P Q) (hN : N ≤ 8) {z : Int} (hz : Bd z) (hn : ¬ (0 ≤ z ∧ z < (2 * N : Nat))) : fX7_letterOn A (some r) (I z) = some (-1) := by
  unfold fX7_letterOn
  rw [rcv_ok h.k, bs, C_hasPlace h hN hz, bs, if_pos (bI0.mpr hn)]
theorem C_placeOf (h : RD A x r N L P Q) (hN : N ≤ 8) {c b : Nat} (hc : c < N) (hb : b < 2) : fX7_placeOf A (some r) (I c) (I b) = some (I ((if b = 0 then P c else Q c : Nat) : Int)) := by
  unfold fX7_placeOf
  rw [rcv_ok h.k, bs, C_hasLetter h hN (by omega), bs, if_neg (fun z => bI0.mp z (by omega))]
  by_cases q : b = 0
  · rw [if_pos (by rw [q]; rfl), if_pos q, h.r3, bs, aI_at h.k3 hc (by omega), bs, (h.p c hc).1]
  · rw [if_neg (show ¬ I (b : Int) = 0 from eq_n (b := 0) (by omega)), if_neg q, h.r4, bs, aI_at h.k4 hc (by omega), bs, (h.p c hc).2.1]
theorem C_isFirst (h : RD A x r N L P Q) (hV : VW N L P Q) {i : Nat} (hi : i < 2 * N) : fX7_isFirstOfLetter A (some r) (I i) = some (bI (P (L i) = i)) := by
  have hN := hV.1
  have hl := (hV.2.2 i hi).1
  obtain ⟨p1, p2, -, -⟩ := hV.2.1 (L i) hl
  unfold fX7_isFirstOfLetter
  rw [rcv_ok h.k, bs, C_hasPlace h hN (by omega), bs, if_neg (fun z => bI0.mp z (by omega)), h.r3, bs, h.r2, bs, aI_at h.k2 hi (by omega), bs, h.l i hi, aI_at h.k3 hl (by omega), bs, (h.p _ hl).1, some_bI]
  congr 1
  exact bIc (by rw [I_eq (by omega) (by omega)]; omega)
theorem nx_eq {N i : Nat} (hi : i < 2 * N) : nx N i = if i + 1 < 2 * N then i + 1 else 0 := by
  unfold nx
  by_cases q : i + 1 < 2 * N
  · rw [if_pos q, Nat.mod_eq_of_lt q]
  · rw [if_neg q, show i + 1 = 2 * N by omega, Nat.mod_self]
theorem C_behind (h : RD A x r N L P Q) (hN : N ≤ 8) {i : Nat} (hi : i < 2 * N) : fX7_placeBehind A (some r) (I i) = some (I ((nx N i : Nat) : Int)) := by
  unfold fX7_placeBehind
  rw [rcv_ok h.k, bs, gI_ok h.k, bs, h.i1, L_1, I_add, nx_eq hi]
  by_cases q : i + 1 < 2 * N
  · rw [if_neg (le_n (by omega)), if_pos q]; rfl
  · rw [if_pos (le_y (by omega)), if_neg q]; rfl
theorem pv_eq {N i : Nat} (hi : i < 2 * N) : (i + 2 * N - 1) % (2 * N) = if i = 0 then 2 * N - 1 else i - 1 := by
  by_cases q : i = 0
  · rw [if_pos q, q, Nat.zero_add, Nat.mod_eq_of_lt (by omega)]
  · rw [if_neg q, show i + 2 * N - 1 = (i - 1) + 2 * N by omega, Nat.add_mod_right, Nat.mod_eq_of_lt (by omega)]
theorem C_ahead (h : RD A x r N L P Q) (hN : N ≤ 8) {i : Nat} (hi : i < 2 * N) : fX7_placeAhead A (some r) (I i) = some (I (((i + 2 * N - 1) % (2 * N) : Nat) : Int)) := by
  unfold fX7_placeAhead
  rw [rcv_ok h.k, bs, gI_ok h.k, bs, h.i1, L_1, I_sub, I_sub, pv_eq hi]
  by_cases q : i = 0
  · rw [if_pos (show I (i : Int) ≤ (0 : Int32) from le_y (b := 0) (by omega)), if_pos q]; congr 2; omega
  · rw [if_neg (show ¬ I (i : Int) ≤ (0 : Int32) from le_n (b := 0) (by omega)), if_neg q]; congr 2; omega
theorem C_areBeside (h : RD A x r N L P Q) (hN : N ≤ 8) {i j : Nat} (hi : i < 2 * N) (hj : j < 2 * N) : fX7_areBeside A (some r) (I i) (I j) = some (bI (bsd N i j)) := by
  have h1 : nx N i < 2 * N := Nat.mod_lt _ (by omega)
  have h2 : nx N j < 2 * N := Nat.mod_lt _ (by omega)
  unfold fX7_areBeside bsd
  rw [rcv_ok h.k, bs, C_behind h hN hi, bs]
  generalize nx N i = a at h1 ⊢
  by_cases q1 : a = j
  · rw [if_pos (by rw [q1])]; exact congrArg some (bI1.mpr (Or.inl q1)).symm
  · rw [if_neg (eq_n (by omega)), C_behind h hN hj, bs]
    generalize nx N j = b at h2 ⊢
    by_cases q2 : b = i
    · rw [if_pos (by rw [q2])]; exact congrArg some (bI1.mpr (Or.inr q2)).symm
    · rw [if_neg (eq_n (by omega))]; exact congrArg some (bI0.mpr (fun z => z.elim q1 q2)).symm
theorem C_betweenSet (h : RD A x r N L P Q) (hN : N ≤ 8) {c : Nat} (hc : c < N) : fX7_betweenSet A (some r) (I c) = some (I (bset P Q c N)) := by
  unfold fX7_betweenSet
  rw [rcv_ok h.k, bs, C_hasLetter h hN (by omega), bs, if_neg (fun z => bI0.mp z (by omega)), h.r5, bs, aI_at h.k5 hc (by omega), bs, (h.p c hc).2.2]
theorem bset_s {P Q : Nat → Nat} {c N : Nat} (h : N ≤ 8) : bset P Q c N < 256 := by
  have := bset_lt P Q c N
  have := p2_lt h
  omega
theorem C_shared (h : RD A x r N L P Q) (hN : N ≤ 8) {c d : Nat} (hc : c < N) (hd : d < N) : fX7_sharedBetween A (some r) (I c) (I d) = some (I (shr P Q N c d)) := by
  unfold fX7_sharedBetween shr
  rw [rcv_ok h.k, bs, C_betweenSet h hN hc, bs, C_betweenSet h hN hd, bs, I_and, C_bitCount A (by have := Nat.and_le_left (n := bset P Q c N) (m := bset P Q d N); have := bset_s (P := P) (Q := Q) (c := c) hN; omega), bs]
theorem C_hasLetters (h : RD A x r N L P Q) (hN : N ≤ 8) {z : Int} (hz : Bd z) : fX7_hasLetters A (some r) (I z) = some (bI (0 ≤ z ∧ z < ((2 ^ N : Nat) : Int))) := by
  have := p2_lt hN
  unfold fX7_hasLetters
  rw [rcv_ok h.k, bs, gI_ok h.k, bs, h.i0, I_shl1 (by omega)]
  exact rng hz (by omega)
theorem C_stepCount (h : RD A x r N L P Q) (hN : N ≤ 8) : fX7_stepCount A (some r) = some (I ((max 1 (2 * N) : Nat) : Int)) := by
  unfold fX7_stepCount
  rw [rcv_ok h.k, bs, gI_ok h.k, bs, h.i1, L_1, C_max A (by omega) (by omega), bs]
  congr 2
  omega
theorem C_hasStep (h : RD A x r N L P Q) (hN : N ≤ 8) {z : Int} (hz : Bd z) : fX7_hasStep A (some r) (I z) = some (bI (0 ≤ z ∧ z < ((max 1 (2 * N) : Nat) : Int))) := by
  unfold fX7_hasStep
  rw [rcv_ok h.k, bs, C_stepCount h hN, bs]
  exact rng hz (by omega)
theorem C_hasThree (h : RD A x r N L P Q) (hN : N ≤ 8) {a b c : Int} (ha : Bd a) (hb : Bd b) (hc : Bd c) : fX7_hasThree A (some r) (I a) (I b) (I c) = some (bI ((0 ≤ a ∧ a < N) ∧ (0 ≤ b ∧ b < N) ∧ (0 ≤ c ∧ c < N) ∧ a ≠ b ∧ a ≠ c ∧ b ≠ c)) := by
  unfold fX7_hasThree
  rw [rcv_ok h.k, bs, C_hasLetter h hN ha, bs]
  by_cases q1 : 0 ≤ a ∧ a < N
  rotate_left
  · rw [if_pos (bI0.mpr q1)]; exact congrArg some (bI0.mpr (fun z => q1 z.1)).symm
  rw [if_neg (fun z => bI0.mp z q1), C_hasLetter h hN hb, bs]
  by_cases q2 : 0 ≤ b ∧ b < N
  rotate_left
  · rw [if_pos (bI0.mpr q2)]; exact congrArg some (bI0.mpr (fun z => q2 z.2.1)).symm
  rw [if_neg (fun z => bI0.mp z q2), C_hasLetter h hN hc, bs]
  by_cases q3 : 0 ≤ c ∧ c < N
  rotate_left
  · rw [if_pos (bI0.mpr q3)]; exact congrArg some (bI0.mpr (fun z => q3 z.2.2.1)).symm
  rw [if_neg (fun z => bI0.mp z q3)]
  by_cases q4 : a = b
  · rw [if_pos (by rw [q4])]; exact congrArg some (bI0.mpr (fun z => z.2.2.2.1 q4)).symm
  rw [if_neg (eq_n ⟨ha, hb, q4⟩)]
  by_cases q5 : b = c
  · rw [if_pos (by rw [q5])]; exact congrArg some (bI0.mpr (fun z => z.2.2.2.2.2 q5)).symm
  rw [if_neg (eq_n ⟨hb, hc, q5⟩)]
  by_cases q6 : c = a
  · rw [if_pos (by rw [q6])]; exact congrArg some (bI0.mpr (fun z => z.2.2.2.2.1 q6.symm)).symm
  rw [if_neg (eq_n ⟨hc, ha, q6⟩)]
  exact congrArg some (bI1.mpr ⟨q1, q2, q3, q4, fun z => q6 z.symm, q5⟩).symm
theorem C_isLoop (h : RD A x r N L P Q) (hV : VW N L P Q) {c : Nat} (hc : c < N) : fX7_isLoop A (some r) (I c) = some (bI (bsd N (P c) (Q c))) := by
  have hN := hV.1
  obtain ⟨p1, p2, -, -⟩ := hV.2.1 c hc
  have e0 : fX7_placeOf A (some r) (I c) 0 = some (I (P c)) := C_placeOf h hN hc (b := 0) (by omega)
  have e1 : fX7_placeOf A (some r) (I c) 1 = some (I (Q c)) := C_placeOf h hN hc (b := 1) (by omega)
  unfold fX7_isLoop
  rw [rcv_ok h.k, bs, e0, bs, e1, bs, C_areBeside h hN (by omega) p2, bs, rz_bI, bs]
theorem C_loops (h : RD A x r N L P Q) (hV : VW N L P Q) : fX7_loops A (some r) = some (I (lps N P Q N)) := by
  have hN := hV.1
  unfold fX7_loops
  rw [rcv_ok h.k, bs]
  refine for_b (fun j => (I (lps N P Q j), I j)) N (I (lps N P Q N)) rfl (fun j hj => ?_) ?_ rfl
  · dsimp only
    rw [gI_ok h.k, bs, h.i0, if_neg (le_n (by omega)), C_isLoop h hV hj, bs, jp_eq, I_shl1 (by omega)]
    rw [show lps N P Q (j + 1) = lps N P Q j ||| (if bsd N (P j) (Q j) then 2 ^ j else 0) from rfl, ← I_or, cst, ← I_add]
    by_cases hb : bsd N (P j) (Q j)
    · rw [if_neg (fun q => bI0.mp q hb), if_pos hb]; rfl
    · rw [if_pos (bI0.mpr hb), if_neg hb]
      show _ = some (Sum.inl (I _ ||| I ((0 : Nat) : Int), _))
      rw [I_or, Nat.or_zero]; rfl
  · dsimp only
    rw [gI_ok h.k, bs, h.i0, if_pos (le_y (by omega))]
abbrev pq (P Q : Nat → Nat) (c b : Nat) : Nat := if b = 0 then P c else Q c
theorem pq_lt (hV : VW N L P Q) {c : Nat} (hc : c < N) (b : Nat) : pq P Q c b < 2 * N := by
  obtain ⟨p1, p2, -, -⟩ := hV.2.1 c hc
  unfold pq
  split <;> omega
theorem C_isPoke (h : RD A x r N L P Q) (hV : VW N L P Q) {c d : Nat} (hc : c < N) (hd : d < N) : fX7_isPoke A (some r) (I c) (I d) = some (bI ((bsd N (P c) (P d) ∧ bsd N (Q c) (Q d)) ∨ (bsd N (P c) (Q d) ∧ bsd N (Q c) (P d)))) := by
  have hN := hV.1
  have c0 : P c < 2 * N := pq_lt hV hc 0
  have c1 : Q c < 2 * N := pq_lt hV hc 1
  have e0 : fX7_placeOf A (some r) (I c) 0 = some (I (P c)) := C_placeOf h hN hc (b := 0) (by omega)
  have e1 : fX7_placeOf A (some r) (I c) 1 = some (I (Q c)) := C_placeOf h hN hc (b := 1) (by omega)
  unfold fX7_isPoke
  rw [rcv_ok h.k, bs]
  refine find_bb (fun y => decide (bsd N (P c) (pq P Q d y) ∧ bsd N (Q c) (pq P Q d (1 - y)))) 1 2 (fun y hy => ?_) rfl ?_
  · have o1 : (1 : Int32) - I (y : Int) = I ((1 - y : Nat) : Int) := by rw [L_1, I_sub]; congr 1; omega
    rw [if_neg (show ¬ (2 : Int32) ≤ I (y : Int) from le_n (a := 2) (by omega)), e0, bs, C_placeOf h hN hd hy, bs, C_areBeside h hN c0 (pq_lt hV hd y), bs, jp_eq]
    by_cases f1 : bsd N (P c) (pq P Q d y)
    · rw [if_neg (fun z => bI0.mp z f1), e1, bs, o1, C_placeOf h hN hd (by omega), bs, C_areBeside h hN c1 (pq_lt hV hd (1 - y)), bs]
      by_cases f2 : bsd N (Q c) (pq P Q d (1 - y))
      · rw [if_neg (fun z => bI0.mp z f2), if_pos (decide_eq_true ⟨f1, f2⟩)]
      · rw [if_pos (bI0.mpr f2), if_neg (by rw [decide_eq_true_iff]; exact fun z => f2 z.2), L_1, I_add, ← cst]
    · rw [if_pos (bI0.mpr f1), if_neg (by rw [decide_eq_true_iff]; exact fun z => f1 z.1), L_1, I_add, ← cst]
  · rw [sm_ite]
    by_cases q : anyB (fun y => decide (bsd N (P c) (pq P Q d y) ∧ bsd N (Q c) (pq P Q d (1 - y)))) 2 = true
    · rw [if_pos q]
      obtain ⟨j, j1, j2⟩ := anyB_iff.mp q
      have j2 := of_decide_eq_true j2
      refine congrArg some (bI1.mpr ?_).symm
      by_cases z : j = 0
      · subst z; exact Or.inl j2
      · have : j = 1 := by omega
        subst this; exact Or.inr j2
    · rw [if_neg q]
      refine congrArg some (bI0.mpr (fun z => q ?_)).symm
      rcases z with z | z
      · exact anyB_iff.mpr ⟨0, by omega, decide_eq_true z⟩
      · exact anyB_iff.mpr ⟨1, by omega, decide_eq_true z⟩
theorem frst_b' {b : Int32 → Option (Int32 ⊕ (Unit ⊕ Int32))} (f : Nat → Bool) (n : Nat) (hs : ∀ i, i < n → b (I (i : Int)) = if f i = true then some (.inr (.inr (I (i : Int)))) else some (.inl (I ((i + 1 : Nat) : Int)))) (he : b (I (n : Int)) = some (.inr (.inl ()))) : ((iter b 0).bind fun t2 => sm t2 (fun _ => some (-1)) (fun r => some r)) = some (I (frst f n)) := by
  refine ex_eq ?_
  refine srch_eb n (fun j u => u = I (j : Int) ∧ anyB f j = false) (fun u => (u = .inl () ∧ frst f n = -1) ∨ ∃ g : Nat, u = .inr (I (g : Int)) ∧ frst f n = g) ⟨rfl, rfl⟩ ?_ ?_ ?_
  · rintro j u hj ⟨rfl, e⟩
    rw [hs j hj]
    by_cases q : f j = true
    · right
      rw [if_pos q]
      have := frst_y e q (n - (j + 1))
      rw [show j + 1 + (n - (j + 1)) = n by omega] at this
      exact ⟨_, rfl, Or.inr ⟨j, rfl, this⟩⟩
    · left
      rw [if_neg q]
      refine ⟨_, rfl, rfl, ?_⟩
      show (anyB f j || f j) = false
      rw [e, Bool.eq_false_iff.mpr q]; rfl
  · rintro u ⟨rfl, e⟩
    exact ⟨_, he, Or.inl ⟨rfl, frst_n e⟩⟩
  · rintro u (⟨rfl, e⟩ | ⟨g, rfl, e⟩)
    · exact ⟨_, rfl, by rw [e]; rfl⟩
    · exact ⟨_, rfl, by rw [e]⟩
theorem C_slideChoice (h : RD A x r N L P Q) (hV : VW N L P Q) {c d e : Nat} (hc : c < N) (hd : d < N) (he : e < N) : fX7_slideChoice A (some r) (I c) (I d) (I e) = some (I (frst (fun g => decide (bsd N (pq P Q c (g / 4)) (pq P Q d (g / 2 % 2)) ∧ bsd N (pq P Q d (1 - g / 2 % 2)) (pq P Q e (g % 2)) ∧ bsd N (pq P Q e (1 - g % 2)) (pq P Q c (1 - g / 4)))) 8)) := by
  have hN := hV.1
  unfold fX7_slideChoice
  rw [rcv_ok h.k, bs]
  refine frst_b' (fun g => decide (bsd N (pq P Q c (g / 4)) (pq P Q d (g / 2 % 2)) ∧ bsd N (pq P Q d (1 - g / 2 % 2)) (pq P Q e (g % 2)) ∧ bsd N (pq P Q e (1 - g % 2)) (pq P Q c (1 - g / 4)))) 8 (fun j hj => ?_) rfl
  have o1 : ∀ b : Nat, b < 2 → (1 : Int32) - I (b : Int) = I ((1 - b : Nat) : Int) := fun b hb => by rw [L_1, I_sub]; congr 1; omega
  have s2 : ((I (j : Int) >>> ((2 : Int32) &&& 31)) &&& 1) = I ((j / 4 : Nat) : Int) := by
    have := I_bit (a := j) (k := 2) (by omega) (by omega)
    have e : I ((2 : Nat) : Int) = (2 : Int32) := rfl
    rw [e] at this
    rw [this, Nat.shiftRight_eq_div_pow]; congr 2; omega
  have s1 : ((I (j : Int) >>> ((1 : Int32) &&& 31)) &&& 1) = I ((j / 2 % 2 : Nat) : Int) := by
    have := I_bit (a := j) (k := 1) (by omega) (by omega)
    have e : I ((1 : Nat) : Int) = (1 : Int32) := rfl
    rw [e] at this
    rw [this, Nat.shiftRight_eq_div_pow]
  have s0 : (I (j : Int) &&& 1) = I ((j % 2 : Nat) : Int) := by rw [show (1 : Int32) = I ((1 : Nat) : Int) from rfl, I_and, Nat.and_one_is_mod]
  have hj4 : j / 4 < 2 := by omega
  have hj2 : j / 2 % 2 < 2 := by omega
  have hj1 : j % 2 < 2 := by omega
  rw [if_neg (show ¬ (8 : Int32) ≤ I (j : Int) from le_n (a := 8) (by omega)), s2, s1, s0, C_placeOf h hN hc hj4, bs, C_placeOf h hN hd hj2, bs, C_areBeside h hN (pq_lt hV hc _) (pq_lt hV hd _), bs, jp_eq, o1 _ hj2, o1 _ hj1, o1 _ hj4, L_1, I_add, ← cst]
  by_cases f1 : bsd N (pq P Q c (j / 4)) (pq P Q d (j / 2 % 2))
  rotate_left
  · rw [if_pos (bI0.mpr f1), if_neg (by rw [decide_eq_true_iff]; exact fun z => f1 z.1)]
  rw [if_neg (fun z => bI0.mp z f1), C_placeOf h hN hd (by omega), bs, C_placeOf h hN he hj1, bs, C_areBeside h hN (pq_lt hV hd _) (pq_lt hV he _), bs]
  by_cases f2 : bsd N (pq P Q d (1 - j / 2 % 2)) (pq P Q e (j % 2))
  rotate_left
  · rw [if_pos (bI0.mpr f2), if_neg (by rw [decide_eq_true_iff]; exact fun z => f2 z.2.1)]
  rw [if_neg (fun z => bI0.mp z f2), C_placeOf h hN he (by omega), bs, C_placeOf h hN hc (by omega), bs, C_areBeside h hN (pq_lt hV he _) (pq_lt hV hc _), bs]
  by_cases f3 : bsd N (pq P Q e (1 - j % 2)) (pq P Q c (1 - j / 4))
  rotate_left
  · rw [if_pos (bI0.mpr f3), if_neg (by rw [decide_eq_true_iff]; exact fun z => f3 z.2.2)]
  rw [if_neg (fun z => bI0.mp z f3), if_pos (decide_eq_true ⟨f1, f2, f3⟩)]
end
