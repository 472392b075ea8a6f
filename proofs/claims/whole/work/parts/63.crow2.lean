/-! the class's rows: parts, laws, rings, corners joined -/
theorem snoc_nil {α : Type} (l : List α) : l ++ [] = l := List.append_nil l
section
variable {A B : AH} {x r N : Nat} {L P Q : Nat → Nat}
theorem C_btw (h : RD A x r N L P Q) (hN : N ≤ 8) {c d : Nat} (hc : c < N) (hd : d < N) : ((gR A 8 229 (some r)).bind fun v10 => (aI A 14 v10 (I c)).bind fun v11 => fX11_isIn A v11 (I d)) = some (bI (Btw P Q c d)) := by
  rw [h.r5, bs, aI_at h.k5 hc (by omega), bs, (h.p c hc).2.2, C_isIn A (bset_l hN) (by omega)]
  congr 1
  refine bIc ?_
  rw [bset_bit, decide_eq_true_iff]
  exact ⟨fun z => z.2, fun z => ⟨hd, z⟩⟩
theorem btw_b {γ : Type} (h : RD A x r N L P Q) (hN : N ≤ 8) {c d : Nat} (hc : c < N) (hd : d < N) (K : Int32 → Option γ) : ((gR A 8 229 (some r)).bind fun v10 => (aI A 14 v10 (I c)).bind fun v11 => (fX11_isIn A v11 (I d)).bind K) = K (bI (Btw P Q c d)) := by
  have e := C_btw h hN hc hd
  rw [h.r5, bs, aI_at h.k5 hc (by omega), bs] at e ⊢
  rw [e, bs]
theorem C_parts (hC : CI A x) (h : RD A x r N L P Q) (hN : N ≤ 8) : ∃ y, fX7_parts A (some r) (some (x + 20)) = some y ∧ y.1 = I (comps N (ptR P Q N)) ∧ Fr (hS x) A y.2 := by
  unfold fX7_parts
  obtain ⟨A2, e2, g2, l2⟩ := C_scatter (n := N) hC (by omega)
  rw [rcv_ok h.k, bs, gI_ok h.k, bs, h.i0, e2, bs]
  refine for_eb2 N (fun c s => s.1 = I c ∧ Fr (hS x) A s.2 ∧ Hp s.2 x N (ptR P Q c)) (fun t => Fr (hS x) A t ∧ Hp t x N (ptR P Q N)) ⟨rfl, g2, l2⟩ ?_ ?_ ?_
  · rintro c ⟨s1, s2⟩ hc ⟨e1, g1, l1⟩
    dsimp only at e1 g1 l1 ⊢
    subst e1
    have h1 := h.fh g1
    rw [gI_ok h1.k, bs, h1.i0, if_neg (le_n (by omega))]
    refine for_eb c (fun d s => s.1 = I d ∧ Fr (hS x) A s.2 ∧ Hp s.2 x N (ptR P Q c ++ pin P Q c d)) (fun t => Fr (hS x) A t ∧ Hp t x N (ptR P Q (c + 1))) ⟨rfl, g1, by rw [show pin P Q c 0 = [] from rfl, List.append_nil]; exact l1⟩ ?_ ?_ (fun t ht => ⟨.inl (I c + 1, t), rfl, (I c + 1, t), rfl, by rw [L_1, I_add, ← cst], ht⟩)
    · rintro d ⟨u1, u2⟩ hd ⟨f1, g3, l3⟩
      dsimp only at f1 g3 l3 ⊢
      subst f1
      have h3 := h.fh g3
      have es : pin P Q c (d + 1) = pin P Q c d ++ (if Btw P Q c d then [(c, d)] else []) := rfl
      rw [if_neg (le_n (by omega)), btw_b h3 hN hc (by omega), jp_eq]
      by_cases hb : Btw P Q c d
      · obtain ⟨A', q1, q2, q3⟩ := C_join (hC.fr g3) l3 (a := c) (b := d) hc (by omega)
        rw [if_neg (fun q => bI0.mp q hb), q1, bs]
        refine ⟨_, rfl, by dsimp only; rw [L_1, I_add, ← cst], g3.tr' q2, ?_⟩
        rw [es, if_pos hb, ← List.append_assoc]; exact q3
      · rw [if_pos (bI0.mpr hb)]
        refine ⟨_, rfl, by dsimp only; rw [L_1, I_add, ← cst], g3, ?_⟩
        rw [es, if_neg hb, List.append_nil]; exact l3
    · rintro ⟨u1, u2⟩ ⟨f1, g3, l3⟩
      dsimp only at f1 g3 l3 ⊢
      subst f1
      exact ⟨_, by rw [if_pos (le_y (by omega))], g3, l3⟩
  · rintro ⟨s1, s2⟩ ⟨e1, g1, l1⟩
    dsimp only at e1 g1 l1 ⊢
    subst e1
    have h1 := h.fh g1
    exact ⟨_, by rw [gI_ok h1.k, bs, h1.i0, if_pos (le_y (by omega))], g1, l1⟩
  · rintro T ⟨gT, lT⟩
    rw [C_hcount (hC.fr gT) lT, bs]
    exact ⟨_, rfl, rfl, gT⟩
/-! the laws -/
theorem sm_b {T R : Type} {f : Unit → Option R} {g : T → Option R} {c : Bool} {v : T} : sm (if c = true then Sum.inr v else Sum.inl ()) f g = if c = true then g v else f () := by
  cases c <;> rfl
theorem C_each1 (h : RD A x r N L P Q) (hN : N ≤ 8) : fX7_eachIsBetweenEvenly A (some r) = some (bI (br1 P Q N N = false)) := by
  unfold fX7_eachIsBetweenEvenly
  rw [rcv_ok h.k, bs]
  refine find_bb (fun c => decide (cnt (bset P Q c N) 16 % 2 = 1)) 0 N (fun c hc => ?_) ?_ ?_
  · have := cnt_le (bset P Q c N) 16
    rw [gI_ok h.k, bs, h.i0, if_neg (le_n (by omega)), h.r5, bs, aI_at h.k5 hc (by omega), bs, (h.p c hc).2.2, C_bitCount A (bset_s hN), bs, C_isEven A (by omega), bs]
    by_cases q : cnt (bset P Q c N) 16 % 2 = 1
    · rw [if_pos (bI0.mpr (by omega)), if_pos (decide_eq_true q)]
    · rw [if_neg (fun z => bI0.mp z (by omega)), if_neg (by rw [decide_eq_true_iff]; exact q), L_1, I_add, ← cst]
  · rw [gI_ok h.k, bs, h.i0, if_pos (le_y (by omega))]
  · rw [sm_b]
    show (if br1 P Q N N = true then _ else _) = _
    cases br1 P Q N N <;> rfl
theorem C_each2 (h : RD A x r N L P Q) (hN : N ≤ 8) : fX7_eachTwoApartShareEvenly A (some r) = some (bI (br2 P Q N N = false)) := by
  unfold fX7_eachTwoApartShareEvenly
  rw [rcv_ok h.k, bs]
  refine find_bb (fun c => br2i P Q N c c) 0 N (fun c hc => ?_) ?_ ?_
  · have e : (if br2i P Q N c c = true then some (Sum.inr (Sum.inr (0 : Int32))) else some (.inl (I ((c + 1 : Nat) : Int))) : Option (Int32 ⊕ (Unit ⊕ Int32))) = some (if br2i P Q N c c = true then Sum.inr (Sum.inr (0 : Int32)) else .inl (I ((c + 1 : Nat) : Int))) := by split <;> rfl
    rw [gI_ok h.k, bs, h.i0, if_neg (le_n (by omega)), e]
    refine find_bb (fun d => decide (¬ Btw P Q c d ∧ shr P Q N c d % 2 = 1)) 0 c (fun d hd => ?_) ?_ ?_
    · have := cnt_le (bset P Q c N &&& bset P Q d N) 16
      have hsh : shr P Q N c d ≤ 16 := this
      rw [if_neg (le_n (by omega)), btw_b h hN hc (by omega), jp_eq]
      by_cases hb : Btw P Q c d
      · rw [if_neg (fun q => bI0.mp q hb), if_neg (by rw [decide_eq_true_iff]; exact fun q => q.1 hb), L_1, I_add, ← cst]
      · rw [if_pos (bI0.mpr hb), C_shared h hN hc (by omega), bs, C_isEven A (by omega), bs]
        by_cases q : shr P Q N c d % 2 = 1
        · rw [if_pos (bI0.mpr (by omega)), if_pos (decide_eq_true ⟨hb, q⟩)]
        · rw [if_neg (fun z => bI0.mp z (by omega)), if_neg (by rw [decide_eq_true_iff]; exact fun z => q z.2), L_1, I_add, ← cst]
    · rw [if_pos (le_y (by omega))]
    · rw [sm_b, show anyB (fun d => decide (¬ Btw P Q c d ∧ shr P Q N c d % 2 = 1)) c = br2i P Q N c c from rfl]
      by_cases e3 : br2i P Q N c c = true
      · rw [if_pos e3, if_pos e3]
      · rw [if_neg e3, if_neg e3, L_1, I_add, ← cst]
  · rw [gI_ok h.k, bs, h.i0, if_pos (le_y (by omega))]
  · rw [sm_b]
    show (if br2 P Q N N = true then _ else _) = _
    cases br2 P Q N N <;> rfl
def sdp (P Q : Nat → Nat) (N c d : Nat) : List (Nat × Nat) := if Btw P Q c d then (if shr P Q N c d % 2 = 0 then [(2 * c, 2 * d + 1), (2 * c + 1, 2 * d)] else [(2 * c, 2 * d), (2 * c + 1, 2 * d + 1)]) else []
def sdi (P Q : Nat → Nat) (N c : Nat) : Nat → List (Nat × Nat)
  | 0 => []
  | d + 1 => sdi P Q N c d ++ sdp P Q N c d
def sdR (P Q : Nat → Nat) (N : Nat) : Nat → List (Nat × Nat)
  | 0 => []
  | c + 1 => sdR P Q N c ++ sdi P Q N c c
theorem sdi_mem {P Q : Nat → Nat} {N c : Nat} {q : Nat × Nat} : ∀ {n : Nat}, q ∈ sdi P Q N c n ↔ ∃ d, d < n ∧ q ∈ sdp P Q N c d
  | 0 => ⟨fun h => absurd h List.not_mem_nil, fun ⟨d, h, _⟩ => absurd h (Nat.not_lt_zero d)⟩
  | n + 1 => by
    show q ∈ sdi P Q N c n ++ sdp P Q N c n ↔ _
    rw [List.mem_append, sdi_mem]
    constructor
    · rintro (⟨d, h1, h2⟩ | h)
      · exact ⟨d, by omega, h2⟩
      · exact ⟨n, by omega, h⟩
    · rintro ⟨d, h1, h2⟩
      by_cases e : d = n
      · subst e; exact Or.inr h2
      · exact Or.inl ⟨d, by omega, h2⟩
theorem sdR_mem {P Q : Nat → Nat} {N : Nat} {q : Nat × Nat} : ∀ {n : Nat}, q ∈ sdR P Q N n ↔ ∃ c d, c < n ∧ d < c ∧ q ∈ sdp P Q N c d
  | 0 => ⟨fun h => absurd h List.not_mem_nil, fun ⟨c, _, h, _⟩ => absurd h (Nat.not_lt_zero c)⟩
  | n + 1 => by
    show q ∈ sdR P Q N n ++ sdi P Q N n n ↔ _
    rw [List.mem_append, sdR_mem, sdi_mem]
    constructor
    · rintro (⟨c, d, h1, h2, h3⟩ | ⟨d, h1, h2⟩)
      · exact ⟨c, d, by omega, h2, h3⟩
      · exact ⟨n, d, by omega, h1, h2⟩
    · rintro ⟨c, d, h1, h2, h3⟩
      by_cases e : c = n
      · subst e; exact Or.inr ⟨d, h2, h3⟩
      · exact Or.inl ⟨c, d, by omega, h2, h3⟩
def orB (f : Nat → Bool) : Nat → Nat
  | 0 => 0
  | n + 1 => orB f n ||| (if f n = true then 2 ^ n else 0)
theorem orB_lt (f : Nat → Bool) : ∀ n, orB f n < 2 ^ n
  | 0 => by simp [orB]
  | n + 1 => by
    have h := orB_lt f n
    have e : (2 : Nat) ^ (n + 1) = 2 ^ n + 2 ^ n := by omega
    unfold orB
    apply Nat.or_lt_two_pow
    · omega
    · split <;> omega
theorem orB_bit (f : Nat → Bool) (d : Nat) : ∀ n, (orB f n).testBit d = (decide (d < n) && f d)
  | 0 => by simp [orB]
  | n + 1 => by
    unfold orB
    rw [Nat.testBit_or, orB_bit f d n]
    by_cases hb : f n = true
    · rw [if_pos hb, Nat.testBit_two_pow]
      by_cases hd : n = d
      · subst hd; simp [hb]
      · have : (d < n + 1) ↔ d < n := by omega
        simp [hd, this]
    · rw [if_neg hb]
      have hb : f n = false := by simpa using hb
      by_cases hd : d = n
      · subst hd; simp [hb]
      · have : (d < n + 1) ↔ d < n := by omega
        simp [this]
theorem badO_iff {P Q : Nat → Nat} {N s : Nat} : badO P Q N s N = false ↔ ∀ c d, c < N → d < c → okS P Q N s c d := by
  unfold badO badI
  rw [← Bool.not_eq_true, anyB_iff]
  constructor
  · intro h c d hc hd
    by_cases q : okS P Q N s c d
    · exact q
    · exact absurd ⟨c, hc, anyB_iff.mpr ⟨d, hd, by rw [decide_eq_false q]; rfl⟩⟩ h
  · rintro h ⟨c, hc, h2⟩
    obtain ⟨d, hd, h3⟩ := anyB_iff.mp h2
    rw [decide_eq_true (h c d hc hd)] at h3
    cases h3
theorem sides_iff {lab : Nat → Nat} (h : IsLab (2 * N) (sdR P Q N N) lab) : (∀ c, c < N → lab (2 * c) ≠ lab (2 * c + 1)) ↔ br3 P Q N (2 ^ N) = true := by
  unfold br3
  rw [anyB_iff]
  constructor
  · intro hn
    refine ⟨orB (fun c => decide (lab (2 * c) < lab (2 * c + 1))) N, orB_lt _ _, ?_⟩
    have : badO P Q N (orB (fun c => decide (lab (2 * c) < lab (2 * c + 1))) N) N = false := by
      rw [badO_iff]
      intro c d hc hd hb
      rw [orB_bit, orB_bit, decide_eq_true hc, decide_eq_true (show d < N by omega), Bool.true_and, Bool.true_and]
      have n1 := hn c hc
      have n2 := hn d (by omega)
      by_cases e : shr P Q N c d % 2 = 0
      · have m1 := h.2.2 (2 * c, 2 * d + 1) (sdR_mem.mpr ⟨c, d, hc, hd, by unfold sdp; rw [if_pos hb, if_pos e]; exact List.mem_cons_self⟩)
        have m2 := h.2.2 (2 * c + 1, 2 * d) (sdR_mem.mpr ⟨c, d, hc, hd, by unfold sdp; rw [if_pos hb, if_pos e]; exact List.mem_cons_of_mem _ List.mem_cons_self⟩)
        dsimp only at m1 m2
        refine ⟨fun _ => e, fun _ q => ?_⟩
        have q := decide_eq_decide.mp q
        omega
      · have m1 := h.2.2 (2 * c, 2 * d) (sdR_mem.mpr ⟨c, d, hc, hd, by unfold sdp; rw [if_pos hb, if_neg e]; exact List.mem_cons_self⟩)
        have m2 := h.2.2 (2 * c + 1, 2 * d + 1) (sdR_mem.mpr ⟨c, d, hc, hd, by unfold sdp; rw [if_pos hb, if_neg e]; exact List.mem_cons_of_mem _ List.mem_cons_self⟩)
        dsimp only at m1 m2
        refine ⟨fun q => absurd (decide_eq_decide.mpr (by omega)) q, fun q => absurd q e⟩
    rw [this]; rfl
  · rintro ⟨s, hs, h2⟩ c hc e
    have h2 : badO P Q N s N = false := by simpa using h2
    rw [badO_iff] at h2
    have hcn := (h.conn (a := 2 * c) (b := 2 * c + 1) (by omega) (by omega)).mpr e
    have := hcn (fun u v => (s.testBit (u / 2) != decide (u % 2 = 1)) = (s.testBit (v / 2) != decide (v % 2 = 1))) (fun _ => rfl) (fun _ _ q => q.symm) (fun _ _ _ q r => q.trans r) (fun q hq => by
      obtain ⟨a, b, ha, hb, hm⟩ := sdR_mem.mp hq
      have ok := h2 a b ha hb
      unfold sdp at hm
      split at hm
      · rename_i hbt
        have ok := ok hbt
        split at hm
        · rename_i ev
          have ok := ok.mpr ev
          have n1 : 2 * a / 2 = a := by omega
          have n2 : (2 * b + 1) / 2 = b := by omega
          have n3 : (2 * a + 1) / 2 = a := by omega
          have n4 : 2 * b / 2 = b := by omega
          have k1 : decide (2 * a % 2 = 1) = false := decide_eq_false (by omega)
          have k2 : decide ((2 * b + 1) % 2 = 1) = true := decide_eq_true (by omega)
          have k3 : decide ((2 * a + 1) % 2 = 1) = true := decide_eq_true (by omega)
          have k4 : decide (2 * b % 2 = 1) = false := decide_eq_false (by omega)
          simp only [List.mem_cons, List.not_mem_nil, or_false] at hm
          rcases hm with rfl | rfl
          · dsimp only
            rw [n1, n2, k1, k2]
            revert ok
            cases s.testBit a <;> cases s.testBit b <;> simp
          · dsimp only
            rw [n3, n4, k3, k4]
            revert ok
            cases s.testBit a <;> cases s.testBit b <;> simp
        · rename_i ev
          have ok : s.testBit a = s.testBit b := Decidable.not_not.mp (fun z => ev (ok.mp z))
          have n1 : 2 * a / 2 = a := by omega
          have n2 : (2 * b + 1) / 2 = b := by omega
          have n3 : (2 * a + 1) / 2 = a := by omega
          have n4 : 2 * b / 2 = b := by omega
          have k1 : decide (2 * a % 2 = 1) = false := decide_eq_false (by omega)
          have k2 : decide ((2 * b + 1) % 2 = 1) = true := decide_eq_true (by omega)
          have k3 : decide ((2 * a + 1) % 2 = 1) = true := decide_eq_true (by omega)
          have k4 : decide (2 * b % 2 = 1) = false := decide_eq_false (by omega)
          simp only [List.mem_cons, List.not_mem_nil, or_false] at hm
          rcases hm with rfl | rfl
          · dsimp only
            rw [n1, n4, k1, k4, ok]
          · dsimp only
            rw [n3, n2, k3, k2, ok]
      · exact absurd hm List.not_mem_nil)
    rw [show 2 * c / 2 = c by omega, show (2 * c + 1) / 2 = c by omega, decide_eq_false (show ¬ 2 * c % 2 = 1 by omega), decide_eq_true (show (2 * c + 1) % 2 = 1 by omega)] at this
    revert this
    cases s.testBit c <;> simp
theorem C_sides (hC : CI A x) (h : RD A x r N L P Q) (hN : N ≤ 8) : ∃ y, fX7_sidesCanBeChosen A (some r) (some (x + 20)) = some y ∧ y.1 = bI (br3 P Q N (2 ^ N) = true) ∧ Fr (hS x) A y.2 := by
  unfold fX7_sidesCanBeChosen
  obtain ⟨A2, e2, g2, l2⟩ := C_scatter (n := 2 * N) hC (by omega)
  have en : (2 : Int32) * I (N : Int) = I ((2 * N : Nat) : Int) := by rw [L_2, I_mul]; congr 1
  rw [rcv_ok h.k, bs, gI_ok h.k, bs, h.i0, en, e2, bs]
  refine for_eb2 N (fun c s => s.1 = I c ∧ Fr (hS x) A s.2 ∧ Hp s.2 x (2 * N) (sdR P Q N c)) (fun t => Fr (hS x) A t ∧ Hp t x (2 * N) (sdR P Q N N)) ⟨rfl, g2, l2⟩ ?_ ?_ ?_
  · rintro c ⟨s1, s2⟩ hc ⟨e1, g1, l1⟩
    dsimp only at e1 g1 l1 ⊢
    subst e1
    have h1 := h.fh g1
    have ec : (2 : Int32) * I (c : Int) = I ((2 * c : Nat) : Int) := by rw [L_2, I_mul]; congr 1
    have ec1 : I ((2 * c : Nat) : Int) + 1 = I ((2 * c + 1 : Nat) : Int) := by rw [L_1, I_add, ← cst]
    rw [gI_ok h1.k, bs, h1.i0, if_neg (le_n (by omega)), ec]
    refine for_eb c (fun d s => s.1 = I d ∧ Fr (hS x) A s.2 ∧ Hp s.2 x (2 * N) (sdR P Q N c ++ sdi P Q N c d)) (fun t => Fr (hS x) A t ∧ Hp t x (2 * N) (sdR P Q N (c + 1))) ⟨rfl, g1, by rw [show sdi P Q N c 0 = [] from rfl, List.append_nil]; exact l1⟩ ?_ ?_ (fun t ht => ⟨.inl (I c + 1, t), rfl, (I c + 1, t), rfl, by rw [L_1, I_add, ← cst], ht⟩)
    · rintro d ⟨u1, u2⟩ hd ⟨f1, g3, l3⟩
      dsimp only at f1 g3 l3 ⊢
      subst f1
      have h3 := h.fh g3
      have hC3 := hC.fr g3
      have es : sdi P Q N c (d + 1) = sdi P Q N c d ++ sdp P Q N c d := rfl
      have ed : (2 : Int32) * I (d : Int) = I ((2 * d : Nat) : Int) := by rw [L_2, I_mul]; congr 1
      have ed1 : I ((2 * d : Nat) : Int) + 1 = I ((2 * d + 1 : Nat) : Int) := by rw [L_1, I_add, ← cst]
      rw [if_neg (le_n (by omega)), btw_b h3 hN hc (by omega), jp_eq]
      by_cases hb : Btw P Q c d
      · have := cnt_le (bset P Q c N &&& bset P Q d N) 16
        have hsh : shr P Q N c d ≤ 16 := this
        rw [if_neg (fun q => bI0.mp q hb), C_shared h3 hN hc (by omega), bs, C_isEven u2 (by omega), bs, jp1_eq, ed, ed1, ec1]
        simp only [jp1_eq]
        by_cases ev : shr P Q N c d % 2 = 0
        · obtain ⟨A', q1, q2, q3⟩ := C_join hC3 l3 (a := 2 * c) (b := 2 * d + 1) (by omega) (by omega)
          obtain ⟨A'', r1, r2, r3⟩ := C_join (hC3.fr q2) q3 (a := 2 * c + 1) (b := 2 * d) (by omega) (by omega)
          have cz : ¬ bI (shr P Q N c d % 2 = 0) = 0 := fun z => bI0.mp z ev
          rw [if_neg cz, q1, bs, if_neg cz, r1, bs]
          refine ⟨_, rfl, by dsimp only; rw [L_1, I_add, ← cst], (g3.tr' q2).tr' r2, ?_⟩
          rw [es, show sdp P Q N c d = [(2 * c, 2 * d + 1)] ++ [(2 * c + 1, 2 * d)] from by unfold sdp; rw [if_pos hb, if_pos ev]; rfl, ← List.append_assoc, ← List.append_assoc]; exact r3
        · obtain ⟨A', q1, q2, q3⟩ := C_join hC3 l3 (a := 2 * c) (b := 2 * d) (by omega) (by omega)
          obtain ⟨A'', r1, r2, r3⟩ := C_join (hC3.fr q2) q3 (a := 2 * c + 1) (b := 2 * d + 1) (by omega) (by omega)
          have cz : bI (shr P Q N c d % 2 = 0) = 0 := bI0.mpr ev
          rw [if_pos cz, q1, bs, if_pos cz, r1, bs]
          refine ⟨_, rfl, by dsimp only; rw [L_1, I_add, ← cst], (g3.tr' q2).tr' r2, ?_⟩
          rw [es, show sdp P Q N c d = [(2 * c, 2 * d)] ++ [(2 * c + 1, 2 * d + 1)] from by unfold sdp; rw [if_pos hb, if_neg ev]; rfl, ← List.append_assoc, ← List.append_assoc]; exact r3
      · rw [if_pos (bI0.mpr hb)]
        refine ⟨_, rfl, by dsimp only; rw [L_1, I_add, ← cst], g3, ?_⟩
        rw [es, show sdp P Q N c d = [] from by unfold sdp; rw [if_neg hb], List.append_nil]; exact l3
    · rintro ⟨u1, u2⟩ ⟨f1, g3, l3⟩
      dsimp only at f1 g3 l3 ⊢
      subst f1
      exact ⟨_, by rw [if_pos (le_y (by omega))], g3, l3⟩
  · rintro ⟨s1, s2⟩ ⟨e1, g1, l1⟩
    dsimp only at e1 g1 l1 ⊢
    subst e1
    have h1 := h.fh g1
    exact ⟨_, by rw [gI_ok h1.k, bs, h1.i0, if_pos (le_y (by omega))], g1, l1⟩
  · rintro T ⟨gT, lT⟩
    have hT := h.fh gT
    have hCT := hC.fr gT
    have hl := lT.lab
    have hsi := sides_iff hl
    refine ⟨(bI (br3 P Q N (2 ^ N) = true), T), ?_, rfl, gT⟩
    refine find_bb (fun c => decide (theLab (2 * N) (sdR P Q N N) (2 * c) = theLab (2 * N) (sdR P Q N N) (2 * c + 1))) (0, T) N (fun c hc => ?_) ?_ ?_
    · have ec : (2 : Int32) * I (c : Int) = I ((2 * c : Nat) : Int) := by rw [L_2, I_mul]; congr 1
      have ec1 : I ((2 * c : Nat) : Int) + 1 = I ((2 * c + 1 : Nat) : Int) := by rw [L_1, I_add, ← cst]
      have b1 := hl.1 (2 * c) (by omega)
      have b2 := hl.1 (2 * c + 1) (by omega)
      rw [gI_ok hT.k, bs, hT.i0, if_neg (le_n (by omega)), ec, C_least hCT lT (by omega), bs, ec1, C_least hCT lT (by omega), bs]
      by_cases q : theLab (2 * N) (sdR P Q N N) (2 * c) = theLab (2 * N) (sdR P Q N N) (2 * c + 1)
      · rw [if_pos (by rw [q]), if_pos (decide_eq_true q)]
      · rw [if_neg (eq_n (by omega)), if_neg (by rw [decide_eq_true_iff]; exact q), L_1, I_add, ← cst]
    · rw [gI_ok hT.k, bs, hT.i0, if_pos (le_y (by omega))]
    · rw [sm_b]
      by_cases q : anyB (fun c => decide (theLab (2 * N) (sdR P Q N N) (2 * c) = theLab (2 * N) (sdR P Q N N) (2 * c + 1))) N = true
      · rw [if_pos q]
        obtain ⟨j, j1, j2⟩ := anyB_iff.mp q
        have : ¬ br3 P Q N (2 ^ N) = true := fun z => hsi.mpr z j j1 (of_decide_eq_true j2)
        rw [bI0.mpr this]
      · rw [if_neg q]
        have : br3 P Q N (2 ^ N) = true := hsi.mp (fun c hc e => q (anyB_iff.mpr ⟨c, hc, decide_eq_true e⟩))
        rw [bI1.mpr this]
theorem C_broken (hC : CI A x) (h : RD A x r N L P Q) (hN : N ≤ 8) : ∃ y, fX7_brokenLaw A (some r) (some (x + 20)) = some y ∧ y.1 = I (brk P Q N) ∧ Fr (hS x) A y.2 := by
  unfold fX7_brokenLaw brk
  rw [rcv_ok h.k, bs, C_each1 h hN, bs]
  cases e1 : br1 P Q N N with
  | true => rw [if_pos (bI0.mpr (by decide)), if_pos rfl]; exact ⟨_, rfl, rfl, Fr.rf⟩
  | false =>
    rw [if_neg (fun z => bI0.mp z rfl), if_neg (by decide), C_each2 h hN, bs]
    cases e2 : br2 P Q N N with
    | true => rw [if_pos (bI0.mpr (by decide)), if_pos rfl]; exact ⟨_, rfl, rfl, Fr.rf⟩
    | false =>
      obtain ⟨y, y1, y2, y3⟩ := C_sides hC h hN
      rw [if_neg (fun z => bI0.mp z rfl), if_neg (by decide), y1, bs, y2]
      cases e3 : br3 P Q N (2 ^ N) with
      | true => rw [if_neg (fun z => bI0.mp z rfl), if_pos rfl]; exact ⟨_, rfl, rfl, y3⟩
      | false => rw [if_pos (bI0.mpr (by decide)), if_neg (by decide)]; exact ⟨_, rfl, rfl, y3⟩
/-! rings -/
theorem C_ringsOf (hC : CI A x) (h : RD A x r N L P Q) (hV : VW N L P Q) {s : Nat} (hs : s < 2147483648) : ∃ y, fX7_ringsOf A (some r) (I s) (some (x + 20)) = some y ∧ y.1 = I (rings N P Q s) ∧ Fr (hS x) A y.2 := by
  have hN := hV.1
  unfold fX7_ringsOf rings
  rw [rcv_ok h.k, bs, gI_ok h.k, bs, h.i0]
  by_cases h0 : N = 0
  · rw [if_pos (by rw [h0]; rfl), if_pos h0]
    exact ⟨_, rfl, rfl, Fr.rf⟩
  obtain ⟨A2, e2, g2, l2⟩ := C_scatter (n := 2 * N) hC (by omega)
  rw [if_neg (show ¬ I (N : Int) = 0 from eq_n (b := 0) (by omega)), if_neg h0, gI_ok h.k, bs, h.i1, e2, bs]
  refine for_eb N (fun c s' => s'.1 = I c ∧ Fr (hS x) A s'.2 ∧ Hp s'.2 x (2 * N) (rgR N P Q s c)) (fun t => Fr (hS x) A t ∧ Hp t x (2 * N) (rgR N P Q s N)) ⟨rfl, g2, l2⟩ ?_ ?_ ?_
  · rintro c ⟨s1, s2⟩ hc ⟨e1, g1, l1⟩
    dsimp only at e1 g1 l1 ⊢
    subst e1
    have h1 := h.fh g1
    have hC1 := hC.fr g1
    obtain ⟨p1, p2, -, -⟩ := hV.2.1 c hc
    have hmod := Nat.mod_lt (P c + 2 * N - 1) (show 2 * N > 0 by omega)
    have eq1 : (Q c + 2 * N - 1) % (2 * N) = Q c - 1 := by rw [pv_eq p2, if_neg (by omega)]
    rw [gI_ok h1.k, bs, h1.i0, if_neg (le_n (by omega)), h1.r3, bs, aI_at h1.k3 hc (by omega), bs, (h1.p c hc).1, h1.r4, bs, aI_at h1.k4 hc (by omega), bs, (h1.p c hc).2.1, C_ahead h1 hN (by omega), bs, C_ahead h1 hN p2, bs, eq1, C_isIn s2 hs (by omega), bs]
    simp only [jp1_eq]
    have ey : (if bI (s.testBit c = true) = 0 then I (Q c : Int) else I ((Q c - 1 : Nat) : Int)) = I ((if s.testBit c then Q c - 1 else Q c : Nat) : Int) := by
      by_cases q : s.testBit c = true
      · rw [if_neg (fun z => bI0.mp z q), if_pos q]
      · rw [if_pos (bI0.mpr q), if_neg q]
    have ez : (if bI (s.testBit c = true) = 0 then I ((Q c - 1 : Nat) : Int) else I (Q c : Int)) = I ((if s.testBit c then Q c else Q c - 1 : Nat) : Int) := by
      by_cases q : s.testBit c = true
      · rw [if_neg (fun z => bI0.mp z q), if_pos q]
      · rw [if_pos (bI0.mpr q), if_neg q]
    obtain ⟨A', q1, q2, q3⟩ := C_join hC1 l1 (a := (P c + 2 * N - 1) % (2 * N)) (b := if s.testBit c then Q c - 1 else Q c) hmod (by split <;> omega)
    obtain ⟨A'', r1, r2, r3⟩ := C_join (hC1.fr q2) q3 (a := P c) (b := if s.testBit c then Q c else Q c - 1) (by omega) (by split <;> omega)
    rw [ey, q1, bs, ez, r1, bs]
    refine ⟨_, rfl, by dsimp only; rw [L_1, I_add, ← cst], (g1.tr' q2).tr' r2, ?_⟩
    rw [show rgR N P Q s (c + 1) = (rgR N P Q s c ++ [((P c + 2 * N - 1) % (2 * N), if s.testBit c then Q c - 1 else Q c)]) ++ [(P c, if s.testBit c then Q c else Q c - 1)] from by rw [List.append_assoc]; rfl]; exact r3
  · rintro ⟨s1, s2⟩ ⟨e1, g1, l1⟩
    dsimp only at e1 g1 l1 ⊢
    subst e1
    have h1 := h.fh g1
    exact ⟨_, by rw [gI_ok h1.k, bs, h1.i0, if_pos (le_y (by omega))], g1, l1⟩
  · rintro T ⟨gT, lT⟩
    rw [C_hcount (hC.fr gT) lT, bs]
    exact ⟨_, rfl, rfl, gT⟩
/-! corners -/
theorem I_and3 {k : Nat} (h : k < 8) : (I ((k : Int) - 1) &&& 3) = I ((((k + 3) % 4 : Nat)) : Int) := by
  have : ∀ k : Fin 8, (I (((k.val : Nat) : Int) - 1) &&& 3) = I ((((k.val + 3) % 4 : Nat)) : Int) := by decide +kernel
  exact this ⟨k, h⟩
theorem C_corner (A : AH) {a k : Nat} (h : k < 8) : fX3_corner A (I a) (I ((k : Int) - 1)) = some (I ((4 * a + (k + 3) % 4 : Nat) : Int)) := by
  unfold fX3_corner
  rw [I_and3 h, L_4, I_mul, I_add]
  congr 2
theorem C_end (h : RD A x r N L P Q) (hV : VW N L P Q) {sg : Nat} (hs : sg < 2147483648) {i : Nat} (hi : i < 2 * N) : fX3_endLeaving A (some r) (I i) (I sg) = some (I (lvA L P sg i)) := by
  have hN := hV.1
  have hl := (hV.2.2 i hi).1
  unfold fX3_endLeaving lvA
  rw [C_isFirst h hV hi, bs]
  by_cases q : P (L i) = i
  · rw [if_neg (fun z => bI0.mp z q), if_pos q]; rfl
  · rw [if_pos (bI0.mpr q), if_neg q, C_letterOn h hN hi, bs, C_isIn A hs (by omega), bs]
    by_cases q2 : sg.testBit (L i) = true
    · rw [if_neg (fun z => bI0.mp z q2), if_pos q2]; rfl
    · rw [if_pos (bI0.mpr q2), if_neg q2]; rfl
theorem cmA_eq {N : Nat} {L P : Nat → Nat} {sg i : Nat} : cmA N L P sg i = (lvA L P sg (nx N i) + 2) % 4 := by
  unfold cmA lvA
  split
  · rfl
  · split <;> rfl
theorem C_countIn2 (hC : CI A x) (h : RD A x r N L P Q) (hV : VW N L P Q) {sg : Nat} (hs : sg < 2147483648) : ∃ y, fX3_countIn A (some r) (I sg) (some (x + 20)) = some y ∧ y.1 = I (faces N L P sg) ∧ Fr (hS x) A y.2 ∧ Hp y.2 x (4 * N) (fR N L P sg (2 * N)) ∧ Hs y.2 = Hs A := by
  have hN := hV.1
  unfold fX3_countIn faces
  obtain ⟨A2, e2, g2, l2, k2⟩ := C_scatter2 (n := 4 * N) hC (by omega)
  have en : (4 : Int32) * I (N : Int) = I ((4 * N : Nat) : Int) := by rw [L_4, I_mul]; congr 1
  rw [C_lc h, bs, en, e2, bs]
  refine for_eb (2 * N) (fun i s' => s'.1 = I i ∧ Fr (hS x) A s'.2 ∧ Hp s'.2 x (4 * N) (fR N L P sg i) ∧ Hs s'.2 = Hs A) (fun t => Fr (hS x) A t ∧ Hp t x (4 * N) (fR N L P sg (2 * N)) ∧ Hs t = Hs A) ⟨rfl, g2, l2, k2⟩ ?_ ?_ ?_
  · rintro i ⟨s1, s2⟩ hi ⟨e1, g1, l1, m1⟩
    dsimp only at e1 g1 l1 m1 ⊢
    subst e1
    have h1 := h.fh g1
    have hC1 := hC.fr g1
    obtain ⟨n1, n2⟩ := nx_lt hV hi
    obtain ⟨c1, c2, c3, c4⟩ := cn_lt (sg := sg) hV hi
    have v1 := lvA_lt L P sg i
    have v2 := lvA_lt L P sg (nx N i)
    have k1 : ∀ B, fX3_corner B (I (L i : Int)) (I (lvA L P sg i : Int)) = some (I (lC L P sg i : Int)) := fun B => by
      have := C_corner B (a := L i) (k := lvA L P sg i + 1) (by omega)
      rw [show ((lvA L P sg i + 1 : Nat) : Int) - 1 = (lvA L P sg i : Int) by omega] at this
      rw [this]; unfold lC; congr 3; omega
    have k2 : ∀ B, fX3_corner B (I (L i : Int)) (I (lvA L P sg i : Int) - 1) = some (I (rC L P sg i : Int)) := fun B => by
      rw [L_1, I_sub]
      exact C_corner B (a := L i) (k := lvA L P sg i) (by omega)
    have k3 : ∀ B, fX3_corner B (I (L (nx N i) : Int)) (I (lvA L P sg (nx N i) : Int) + 2 - 1) = some (I (lF N L P sg i : Int)) := fun B => by
      have := C_corner B (a := L (nx N i)) (k := lvA L P sg (nx N i) + 2) (by omega)
      rw [L_2, I_add, L_1, I_sub]
      rw [show ((lvA L P sg (nx N i) + 2 : Nat) : Int) - 1 = (lvA L P sg (nx N i) : Int) + 2 - 1 by omega] at this
      rw [this]; unfold lF; rw [cmA_eq]; congr 3; omega
    have k4 : ∀ B, fX3_corner B (I (L (nx N i) : Int)) (I (lvA L P sg (nx N i) : Int) + 2) = some (I (rF N L P sg i : Int)) := fun B => by
      have := C_corner B (a := L (nx N i)) (k := lvA L P sg (nx N i) + 3) (by omega)
      rw [L_2, I_add]
      rw [show ((lvA L P sg (nx N i) + 3 : Nat) : Int) - 1 = (lvA L P sg (nx N i) : Int) + 2 by omega] at this
      rw [this]; unfold rF; rw [cmA_eq]; congr 3; omega
    obtain ⟨A', q1, q2, q3, q4⟩ := C_join2 hC1 l1 c1 c3
    have h2 := h1.fh q2
    obtain ⟨A'', r1, r2, r3, r4⟩ := C_join2 (hC1.fr q2) q3 c2 c4
    rw [C_pc h1, bs, if_neg (le_n (by omega)), C_behind h1 hN hi, bs, C_end h1 hV hs hi, bs, C_end h1 hV hs n1, bs, C_letterOn h1 hN hi, bs, k1, bs, C_letterOn h1 hN n1, bs, k3, bs, q1, bs, C_letterOn h2 hN hi, bs, k2, bs, C_letterOn h2 hN n1, bs, k4, bs, r1, bs]
    refine ⟨_, rfl, by dsimp only; rw [L_1, I_add, ← cst], (g1.tr' q2).tr' r2, ?_, by dsimp only; rw [r4, q4, m1]⟩
    rw [show fR N L P sg (i + 1) = (fR N L P sg i ++ [(lC L P sg i, lF N L P sg i)]) ++ [(rC L P sg i, rF N L P sg i)] from by rw [List.append_assoc]; rfl]; exact r3
  · rintro ⟨s1, s2⟩ ⟨e1, g1, l1, m1⟩
    dsimp only at e1 g1 l1 m1 ⊢
    subst e1
    have h1 := h.fh g1
    exact ⟨_, by rw [C_pc h1, bs, if_pos (le_y (by omega))], g1, l1, m1⟩
  · rintro T ⟨gT, lT, mT⟩
    rw [C_lc (h.fh gT), bs]
    by_cases h0 : N = 0
    · rw [if_pos (by rw [h0]; rfl), if_pos h0]
      exact ⟨_, rfl, rfl, gT, lT, mT⟩
    · rw [if_neg (show ¬ I (N : Int) = 0 from eq_n (b := 0) (by omega)), if_neg h0, C_hcount (hC.fr gT) lT, bs]
      exact ⟨_, rfl, rfl, gT, lT, mT⟩
theorem C_countIn (hC : CI A x) (h : RD A x r N L P Q) (hV : VW N L P Q) {sg : Nat} (hs : sg < 2147483648) : ∃ y, fX3_countIn A (some r) (I sg) (some (x + 20)) = some y ∧ y.1 = I (faces N L P sg) ∧ Fr (hS x) A y.2 ∧ Hp y.2 x (4 * N) (fR N L P sg (2 * N)) := by
  obtain ⟨y, h1, h2, h3, h4, -⟩ := C_countIn2 hC h hV hs
  exact ⟨y, h1, h2, h3, h4⟩
end
