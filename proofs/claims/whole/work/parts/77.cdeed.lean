/-! the class: deeds that make a word anew -/
theorem dbl_eq {D E : Nat → Nat} {n : Nat} (h : ∀ i j, i < n → j < n → (D i = D j ↔ E i = E j)) (hE : Dbl E n) : Dbl D n := fun i hi => by
  have key : ∀ k, k ≤ n → occ D (D i) k = occ E (E i) k := by
    intro k
    induction k with
    | zero => intro _; rfl
    | succ k ih =>
      intro hk
      show occ D (D i) k + (if D k = D i then 1 else 0) = occ E (E i) k + (if E k = E i then 1 else 0)
      rw [ih (by omega)]
      congr 1
      by_cases q : D k = D i
      · rw [if_pos q, if_pos ((h k i (by omega) hi).mp q)]
      · rw [if_neg q, if_neg (fun z => q ((h k i (by omega) hi).mpr z))]
  rw [key _ (Nat.le_refl _)]; exact hE i hi
theorem twL_S {L : Nat → Nat} {n k N : Nat} (h : ∀ i, i < n → L i < N) : ∀ i, ∀ v ∈ twL L n k i, v < N ∨ v = 10 ∨ v = 11
  | 0, v, hv => by cases hv
  | i + 1, v, hv => by
    have hA : ∀ v ∈ twA L n i (twL L n k i), v < N ∨ v = 10 ∨ v = 11 := by
      intro v hv
      unfold twA at hv
      split at hv
      · rename_i q
        rcases List.mem_append.mp hv with z | z
        · exact twL_S h i v z
        · rw [List.mem_singleton] at z; rw [z]; exact Or.inl (h i q)
      · exact twL_S h i v hv
    have hv : v ∈ (if i = k then (twA L n i (twL L n k i) ++ [10]) ++ [10] else twA L n i (twL L n k i)) := hv
    split at hv
    · rcases List.mem_append.mp hv with z | z
      · rcases List.mem_append.mp z with z | z
        · exact hA v z
        · rw [List.mem_singleton] at z; omega
      · rw [List.mem_singleton] at z; omega
    · exact hA v hv
theorem pkL_S {L : Nat → Nat} {k o N : Nat} {tw : Bool} : ∀ {n : Nat}, (∀ i, i < n → L i < N) → ∀ v ∈ pkL L k o tw n, v < N ∨ v = 10 ∨ v = 11
  | 0, _, v, hv => by cases hv
  | n + 1, h, v, hv => by
    have hA : ∀ v ∈ pkL L k o tw n ++ [L n], v < N ∨ v = 10 ∨ v = 11 := by
      intro v hv
      rcases List.mem_append.mp hv with z | z
      · exact pkL_S (fun i hi => h i (by omega)) v z
      · rw [List.mem_singleton] at z; rw [z]; exact Or.inl (h n (by omega))
    have hv : v ∈ (if n = k ∨ n = o then ((pkL L k o tw n ++ [L n]) ++ [if n = o ∧ tw = true then 11 else 10]) ++ [if n = o ∧ tw = true then 10 else 11] else pkL L k o tw n ++ [L n]) := hv
    split at hv
    · rcases List.mem_append.mp hv with z | z
      · rcases List.mem_append.mp z with z | z
        · exact hA v z
        · rw [List.mem_singleton] at z; rw [z]; split <;> omega
      · rw [List.mem_singleton] at z; rw [z]; split <;> omega
    · exact hA v hv
section
variable {A B C : AH} {x r w a b f : Nat} {G G' : Gm} {wd : Wrd} {s : St} {l : List Nat}
theorem CF.dr (h : CF A x G s) (g : Fr (dS x) A B) : CF B x G s ∧ Kp x A B := by
  obtain ⟨h1, h2⟩ := GI.hp h.1 g (fun a q => by rcases q with q | q <;> omega)
  exact ⟨h.qt h2 h1, h2.kp h.1.1⟩
/-- the draft becomes word t: the answer is its letters -/
theorem W_dr (h : CF A x G s) (hk : StOK s) {t : Nat} (ht : t < (sSh s).1) (g : Fr (dS x) A B) (hD : DrL B x l) (hb : ∀ k, k < l.length → lD l k < 1000) {E : Nat → Nat} {n : Nat} (hn : l.length = n) (hdE : Dbl E n) (hE : ∀ i j, i < l.length → j < l.length → (lD l i = lD l j ↔ E i = E j)) : ∃ r C G', fX11_becomesDraft B (some x) (I t) = some (some r, C) ∧ CF C x G' (reW s t E n) ∧ Kp x A C ∧ isRow C x r ∧ G' r = (n / 2, fun i => nn E (E i) i) ∧ fX7_letterCount C (some r) = some (I ((n / 2 : Nat) : Int)) := by
  obtain ⟨h1, h2⟩ := h.dr g
  subst hn
  obtain ⟨r, C, G', c1, c2, c3, c4, c5⟩ := W_draft h1 hk ht hD hb (dbl_eq hE hdE) hE
  refine ⟨r, C, G', c1, c2, h2.tr c3, c4, c5, ?_⟩
  have o := (c2.1.2.2.1 r c4).1
  rw [C_lc o, c5]
theorem W_turn (h : CF A x G s) (hk : StOK s) (v y z : Int32) (hz : z = 0 ∨ z = 1) : ∃ u G', fX11_turn A (some x) v y z = some u ∧ u.1 = oTurn s v y z ∧ CF u.2 x G' (eTurn s v y z) ∧ Kp x A u.2 := by
  unfold fX11_turn oTurn eTurn
  rw [rcv_ok h.c0, bs, h.1.1.sh, bs]
  rcases W_get h hk v with ⟨q, w, w1, w2⟩ | ⟨q, w1⟩
  rotate_left
  · rw [w1, bs, if_pos rfl, if_neg (fun z => q z.1), if_neg (fun z => q z.1)]
    exact ⟨_, G, rfl, rfl, h, Kp.rf⟩
  obtain ⟨r, r1, r2, r3, r4, r5, r6, r7, r8, r9, r10⟩ := G_row h.1 w2
  have hN := r7.1
  have e := C_hasPlace r8 hN (Bd_of y)
  rw [← I_of] at e
  rw [w1, bs, if_neg some_ne, r1, bs, e, bs]
  by_cases q2 : 0 ≤ y.toInt ∧ y.toInt < 2 * (sW s v).1
  rotate_left
  · rw [if_pos (bI0.mpr (by omega)), if_neg (fun z => q2 z.2), if_neg (fun z => q2 z.2)]
    exact ⟨_, G, rfl, rfl, h, Kp.rf⟩
  obtain ⟨t, ht, t2⟩ := wz q
  have hv : v = I (t : Int) := lit_eq t2
  have ew : sW s v = (sSh s).2 t := by unfold sW; rw [t2, Int.toNat_natCast]
  obtain ⟨k, k1, k2⟩ : ∃ k : Nat, k < 2 * (sW s v).1 ∧ y.toInt = k := ⟨y.toInt.toNat, by omega, by omega⟩
  have hy : y = I (k : Int) := lit_eq k2
  have hV4 := tV_lt (z := z) k1
  have tv1 : tV k z / 2 = k := by unfold tV; split <;> omega
  have tv2 : z = bI (tV k z % 2 = 1) := by
    rcases hz with rfl | rfl
    · exact (bI0.mpr (by unfold tV; rw [if_pos rfl]; omega)).symm
    · exact (bI1.mpr (by unfold tV; rw [if_neg (by decide)]; omega)).symm
  obtain ⟨B, b1, b2, b3⟩ := D_turned h.1.1 r8 r7 hV4 tv2
  rw [tv1, ← hy] at b1
  have hlt : ∀ j, j < (apx [] (tD (sW s v).1 (sW s v).2.1 (tV k z)) (2 * (sW s v).1)).length → lD (apx [] (tD (sW s v).1 (sW s v).2.1 (tV k z)) (2 * (sW s v).1)) j = tD (sW s v).1 (sW s v).2.1 (tV k z) j := fun j hj => by rw [apx0_len] at hj; exact lD_apx0 hj
  obtain ⟨r', C, G', c1, c2, c3, c4, c5, c6⟩ := W_dr h hk ht b2 b3 (fun j hj => by rw [hlt j hj]; have := tD_lt r7 (v := tV k z) (by omega) j; omega) (E := tD (sW s v).1 (sW s v).2.1 (tV k z)) (apx0_len _ _) (tD_dbl r7 hV4) (fun i j hi hj => by rw [hlt i hi, hlt j hj])
  obtain ⟨u, u1, u2, u3, u4⟩ := G_kin c2.1 c4
  have q3 : (0 ≤ v.toInt ∧ v.toInt < (sSh s).1) ∧ (0 ≤ y.toInt ∧ y.toInt < 2 * ((sSh s).2 v.toInt.toNat).1) := ⟨q, q2⟩
  have c1' : fX11_becomesDraft B (some x) v = some (some r', C) := by rw [hv]; exact c1
  rw [if_neg (fun z => bI0.mp z (by omega)), if_pos q3, if_pos q3, h.1.1.df, bs, bs, b1, bs, c1', bs]
  dsimp only
  rw [u1, bs]
  refine ⟨_, G', rfl, ?_, ?_, c3.tr (u4.kp c2.1.1)⟩
  · rw [k2, Int.toNat_natCast]
    dsimp only
    rw [u2, c5]
    rfl
  · rw [k2, t2, Int.toNat_natCast, Int.toNat_natCast]
    have := c2.qt u4 u3
    rw [ew] at this
    exact this
theorem W_twist (h : CF A x G s) (hk : StOK s) (v y : Int32) : ∃ u G', fX11_twist A (some x) v y = some u ∧ u.1 = oTw s v y ∧ CF u.2 x G' (eTw s v y) ∧ Kp x A u.2 := by
  unfold fX11_twist oTw eTw
  rw [rcv_ok h.c0, bs, h.1.1.sh, bs]
  rcases W_get h hk v with ⟨q, w, w1, w2⟩ | ⟨q, w1⟩
  rotate_left
  · rw [w1, bs, if_pos rfl, if_neg (fun z => q z.1), if_neg (fun z => q z.1.1)]
    exact ⟨_, G, rfl, rfl, h, Kp.rf⟩
  obtain ⟨r, r1, r2, r3, r4, r5, r6, r7, r8, r9, r10⟩ := G_row h.1 w2
  have hN := r7.1
  have e := C_hasStep r8 hN (Bd_of y)
  rw [← I_of] at e
  rw [w1, bs, if_neg some_ne, r1, bs, e, bs]
  by_cases q2 : 0 ≤ y.toInt ∧ y.toInt < ((max 1 (2 * (sW s v).1) : Nat) : Int)
  rotate_left
  · rw [if_pos (bI0.mpr q2), if_neg (fun z => q2 z.2), if_neg (fun z => q2 z.1.2)]
    exact ⟨_, G, rfl, rfl, h, Kp.rf⟩
  obtain ⟨t, ht, t2⟩ := wz q
  have hv : v = I (t : Int) := lit_eq t2
  have ew : sW s v = (sSh s).2 t := by unfold sW; rw [t2, Int.toNat_natCast]
  obtain ⟨k, k1, k2⟩ := wz q2
  have hy : y = I (k : Int) := lit_eq k2
  have q3 : uSt s v y := ⟨q, q2⟩
  rw [if_neg (fun z => bI0.mp z q2), if_pos q3, bs, C_lc r8, bs, L_1, I_add]
  by_cases q4 : (sW s v).1 = 8
  · rw [if_neg (show ¬ I _ ≤ (8 : Int32) from le_n (b := 8) (by omega)), if_pos q4, if_neg (fun z => z.2 q4)]
    exact ⟨_, G, rfl, rfl, h, Kp.rf⟩
  have hw := hk.1.2 t ht
  rw [← ew] at hw
  obtain ⟨B, b1, b2, b3⟩ := D_loop h.1.1 r8 r7 (by omega) k1
  have hS := twL_S (L := (sW s v).2.1) (n := 2 * (sW s v).1) (k := k) (N := (sW s v).1) (fun i hi => (r7.2.2 i hi).1) (max 1 (2 * (sW s v).1))
  have hE := map_eq (φ := ph1 (sW s v).1) (l := twL (sW s v).2.1 (2 * (sW s v).1) k (max 1 (2 * (sW s v).1))) _ hS (fun v u a b => ph1_inj hN a b)
  have hbb : ∀ j, j < ((twL (sW s v).2.1 (2 * (sW s v).1) k (max 1 (2 * (sW s v).1))).map (ph1 (sW s v).1)).length → lD ((twL (sW s v).2.1 (2 * (sW s v).1) k (max 1 (2 * (sW s v).1))).map (ph1 (sW s v).1)) j < 1000 := lD_b (fun u hu => by
    obtain ⟨p, p1, p2⟩ := List.mem_map.mp hu
    have := hS p p1
    rw [← p2]
    unfold ph1
    split <;> (try split) <;> omega)
  obtain ⟨r', C, G', c1, c2, c3, c4, c5, c6⟩ := W_dr h hk ht b2 b3 hbb (E := lD (wTw (sW s v) k)) (n := (wTw (sW s v) k).length) (by rw [List.length_map]; rfl) (wTw_dbl hw k) hE
  have c1' : fX11_becomesDraft B (some x) v = some (some r', C) := by rw [hv]; exact c1
  rw [if_pos (show I _ ≤ (8 : Int32) from le_y (b := 8) (by omega)), if_neg q4, if_pos ⟨q3, q4⟩, h.1.1.df, bs, bs, hy, b1, bs, c1', bs]
  dsimp only
  rw [c6, bs]
  refine ⟨_, G', rfl, ?_, ?_, c3⟩
  · rw [I_toInt (by omega), Int.toNat_natCast]
  · rw [I_toInt (by omega), t2, Int.toNat_natCast, Int.toNat_natCast]
    rw [ew] at c2
    exact c2
theorem W_untwist (h : CF A x G s) (hk : StOK s) (v y : Int32) : ∃ u G', fX11_untwist A (some x) v y = some u ∧ u.1 = oUntw s v y ∧ CF u.2 x G' (eUntw s v y) ∧ Kp x A u.2 := by
  unfold fX11_untwist oUntw eUntw
  rw [rcv_ok h.c0, bs, h.1.1.sh, bs]
  rcases W_get h hk v with ⟨q, w, w1, w2⟩ | ⟨q, w1⟩
  rotate_left
  · rw [w1, bs, if_pos rfl, if_neg (fun z => q z.1), if_neg (fun z => q z.1.1)]
    exact ⟨_, G, rfl, rfl, h, Kp.rf⟩
  obtain ⟨r, r1, r2, r3, r4, r5, r6, r7, r8, r9, r10⟩ := G_row h.1 w2
  have hN := r7.1
  have e := C_hasLetter r8 hN (Bd_of y)
  rw [← I_of] at e
  rw [w1, bs, if_neg some_ne, r1, bs, e, bs]
  by_cases q2 : 0 ≤ y.toInt ∧ y.toInt < (sW s v).1
  rotate_left
  · rw [if_pos (bI0.mpr q2), if_neg (fun z => q2 z.2), if_neg (fun z => q2 z.1.2)]
    exact ⟨_, G, rfl, rfl, h, Kp.rf⟩
  obtain ⟨t, ht, t2⟩ := wz q
  have hv : v = I (t : Int) := lit_eq t2
  have ew : sW s v = (sSh s).2 t := by unfold sW; rw [t2, Int.toNat_natCast]
  obtain ⟨k, k1, k2⟩ := wz q2
  have hy : y = I (k : Int) := lit_eq k2
  have q3 : uTw s v y := ⟨q, q2⟩
  have lp := C_isLoop r8 r7 k1
  have ek : y.toInt.toNat = k := by rw [k2, Int.toNat_natCast]
  rw [if_neg (fun z => bI0.mp z q2), if_pos q3, bs, hy, lp, bs, ← hy]
  by_cases q4 : wLp (sW s v) k
  rotate_left
  · have q4' : ¬ wLp (sW s v) y.toInt.toNat := by rw [ek]; exact q4
    rw [if_pos (bI0.mpr q4), if_neg q4', if_neg (fun z => q4' z.2)]
    exact ⟨_, G, rfl, rfl, h, Kp.rf⟩
  have q4' : wLp (sW s v) y.toInt.toNat := by rw [ek]; exact q4
  have hw := hk.1.2 t ht
  rw [← ew] at hw
  have hp := p2_lt hN
  have p8 : (2 : Nat) ^ k ≤ 2 ^ 8 := Nat.pow_le_pow_right (by decide) (by omega)
  obtain ⟨B, b1, b2, b3⟩ := D_without h.1.1 r8 r7 (c := k) (d := k) (st := 2 ^ k) (by omega) (fun i hi => by rw [Nat.testBit_two_pow, decide_eq_true_iff]; omega)
  obtain ⟨r', C, G', c1, c2, c3, c4, c5, c6⟩ := W_dr h hk ht b2 b3 (lD_b (woL_b (fun i hi => by have := (r7.2.2 i hi).1; omega))) rfl (woL_dbl r7 k k) (fun i j _ _ => Iff.rfl)
  have c1' : fX11_becomesDraft B (some x) v = some (some r', C) := by rw [hv]; exact c1
  rw [if_neg (fun z => bI0.mp z q4), if_pos q4', if_pos ⟨q3, q4'⟩, h.1.1.df, bs, bs, hy, I_shl1 (by omega), b1, bs, c1', bs]
  dsimp only
  rw [c6, bs]
  refine ⟨_, G', rfl, ?_, ?_, c3⟩
  · rw [I_toInt (by omega), Int.toNat_natCast]; rfl
  rw [I_toInt (by omega), t2, Int.toNat_natCast, Int.toNat_natCast]
  rw [ew] at c2
  exact c2
theorem W_unpoke (h : CF A x G s) (hk : StOK s) (v y z : Int32) : ∃ u G', fX11_unpoke A (some x) v y z = some u ∧ u.1 = oUnpk s v y z ∧ CF u.2 x G' (eUnpk s v y z) ∧ Kp x A u.2 := by
  unfold fX11_unpoke oUnpk eUnpk
  rw [rcv_ok h.c0, bs, h.1.1.sh, bs]
  rcases W_get h hk v with ⟨q, w, w1, w2⟩ | ⟨q, w1⟩
  rotate_left
  · rw [w1, bs, if_pos rfl, if_neg (fun z => q z.1), if_neg (fun z => q z.1.1)]
    exact ⟨_, G, rfl, rfl, h, Kp.rf⟩
  obtain ⟨r, r1, r2, r3, r4, r5, r6, r7, r8, r9, r10⟩ := G_row h.1 w2
  have hN := r7.1
  have e := C_hasLetter r8 hN (Bd_of y)
  rw [← I_of] at e
  have e' := C_hasLetter r8 hN (Bd_of z)
  rw [← I_of] at e'
  rw [w1, bs, if_neg some_ne, r1, bs, e, bs]
  by_cases q2 : 0 ≤ y.toInt ∧ y.toInt < (sW s v).1
  rotate_left
  · rw [if_pos (bI0.mpr q2), if_neg (fun z => q2 z.2.1), if_neg (fun z => q2 z.1.2.1)]
    exact ⟨_, G, rfl, rfl, h, Kp.rf⟩
  rw [if_neg (fun z => bI0.mp z q2), bs, e', bs]
  by_cases q3 : 0 ≤ z.toInt ∧ z.toInt < (sW s v).1
  rotate_left
  · rw [if_pos (bI0.mpr q3), if_neg (fun z => q3 z.2.2.1), if_neg (fun z => q3 z.1.2.2.1)]
    exact ⟨_, G, rfl, rfl, h, Kp.rf⟩
  rw [if_neg (fun z => bI0.mp z q3)]
  by_cases q5 : y.toInt = z.toInt
  · rw [if_pos (Int32.toInt_inj.mp q5), if_neg (fun z => z.2.2.2 q5), if_neg (fun z => z.1.2.2.2 q5)]
    exact ⟨_, G, rfl, rfl, h, Kp.rf⟩
  rw [if_neg (fun e => q5 (by rw [e]))]
  obtain ⟨t, ht, t2⟩ := wz q
  have hv : v = I (t : Int) := lit_eq t2
  have ew : sW s v = (sSh s).2 t := by unfold sW; rw [t2, Int.toNat_natCast]
  obtain ⟨k, k1, k2⟩ := wz q2
  have hy : y = I (k : Int) := lit_eq k2
  obtain ⟨o, o1, o2⟩ := wz q3
  have hz : z = I (o : Int) := lit_eq o2
  have q6 : uPk s v y z := ⟨q, q2, q3, q5⟩
  have pk := C_isPoke r8 r7 k1 o1
  have ek : y.toInt.toNat = k := by rw [k2, Int.toNat_natCast]
  have eo : z.toInt.toNat = o := by rw [o2, Int.toNat_natCast]
  rw [if_pos q6, bs, hy, hz, pk, bs, ← hy, ← hz]
  by_cases q4 : wPk (sW s v) k o
  rotate_left
  · have q4' : ¬ wPk (sW s v) y.toInt.toNat z.toInt.toNat := by rw [ek, eo]; exact q4
    rw [if_pos (bI0.mpr q4), if_neg q4', if_neg (fun z => q4' z.2)]
    exact ⟨_, G, rfl, rfl, h, Kp.rf⟩
  have q4' : wPk (sW s v) y.toInt.toNat z.toInt.toNat := by rw [ek, eo]; exact q4
  have p8 : (2 : Nat) ^ k ≤ 2 ^ 7 := Nat.pow_le_pow_right (by decide) (by omega)
  have p9 : (2 : Nat) ^ o ≤ 2 ^ 7 := Nat.pow_le_pow_right (by decide) (by omega)
  obtain ⟨B, b1, b2, b3⟩ := D_without h.1.1 r8 r7 (c := k) (d := o) (st := 2 ^ k ||| 2 ^ o) (by have := Nat.or_lt_two_pow (x := 2 ^ k) (y := 2 ^ o) (n := 8) (by omega) (by omega); omega) (fun i hi => by rw [Nat.testBit_or, Nat.testBit_two_pow, Nat.testBit_two_pow, Bool.or_eq_true, decide_eq_true_iff, decide_eq_true_iff]; omega)
  obtain ⟨r', C, G', c1, c2, c3, c4, c5, c6⟩ := W_dr h hk ht b2 b3 (lD_b (woL_b (fun i hi => by have := (r7.2.2 i hi).1; omega))) rfl (woL_dbl r7 k o) (fun i j _ _ => Iff.rfl)
  have c1' : fX11_becomesDraft B (some x) v = some (some r', C) := by rw [hv]; exact c1
  rw [if_neg (fun z => bI0.mp z q4), if_pos q4', if_pos ⟨q6, q4'⟩, h.1.1.df, bs, bs, hy, hz, I_shl1 (by omega), I_shl1 (by omega), I_or, b1, bs, c1', bs]
  dsimp only
  rw [c6, bs]
  refine ⟨_, G', rfl, ?_, ?_, c3⟩
  · rw [I_toInt (by omega), I_toInt (by omega), Int.toNat_natCast, Int.toNat_natCast]; rfl
  rw [I_toInt (by omega), I_toInt (by omega), t2, Int.toNat_natCast, Int.toNat_natCast, Int.toNat_natCast]
  rw [ew] at c2
  exact c2
theorem W_smooth (h : CF A x G s) (hk : StOK s) (v y : Int32) : ∃ u G', fX11_smooth A (some x) v y = some u ∧ u.1 = oSmo s v y ∧ CF u.2 x G' (eSmo s v y) ∧ Kp x A u.2 := by
  unfold fX11_smooth oSmo eSmo
  rw [rcv_ok h.c0, bs, h.1.1.sh, bs]
  rcases W_get h hk v with ⟨q, w, w1, w2⟩ | ⟨q, w1⟩
  rotate_left
  · rw [w1, bs, if_pos rfl, if_neg (fun z => q z.1), if_neg (fun z => q z.1)]
    exact ⟨_, G, rfl, rfl, h, Kp.rf⟩
  obtain ⟨r, r1, r2, r3, r4, r5, r6, r7, r8, r9, r10⟩ := G_row h.1 w2
  have hN := r7.1
  have e := C_hasLetter r8 hN (Bd_of y)
  rw [← I_of] at e
  rw [w1, bs, if_neg some_ne, r1, bs, e, bs]
  by_cases q2 : 0 ≤ y.toInt ∧ y.toInt < (sW s v).1
  rotate_left
  · rw [if_pos (bI0.mpr q2), if_neg (fun z => q2 z.2), if_neg (fun z => q2 z.2)]
    exact ⟨_, G, rfl, rfl, h, Kp.rf⟩
  obtain ⟨t, ht, t2⟩ := wz q
  have hv : v = I (t : Int) := lit_eq t2
  have ew : sW s v = (sSh s).2 t := by unfold sW; rw [t2, Int.toNat_natCast]
  obtain ⟨k, k1, k2⟩ := wz q2
  have hy : y = I (k : Int) := lit_eq k2
  have q3 : uLt s v y := ⟨q, q2⟩
  have hw := hk.1.2 t ht
  rw [← ew] at hw
  obtain ⟨B, b1, b2, b3⟩ := D_smooth h.1.1 r8 r7 k1
  have hql := (r7.2.1 k k1).2.1
  obtain ⟨r', C, G', c1, c2, c3, c4, c5, c6⟩ := W_dr h hk ht b2 b3 (lD_b (woL_b (fun i hi => by
    have : smS (wP (sW s v) k) (wQ (sW s v) k) i < 2 * (sW s v).1 := by unfold smS; split <;> omega
    have := (r7.2.2 _ this).1
    omega))) rfl (wSm_dbl hw k1) (fun i j _ _ => Iff.rfl)
  have c1' : fX11_becomesDraft B (some x) v = some (some r', C) := by rw [hv]; exact c1
  rw [if_neg (fun z => bI0.mp z q2), if_pos q3, if_pos q3, h.1.1.df, bs, bs, hy, b1, bs, c1', bs]
  dsimp only
  rw [c6, bs]
  refine ⟨_, G', rfl, ?_, ?_, c3⟩
  · rw [I_toInt (by omega), Int.toNat_natCast]; rfl
  · rw [I_toInt (by omega), t2, Int.toNat_natCast, Int.toNat_natCast]
    rw [ew] at c2
    exact c2
theorem W_poke (h : CF A x G s) (hk : StOK s) (v y z p : Int32) : ∃ u G', fX11_poke A (some x) v y z p = some u ∧ u.1 = oPk s v y z p ∧ CF u.2 x G' (ePk s v y z p) ∧ Kp x A u.2 := by
  have hbp := Bd_of p
  unfold fX11_poke oPk ePk
  rw [rcv_ok h.c0, bs, h.1.1.sh, bs]
  rcases W_get h hk v with ⟨q, w, w1, w2⟩ | ⟨q, w1⟩
  rotate_left
  · rw [w1, bs, if_pos rfl, if_neg (fun z => q z.1), if_neg (fun z => q z.1.1.1)]
    exact ⟨_, G, rfl, rfl, h, Kp.rf⟩
  obtain ⟨r, r1, r2, r3, r4, r5, r6, r7, r8, r9, r10⟩ := G_row h.1 w2
  have hN := r7.1
  have e := C_hasStep r8 hN (Bd_of y)
  rw [← I_of] at e
  have e' := C_hasStep r8 hN (Bd_of z)
  rw [← I_of] at e'
  rw [w1, bs, if_neg some_ne, r1, bs, e, bs]
  by_cases q2 : 0 ≤ y.toInt ∧ y.toInt < ((max 1 (2 * (sW s v).1) : Nat) : Int)
  rotate_left
  · rw [if_pos (bI0.mpr q2), if_neg (fun z => q2 z.2.1), if_neg (fun z => q2 z.1.1.2.1)]
    exact ⟨_, G, rfl, rfl, h, Kp.rf⟩
  rw [if_neg (fun z => bI0.mp z q2), bs, e', bs]
  by_cases q3 : 0 ≤ z.toInt ∧ z.toInt < ((max 1 (2 * (sW s v).1) : Nat) : Int)
  rotate_left
  · rw [if_pos (bI0.mpr q3), if_neg (fun z => q3 z.2.2.1), if_neg (fun z => q3 z.1.1.2.2.1)]
    exact ⟨_, G, rfl, rfl, h, Kp.rf⟩
  rw [if_neg (fun z => bI0.mp z q3)]
  by_cases q5 : y.toInt = z.toInt
  · rw [if_pos (Int32.toInt_inj.mp q5), if_neg (fun z => z.2.2.2 q5), if_neg (fun z => z.1.1.2.2.2 q5)]
    exact ⟨_, G, rfl, rfl, h, Kp.rf⟩
  rw [if_neg (fun e => q5 (by rw [e]))]
  obtain ⟨t, ht, t2⟩ := wz q
  have hv : v = I (t : Int) := lit_eq t2
  have ew : sW s v = (sSh s).2 t := by unfold sW; rw [t2, Int.toNat_natCast]
  obtain ⟨k, k1, k2⟩ := wz q2
  have hy : y = I (k : Int) := lit_eq k2
  obtain ⟨o, o1, o2⟩ := wz q3
  have hz : z = I (o : Int) := lit_eq o2
  have q6 : uPo s v y z := ⟨q, q2, q3, q5⟩
  rw [if_pos q6]
  by_cases q7 : 0 ≤ p.toInt
  rotate_left
  · rw [if_pos (show p < 0 by rw [I_of p]; exact lt_y (b := 0) (by omega)), if_neg (fun z => q7 z.1), if_neg (fun z => q7 z.1.2.1)]
    exact ⟨_, G, rfl, rfl, h, Kp.rf⟩
  rw [if_neg (show ¬ p < 0 by rw [I_of p]; exact lt_n (b := 0) (by omega))]
  by_cases q8 : p.toInt ≤ 1
  rotate_left
  · rw [if_neg (show ¬ p ≤ 1 by rw [I_of p]; exact le_n (b := 1) (by omega)), if_neg (fun z => q8 z.2), if_neg (fun z => q8 z.1.2.2)]
    exact ⟨_, G, rfl, rfl, h, Kp.rf⟩
  have q9 : uWy p := ⟨q7, q8⟩
  rw [if_pos (show p ≤ 1 by rw [I_of p]; exact le_y (b := 1) (by omega)), if_pos q9, bs, C_lc r8, bs, L_2, I_add]
  by_cases q10 : (sW s v).1 ≤ 6
  rotate_left
  · rw [if_neg (show ¬ I _ ≤ (8 : Int32) from le_n (b := 8) (by omega)), if_neg q10, if_neg (fun z => q10 z.2)]
    exact ⟨_, G, rfl, rfl, h, Kp.rf⟩
  have hw := hk.1.2 t ht
  rw [← ew] at hw
  have hko : k ≠ o := by omega
  have hk9 : k < 2 * (sW s v).1 := by omega
  have ho9 : o < 2 * (sW s v).1 := by omega
  obtain ⟨tw, htw⟩ : ∃ tw, tw = decide (p.toInt = 1) := ⟨_, rfl⟩
  have hp : p = I (if tw = true then 1 else 0) := by
    rw [htw]
    by_cases y : p.toInt = 1
    · rw [decide_eq_true y, if_pos rfl]; exact lit_eq y
    · rw [decide_eq_false y, if_neg (by decide)]; exact lit_eq (by omega)
  obtain ⟨B, b1, b2, b3⟩ := D_poke h.1.1 r8 r7 q10 hko tw hp hk9 ho9
  have hS := pkL_S (L := (sW s v).2.1) (k := k) (o := o) (N := (sW s v).1) (tw := tw) (n := 2 * (sW s v).1) (fun i hi => (r7.2.2 i hi).1)
  have hE := map_eq (φ := ph1 (sW s v).1) (l := pkL (sW s v).2.1 k o tw (2 * (sW s v).1)) _ hS (fun v u a b => ph1_inj hN a b)
  have hbb : ∀ j, j < ((pkL (sW s v).2.1 k o tw (2 * (sW s v).1)).map (ph1 (sW s v).1)).length → lD ((pkL (sW s v).2.1 k o tw (2 * (sW s v).1)).map (ph1 (sW s v).1)) j < 1000 := lD_b (fun u hu => by
    obtain ⟨p, p1, p2⟩ := List.mem_map.mp hu
    have := hS p p1
    rw [← p2]
    unfold ph1
    split <;> (try split) <;> omega)
  obtain ⟨r', C, G', c1, c2, c3, c4, c5, c6⟩ := W_dr h hk ht b2 b3 hbb (E := lD (wPo (sW s v) k o tw)) (n := (wPo (sW s v) k o tw).length) (by rw [List.length_map]; rfl) (wPo_dbl hw hko hk9 ho9) hE
  have c1' : fX11_becomesDraft B (some x) v = some (some r', C) := by rw [hv]; exact c1
  have q11 : (uPo s v y z ∧ uWy p) ∧ ((sSh s).2 v.toInt.toNat).1 ≤ 6 := ⟨⟨q6, q9⟩, q10⟩
  rw [if_pos (show I _ ≤ (8 : Int32) from le_y (b := 8) (by omega)), if_pos q10, if_pos q11, h.1.1.df, bs, bs, hy, hz, b1, bs, c1', bs, ← htw]
  dsimp only
  rw [c6, bs]
  refine ⟨_, G', rfl, ?_, ?_, c3⟩
  · rw [I_toInt (by omega), I_toInt (by omega), Int.toNat_natCast, Int.toNat_natCast]
  · rw [I_toInt (by omega), I_toInt (by omega), t2, Int.toNat_natCast, Int.toNat_natCast, Int.toNat_natCast]
    rw [ew] at c2
    exact c2
theorem W_slide (h : CF A x G s) (hk : StOK s) (v y z p : Int32) : ∃ u G', fX11_slide A (some x) v y z p = some u ∧ u.1 = oSl s v y z p ∧ CF u.2 x G' (eSl s v y z p) ∧ Kp x A u.2 := by
  unfold fX11_slide oSl eSl
  rw [rcv_ok h.c0, bs, h.1.1.sh, bs]
  rcases W_get h hk v with ⟨q, w, w1, w2⟩ | ⟨q, w1⟩
  rotate_left
  · rw [w1, bs, if_pos rfl, if_neg (fun z => q z.1), if_neg (fun z => q z.1.1)]
    exact ⟨_, G, rfl, rfl, h, Kp.rf⟩
  obtain ⟨r, r1, r2, r3, r4, r5, r6, r7, r8, r9, r10⟩ := G_row h.1 w2
  have hN := r7.1
  have e := C_hasThree r8 hN (Bd_of y) (Bd_of z) (Bd_of p)
  rw [← I_of, ← I_of, ← I_of] at e
  rw [w1, bs, if_neg some_ne, r1, bs, e, bs]
  by_cases q2 : (0 ≤ y.toInt ∧ y.toInt < (sW s v).1) ∧ (0 ≤ z.toInt ∧ z.toInt < (sW s v).1) ∧ (0 ≤ p.toInt ∧ p.toInt < (sW s v).1) ∧ y.toInt ≠ z.toInt ∧ y.toInt ≠ p.toInt ∧ z.toInt ≠ p.toInt
  rotate_left
  · rw [if_pos (bI0.mpr q2), if_neg (fun z => q2 z.2), if_neg (fun z => q2 z.1.2)]
    exact ⟨_, G, rfl, rfl, h, Kp.rf⟩
  obtain ⟨t, ht, t2⟩ := wz q
  have hv : v = I (t : Int) := lit_eq t2
  have ew : sW s v = (sSh s).2 t := by unfold sW; rw [t2, Int.toNat_natCast]
  obtain ⟨c, c1, c2⟩ := wz q2.1
  have hy : y = I (c : Int) := lit_eq c2
  obtain ⟨d, d1, d2⟩ := wz q2.2.1
  have hz : z = I (d : Int) := lit_eq d2
  obtain ⟨e', e1, e2⟩ := wz q2.2.2.1
  have hp : p = I (e' : Int) := lit_eq e2
  have q3 : uSl s v y z p := ⟨q, q2.1, q2.2.1, q2.2.2.1, q2.2.2.2⟩
  have ch := C_slideChoice r8 r7 c1 d1 e1
  have xs : xSl s v y z p = wSl (sW s v) c d e' := by unfold xSl; rw [c2, d2, e2, Int.toNat_natCast, Int.toNat_natCast, Int.toNat_natCast]
  have ch : fX7_slideChoice A (some r) (I c) (I d) (I e') = some (I (wSl (sW s v) c d e')) := ch
  rw [if_neg (fun z => bI0.mp z q2), if_pos q3, bs, hy, hz, hp, ch, bs, ← hy, ← hz, ← hp, xs]
  have hb := frst_b (f := fun g => decide (slP (sW s v) c d e' g)) 8
  have hb : -1 ≤ wSl (sW s v) c d e' ∧ wSl (sW s v) c d e' < 8 := hb
  by_cases q4 : wSl (sW s v) c d e' = -1
  · rw [if_pos (by rw [q4]; rfl), if_pos q4, if_neg (fun z => z.2 q4)]
    exact ⟨_, G, rfl, rfl, h, Kp.rf⟩
  obtain ⟨g, g1⟩ : ∃ g : Nat, wSl (sW s v) c d e' = g := ⟨(wSl (sW s v) c d e').toNat, by omega⟩
  rw [g1] at q4 hb ⊢
  have hw := hk.1.2 t ht
  rw [← ew] at hw
  obtain ⟨B, b1, b2, b3⟩ := D_slid h.1.1 r8 r7 c1 d1 e1 (g := g) (by omega)
  have hF : DrF B x (2 * (sW s v).1) (slL (sW s v) c d e' g) := b3
  have hLs := slL_ok hw c1 d1 e1 g
  have htd : ∀ j, j < 2 * (sW s v).1 → tD (sW s v).1 (slL (sW s v) c d e' g) 0 j = slL (sW s v) c d e' g j := fun j hj => by
    unfold tD
    rw [if_neg (by decide), Nat.zero_div, Nat.zero_add, Nat.mod_eq_of_lt hj]
  have hlt : ∀ j, j < (apx [] (slL (sW s v) c d e' g) (2 * (sW s v).1)).length → j < 2 * (sW s v).1 ∧ lD (apx [] (slL (sW s v) c d e' g) (2 * (sW s v).1)) j = slL (sW s v) c d e' g j := fun j hj => by rw [apx0_len] at hj; exact ⟨hj, lD_apx0 hj⟩
  obtain ⟨r', C, G', k1, k2, k3, k4, k5, k6⟩ := W_dr h hk ht b2 hF.lst (fun j hj => by rw [(hlt j hj).2]; have := (hLs.1.2.2 j (hlt j hj).1).1; have : slL (sW s v) c d e' g j < (sW s v).1 := this; omega) (E := tD (sW s v).1 (slL (sW s v) c d e' g) 0) (apx0_len _ _) (tD_dbl hLs.1 (by show 0 < 4 * (sW s v).1; omega)) (fun i j hi hj => by rw [(hlt i hi).2, (hlt j hj).2, htd i (hlt i hi).1, htd j (hlt j hj).1])
  have k1' : fX11_becomesDraft B (some x) v = some (some r', C) := by rw [hv]; exact k1
  rw [if_neg (show ¬ I (g : Int) = (-1 : Int32) from eq_n (b := -1) (by omega)), if_neg q4, if_pos ⟨q3, q4⟩, h.1.1.df, bs, bs, hy, hz, hp, b1, bs, k1', bs]
  refine ⟨_, G', rfl, rfl, ?_, k3⟩
  rw [I_toInt (by omega), I_toInt (by omega), I_toInt (by omega), t2, Int.toNat_natCast, Int.toNat_natCast, Int.toNat_natCast, Int.toNat_natCast, Int.toNat_natCast]
  rw [ew] at k2
  exact k2
end
