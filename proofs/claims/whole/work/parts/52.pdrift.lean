/-! deeds of the reference: draws, drift -/
def J (z : Int) : Int64 := Int64.ofInt z
abbrev Bj (z : Int) : Prop := -9223372036854775808 ≤ z ∧ z < 9223372036854775808
theorem J_toInt {z : Int} (h : Bj z) : (J z).toInt = z := Int64.toInt_ofInt_of_le h.1 h.2
theorem J_of {a : Int} (h : Bd a) : (I a).toInt64 = J a := by
  rw [← Int64.toInt_inj, I_64 h, J_toInt ⟨by omega, by omega⟩]
theorem J_add (a b : Int) : J a + J b = J (a + b) := (Int64.ofInt_add a b).symm
theorem J_sub (a b : Int) : J a - J b = J (a - b) := (Int64.ofInt_sub a b).symm
theorem J_mul (a b : Int) : J a * J b = J (a * b) := (Int64.ofInt_mul a b).symm
theorem J_32 (a : Int) : (J a).toInt32 = I a := Int64.toInt32_ofInt
theorem J_rem {a b : Int} (ha : Bj a) (hb : Bj b) (h0 : 0 ≤ a) (h1 : 0 < b) : rmJ (J a) (J b) = some (J (a % b)) := by
  unfold rmJ
  have hne : ¬ J b = 0 := fun e => by
    have := congrArg Int64.toInt e
    rw [J_toInt hb] at this
    have : b = 0 := this
    omega
  rw [if_neg hne]
  have hq : Bj (a / b) := by
    have h2 := Int.ediv_nonneg h0 (Int.le_of_lt h1)
    have h3 := Int.ediv_le_self b h0
    exact ⟨by omega, by have := ha.2; omega⟩
  have e : J a / J b = J (a / b) := by
    rw [← Int64.toInt_inj, Int64.toInt_div_of_ne_right _ _ (fun e => by
      have := congrArg Int64.toInt e
      rw [J_toInt hb] at this
      have : b = -1 := this
      omega), J_toInt ha, J_toInt hb, J_toInt hq, Int.tdiv_eq_ediv_of_nonneg h0]
  rw [e, J_mul, J_sub]
  congr 2
  rw [Int.emod_def, Int.mul_comm]
/-- a number that nobody takes apart -/
noncomputable def hid (n : Nat) : Nat := Classical.choose (⟨n, rfl⟩ : ∃ v, v = n)
theorem hid_eq (n : Nat) : hid n = n := Classical.choose_spec (⟨n, rfl⟩ : ∃ v, v = n)
noncomputable def lcg (s : Nat) : Nat := hid ((s * 1103515245 + 12345) % 2147483648)
theorem lcg_eq (s : Nat) : lcg s = (s * 1103515245 + 12345) % 2147483648 := hid_eq _
theorem lcg_lt (s : Nat) : lcg s < 2147483648 := by rw [lcg_eq]; omega
noncomputable def drw (s n : Nat) : Nat := hid (lcg s / 65536 % n)
theorem drw_eq (s n : Nat) : drw s n = lcg s / 65536 % n := hid_eq _
theorem drw_lt (s : Nat) {n : Nat} (h : 0 < n) : drw s n < n := by rw [drw_eq]; exact Nat.mod_lt _ h
def occI (E : Nat → Int) (v : Int) : Nat → Nat
  | 0 => 0
  | n + 1 => occI E v n + (if E n = v then 1 else 0)
theorem occI_s (E : Nat → Int) (v : Int) (n : Nat) : occI E v (n + 1) = occI E v n + (if E n = v then 1 else 0) := rfl
theorem occI_le (E : Nat → Int) (v : Int) : ∀ n, occI E v n ≤ n
  | 0 => Nat.le_refl _
  | n + 1 => by
    have := occI_le E v n
    rw [occI_s]
    split <;> omega
theorem occI_mono (E : Nat → Int) (v : Int) {a : Nat} : ∀ d, occI E v a ≤ occI E v (a + d)
  | 0 => Nat.le_refl _
  | d + 1 => Nat.le_trans (occI_mono E v d) (Nat.le_add_right _ _)
theorem occI_hit {E : Nat → Int} {v : Int} : ∀ {n c : Nat}, c < occI E v n → ∃ f, f < n ∧ E f = v ∧ occI E v f = c
  | 0, c, h => absurd h (Nat.not_lt_zero c)
  | n + 1, c, h => by
    rw [occI_s] at h
    by_cases q : c < occI E v n
    · obtain ⟨f, f1, f2, f3⟩ := occI_hit q
      exact ⟨f, by omega, f2, f3⟩
    · by_cases z : E n = v
      · rw [if_pos z] at h
        exact ⟨n, by omega, z, by omega⟩
      · rw [if_neg z] at h
        omega
def setE (E : Nat → Int) (f : Nat) (v : Int) (i : Nat) : Int := if i = f then v else E i
theorem occI_set (E : Nat → Int) (f : Nat) (v u : Int) : ∀ n, occI (setE E f v) u n + (if f < n ∧ E f = u then 1 else 0) = occI E u n + (if f < n ∧ v = u then 1 else 0)
  | 0 => by rw [if_neg (by omega), if_neg (by omega)]; rfl
  | n + 1 => by
    have ih := occI_set E f v u n
    rw [occI_s, occI_s]
    by_cases q : n = f
    · subst q
      rw [show setE E n v n = v from if_pos rfl]
      rw [if_neg (by omega : ¬ (n < n ∧ E n = u)), if_neg (by omega : ¬ (n < n ∧ v = u))] at ih
      have e1 : (n < n + 1 ∧ E n = u) = (E n = u) := propext ⟨fun h => h.2, fun h => ⟨by omega, h⟩⟩
      have e2 : (n < n + 1 ∧ v = u) = (v = u) := propext ⟨fun h => h.2, fun h => ⟨by omega, h⟩⟩
      simp only [e1, e2]
      omega
    · rw [show setE E f v n = E n from if_neg q]
      have e1 : (f < n + 1 ∧ E f = u) = (f < n ∧ E f = u) := propext ⟨fun h => ⟨by omega, h.2⟩, fun h => ⟨by omega, h.2⟩⟩
      have e2 : (f < n + 1 ∧ v = u) = (f < n ∧ v = u) := propext ⟨fun h => ⟨by omega, h.2⟩, fun h => ⟨by omega, h.2⟩⟩
      simp only [e1, e2]
      omega
/-- the left-th empty place -/
def psE (E : Nat → Int) (left n : Nat) : Nat := (frst (fun i => decide (E i = -1 ∧ occI E (-1) i = left)) n).toNat
theorem psE_at {E : Nat → Int} {left n : Nat} (h : left < occI E (-1) n) : psE E left n < n ∧ E (psE E left n) = -1 ∧ occI E (-1) (psE E left n) = left := by
  obtain ⟨f, f1, f2, f3⟩ := occI_hit h
  have h0 : anyB (fun i => decide (E i = -1 ∧ occI E (-1) i = left)) f = false := by
    cases z : anyB (fun i => decide (E i = -1 ∧ occI E (-1) i = left)) f with
    | false => rfl
    | true =>
      obtain ⟨g, g1, g2⟩ := anyB_iff.mp z
      have g2 := of_decide_eq_true g2
      have g3 : occI E (-1) (g + 1) = left + 1 := by rw [occI_s, if_pos g2.1, g2.2]
      have g4 := occI_mono E (-1) (a := g + 1) (f - (g + 1))
      rw [show g + 1 + (f - (g + 1)) = f by omega] at g4
      omega
  have := frst_y h0 (decide_eq_true ⟨f2, f3⟩) (n - (f + 1))
  rw [show f + 1 + (n - (f + 1)) = n by omega] at this
  have e : psE E left n = f := by unfold psE; rw [this]; exact Int.toNat_natCast f
  rw [e]
  exact ⟨f1, f2, f3⟩
noncomputable def dSt (n sd : Nat) : Nat → Nat × (Nat → Int)
  | 0 => (sd, fun _ => -1)
  | k + 1 => (lcg (dSt n sd k).1, setE (dSt n sd k).2 (psE (dSt n sd k).2 (drw (dSt n sd k).1 (n - k)) n) ((k / 2 : Nat) : Int))
theorem occI_cst (v : Int) : ∀ n, occI (fun _ => v) v n = n
  | 0 => rfl
  | n + 1 => by rw [occI_s, if_pos rfl, occI_cst v n]
theorem occI_cst0 {v u : Int} (h : v ≠ u) : ∀ n, occI (fun _ => v) u n = 0
  | 0 => rfl
  | n + 1 => by rw [occI_s, if_neg h, occI_cst0 h n]
theorem dSt_inv (n sd : Nat) : ∀ k, k ≤ n → occI (dSt n sd k).2 (-1) n = n - k ∧ (∀ v : Nat, occI (dSt n sd k).2 (v : Int) n = (if 2 * v < k then 1 else 0) + (if 2 * v + 1 < k then 1 else 0)) ∧ ∀ i, -1 ≤ (dSt n sd k).2 i ∧ (dSt n sd k).2 i < n
  | 0, _ => ⟨occI_cst (-1) n, fun v => by rw [if_neg (by omega), if_neg (by omega)]; exact occI_cst0 (by omega) n, fun i => ⟨by show (-1 : Int) ≤ -1; omega, by show (-1 : Int) < n; omega⟩⟩
  | k + 1, h => by
    obtain ⟨h1, h2, h3⟩ := dSt_inv n sd k (by omega)
    have hl := drw_lt (dSt n sd k).1 (n := n - k) (by omega)
    obtain ⟨p1, p2, p3⟩ := psE_at (E := (dSt n sd k).2) (left := drw (dSt n sd k).1 (n - k)) (n := n) (by omega)
    refine ⟨?_, fun v => ?_, fun i => ?_⟩
    · have := occI_set (dSt n sd k).2 (psE (dSt n sd k).2 (drw (dSt n sd k).1 (n - k)) n) ((k / 2 : Nat) : Int) (-1) n
      rw [if_pos ⟨p1, p2⟩, if_neg (fun e => by have := e.2; omega)] at this
      show occI (setE _ _ _) (-1) n = _
      omega
    · have := occI_set (dSt n sd k).2 (psE (dSt n sd k).2 (drw (dSt n sd k).1 (n - k)) n) ((k / 2 : Nat) : Int) (v : Int) n
      rw [if_neg (fun e => by have := e.2; omega), h2 v] at this
      show occI (setE _ _ _) (v : Int) n = _
      rw [Nat.add_zero] at this
      rw [this]
      by_cases q : k / 2 = v
      · have hp : psE (dSt n sd k).2 (drw (dSt n sd k).1 (n - k)) n < n ∧ ((k / 2 : Nat) : Int) = (v : Int) := ⟨p1, by omega⟩
        rw [if_pos hp]
        clear this p1 p2 p3 h1 h2 h3 hp
        (repeat' split) <;> omega
      · have hp : ¬ (psE (dSt n sd k).2 (drw (dSt n sd k).1 (n - k)) n < n ∧ ((k / 2 : Nat) : Int) = (v : Int)) := fun e => q (by have := e.2; omega)
        rw [if_neg hp]
        have e1 : (2 * v < k + 1) = (2 * v < k) := propext (by omega)
        have e2 : (2 * v + 1 < k + 1) = (2 * v + 1 < k) := propext (by omega)
        simp only [e1, e2, Nat.add_zero]
    · show -1 ≤ setE _ _ _ i ∧ setE _ _ _ i < n
      unfold setE
      split
      · omega
      · exact h3 i
theorem dSt_lt (n sd : Nat) (h : sd < 2147483648) : ∀ k, (dSt n sd k).1 < 2147483648
  | 0 => h
  | k + 1 => lcg_lt _
theorem occI_n {E : Nat → Int} {v : Int} : ∀ {n : Nat}, occI E v n = 0 → ∀ i, i < n → E i ≠ v
  | 0, _, i, hi => by omega
  | n + 1, h, i, hi => by
    rw [occI_s] at h
    by_cases e : i = n
    · rw [e]
      intro q
      rw [if_pos q] at h
      omega
    · exact occI_n (n := n) (by omega) i (by omega)
theorem occI_nat {E : Nat → Int} {v : Nat} : ∀ {n : Nat}, (∀ i, i < n → 0 ≤ E i) → occ (fun i => (E i).toNat) v n = occI E (v : Int) n
  | 0, _ => rfl
  | n + 1, h => by
    show occ (fun i => (E i).toNat) v n + (if (E n).toNat = v then 1 else 0) = _
    have h1 := h n (by omega)
    rw [occI_nat (fun i hi => h i (by omega)), occI_s]
    by_cases q : E n = (v : Int)
    · rw [if_pos q, if_pos (by omega)]
    · rw [if_neg q, if_neg (by omega)]
noncomputable def drN (sd : Nat) : Nat := hid (drw sd 7 + 2)
theorem drN_eq (sd : Nat) : drN sd = drw sd 7 + 2 := hid_eq _
noncomputable def drS (sd : Nat) : Nat × (Nat → Int) := dSt (2 * drN sd) (lcg sd) (2 * drN sd)
noncomputable def drD (sd : Nat) (i : Nat) : Nat := ((drS sd).2 i).toNat
theorem drN_le (sd : Nat) : 2 ≤ drN sd ∧ drN sd ≤ 8 := by
  have := drw_lt sd (n := 7) (by omega)
  rw [drN_eq]
  omega
theorem dSt_fin {n : Nat} (sd : Nat) (hn : n ≤ 16) : ∀ i, i < n → 0 ≤ (dSt n sd n).2 i ∧ (dSt n sd n).2 i < 16 := fun i hi => by
  obtain ⟨h1, -, h3⟩ := dSt_inv n sd n (Nat.le_refl _)
  rw [Nat.sub_self] at h1
  have h4 := occI_n h1 i hi
  have h5 := h3 i
  generalize (dSt n sd n).2 i = z at h4 h5 ⊢
  omega
theorem dSt_dbl {n k : Nat} (sd : Nat) (he : n = 2 * k) (hn : n ≤ 16) : Dbl (fun i => ((dSt n sd n).2 i).toNat) n := fun i hi => by
  obtain ⟨-, h2, -⟩ := dSt_inv n sd n (Nat.le_refl _)
  have h4 := fun v => occI_nat (v := v) (E := (dSt n sd n).2) (n := n) (fun j hj => (dSt_fin sd hn j hj).1)
  have h5 := occ_pos (D := fun i => ((dSt n sd n).2 i).toNat) hi
  show occ (fun i => ((dSt n sd n).2 i).toNat) (((dSt n sd n).2 i).toNat) n = 2
  generalize (dSt n sd n).2 = E at h2 h4 h5 ⊢
  have h5 : 0 < occ (fun i => (E i).toNat) (E i).toNat n := h5
  have h6 := h4 ((E i).toNat)
  have h7 := h2 ((E i).toNat)
  generalize (E i).toNat = v at h5 h6 h7 ⊢
  rw [h6, h7] at h5
  rw [h6, h7]
  clear h2 h4 h6 h7
  revert h5
  (repeat' split) <;> omega
theorem drS_0 (sd : Nat) : ∀ i, i < 2 * drN sd → 0 ≤ (drS sd).2 i ∧ (drS sd).2 i < 16 := dSt_fin (n := 2 * drN sd) (lcg sd) (by have := drN_le sd; omega)
theorem drD_dbl (sd : Nat) : Dbl (drD sd) (2 * drN sd) := dSt_dbl (n := 2 * drN sd) (k := drN sd) (lcg sd) rfl (by have := drN_le sd; omega)
noncomputable def stDr (s : St) : St := addW (dSeed (stMind s) (drS (sSd s)).1) (wMade (drD (sSd s)) (2 * drN (sSd s)))
noncomputable def drf : Nat → St → St
  | 0, s => s
  | k + 1, s => if 6 ≤ (sSh s).1 then s else drf k (stDr s)
noncomputable def eDrift (s : St) (x : Int32) : St := if 1 ≤ x.toInt ∧ x.toInt ≤ 6 then drf x.toInt.toNat s else s
noncomputable def oDrift (s : St) (x : Int32) : Int32 := if 1 ≤ x.toInt ∧ x.toInt ≤ 6 then I (sSh (drf x.toInt.toNat s)).1 else -1000000002
theorem stDr_ok {s : St} (hk : StOK s) (h6 : ¬ 6 ≤ (sSh s).1) : StOK (stDr s) := by
  have h1 := drN_le (sSd s)
  exact addW_ok (dSeed_ok (stMind_ok hk) (dSt_lt _ _ (lcg_lt _) _)) (wMade_ok (by omega) (drD_dbl _)) (by show (sSh s).1 < 6; omega)
theorem drf_ok : ∀ (k : Nat) {s : St}, StOK s → StOK (drf k s)
  | 0, s, h => h
  | k + 1, s, h => by
    show StOK (if 6 ≤ (sSh s).1 then s else drf k (stDr s))
    split
    · exact h
    · rename_i q
      exact drf_ok k (stDr_ok h q)
theorem eDrift_ok {s : St} (hk : StOK s) (x : Int32) : StOK (eDrift s x) := by
  unfold eDrift
  split
  · exact drf_ok _ hk
  · exact hk
section DD
variable {A : AH} {m t n : Nat} {s : St} {l : List Nat} {T : Nat → Nat}
theorem J_lcg {sd : Nat} (hs : sd < 2147483648) : (I (sd : Int)).toInt64 * 1103515245 + 12345 = J ((sd * 1103515245 + 12345 : Nat) : Int) := by
  rw [J_of (by omega), show (1103515245 : Int64) = J 1103515245 from rfl, show (12345 : Int64) = J 12345 from rfl, J_mul, J_add]
  have : (sd : Int) * 1103515245 + 12345 = ((sd * 1103515245 + 12345 : Nat) : Int) := by omega
  rw [this]
theorem M_draws (hM : MI A m) {sd : Nat} (h0 : Hi A 388 m = I sd) (hs : sd < 2147483648) {a : Nat} (ha : 0 < a) (ha2 : a < 1000) : fX12_draws A (some m) (I a) = some (I ((drw sd a : Nat) : Int), si A 388 m (I ((lcg sd : Nat) : Int))) := by
  have h1 := lcg_lt sd
  have e : rmJ ((I (sd : Int)).toInt64 * 1103515245 + 12345) 2147483648 = some (J ((lcg sd : Nat) : Int)) := by
    rw [J_lcg hs, show (2147483648 : Int64) = J 2147483648 from rfl, J_rem (by omega) (by omega) (by omega) (by omega)]
    have : ((sd * 1103515245 + 12345 : Nat) : Int) % 2147483648 = ((lcg sd : Nat) : Int) := by rw [lcg_eq]; omega
    rw [this]
  unfold fX12_draws
  rw [hM.rc, bs, gI_ok hM.k, bs, h0, e, bs, pI_ok hM.k, bs, J_32, gI_ok (hM.si).k, bs, hi_si, L_65536, I_div (by omega) (by omega) (by omega) (by omega), bs]
  have e2 : ((lcg sd : Nat) : Int) / 65536 = ((lcg sd / 65536 : Nat) : Int) := by omega
  rw [e2, I_rem (by omega) (by omega) (by omega) (by omega), bs, drw_eq, Int.natCast_emod]
/-- a step that writes the row 'made', its length and the seed alone -/
def Md (m : Nat) (A A' : AH) : Prop := Hk A' = Hk A ∧ Hj A' = Hj A ∧ Hr A' = Hr A ∧ Hn A' = Hn A ∧ Hq A' = Hq A ∧ Hs A' = Hs A ∧ (∀ a, a ≠ m + 7 → He A' a = He A a) ∧ ∀ f a, ¬ (a = m ∧ (f = 388 ∨ f = 396)) → Hi A' f a = Hi A f a
theorem Md.rf {m : Nat} {A : AH} : Md m A A := ⟨rfl, rfl, rfl, rfl, rfl, rfl, fun _ _ => rfl, fun _ _ _ => rfl⟩
theorem Md.tr {m : Nat} {A B C : AH} (h : Md m A B) (g : Md m B C) : Md m A C := by
  obtain ⟨h1, h2, h3, h4, h5, h6, h7, h8⟩ := h
  obtain ⟨g1, g2, g3, g4, g5, g6, g7, g8⟩ := g
  exact ⟨g1.trans h1, g2.trans h2, g3.trans h3, g4.trans h4, g5.trans h5, g6.trans h6, fun a ha => (g7 a ha).trans (h7 a ha), fun f a ha => (g8 f a ha).trans (h8 f a ha)⟩
theorem Md.se {m i : Nat} {A : AH} {v : Int32} : Md m A (se A (m + 7) i v) := ⟨rfl, rfl, rfl, rfl, rfl, rfl, fun a ha => he_se_ne ha, fun _ _ _ => rfl⟩
theorem Md.si {m f : Nat} {A : AH} {v : Int32} (h : f = 388 ∨ f = 396) : Md m A (si A f m v) := ⟨rfl, rfl, rfl, rfl, rfl, rfl, fun _ _ => rfl, fun g a hg => up2_ne (fun q => hg ⟨q.2, by rw [q.1]; exact h⟩)⟩
theorem MI.md' {A' : AH} (h : MI A m) (g : Md m A A') : MI A' m := by
  unfold MI
  rw [g.1, g.2.2.1, g.2.2.2.1]
  exact h
theorem Md.mm {A' : AH} (h : Md m A A') : Mm m A A' := ⟨h.1, h.2.1, h.2.2.1, h.2.2.2.1, h.2.2.2.2.1, h.2.2.2.2.2.1, fun a ha => h.2.2.2.2.2.2.1 a (by omega), fun f a ha => h.2.2.2.2.2.2.2 f a (fun q => ha q.1)⟩
theorem RF.md' {A' : AH} (h : RF A m s) (g : Md m A A') {v : Nat} (hv : Hi A' 388 m = I v) : RF A' m (dSeed s v) := by
  obtain ⟨h1, h2, ⟨h3, h4⟩, h5, h6, ⟨h7, h8⟩, h9, h10, h11⟩ := h
  have g7 := g.2.2.2.2.2.2.1
  have g8 := g.2.2.2.2.2.2.2
  refine ⟨h1.md' g, h2.he (g7 _ (by omega)), ⟨?_, fun j hj => (h4 j hj).he (g7 _ (by omega))⟩, fun i hi => ?_, hv, ⟨?_, fun i hi => ?_⟩, ?_, ?_, fun i hi => ?_⟩
  · rw [g8 _ _ (by omega)]; exact h3
  · rw [g7 _ (by omega), g7 _ (by omega)]
    exact ⟨(h5 i hi).1, fun q => ⟨((h5 i hi).2 q).1.he (g7 _ (by omega)), ((h5 i hi).2 q).2⟩⟩
  · rw [g8 _ _ (by omega)]; exact h7
  · rw [g7 _ (by omega)]; exact h8 i hi
  · rw [g8 _ _ (by omega)]; exact h9
  · rw [g8 _ _ (by omega)]; exact h10
  · rw [g7 _ (by omega), g7 _ (by omega)]; exact h11 i hi
theorem M_drawsRow (hM : MI A m) {sd : Nat} (h0 : Hi A 388 m = I sd) (hs : sd < 2147483648) : ∃ A', fX12_drawsRow A (some m) = some A' ∧ Md m A A' ∧ Hi A' 388 m = I ((drS sd).1 : Nat) ∧ Hi A' 396 m = I ((2 * drN sd : Nat) : Int) ∧ MdS A' m (2 * drN sd) (drD sd) := by
  have hN := drN_le sd
  have h1 := lcg_lt sd
  have d7 := M_draws hM h0 hs (a := 7) (by omega) (by omega)
  have d7 : fX12_draws A (some m) 7 = some (I ((drw sd 7 : Nat) : Int), si A 388 m (I ((lcg sd : Nat) : Int))) := d7
  have en : (2 : Int32) * (I ((drw sd 7 : Nat) : Int) + 2) = I ((2 * drN sd : Nat) : Int) := by
    rw [L_2, I_add, I_mul, drN_eq]; congr 1
  unfold fX12_drawsRow
  rw [hM.rc, bs, d7, bs]
  dsimp only
  rw [en]
  have g0 : Md m A (si A 388 m (I ((lcg sd : Nat) : Int))) := Md.si (Or.inl rfl)
  have q0 : Hi (si A 388 m (I ((lcg sd : Nat) : Int))) 388 m = I ((lcg sd : Nat) : Int) := hi_si
  generalize si A 388 m (I ((lcg sd : Nat) : Int)) = A1 at g0 q0 ⊢
  refine for_eb (2 * drN sd) (fun j u => u.1 = I j ∧ Md m A u.2 ∧ Hi u.2 388 m = I ((lcg sd : Nat) : Int) ∧ ∀ k, k < j → He u.2 (m + 7) k = I (-1)) (fun r => Md m A r ∧ Hi r 388 m = I ((lcg sd : Nat) : Int) ∧ ∀ k, k < 2 * drN sd → He r (m + 7) k = I (-1)) ⟨rfl, g0, q0, fun k hk => by omega⟩ ?_ ?_ ?_
  · rintro j ⟨u1, u2⟩ hj ⟨x1, x2, x3, x4⟩
    dsimp only at x1 x2 x3 x4 ⊢
    subst x1
    have hM' := hM.md' x2
    rw [if_neg (le_n (by omega)), hM'.md, bs, hM'.md_s (by omega) (by omega), bs, Int.toNat_natCast]
    refine ⟨_, rfl, by dsimp only; rw [L_1, I_add, ← cst], x2.tr Md.se, x3, fun k hk => ?_⟩
    dsimp only
    rw [he_se]
    split
    · rfl
    · exact x4 k (by omega)
  · rintro ⟨u1, u2⟩ ⟨x1, x2, x3, x4⟩
    dsimp only at x1 x2 x3 x4 ⊢
    subst x1
    exact ⟨u2, by rw [if_pos (le_y (by omega))], x2, x3, x4⟩
  · rintro B ⟨gB, qB, eB⟩
    refine for_eb2 (2 * drN sd) (fun j u => u.1 = I j ∧ Md m A u.2 ∧ Hi u.2 388 m = I (((dSt (2 * drN sd) (lcg sd) j).1 : Nat) : Int) ∧ ∀ k, k < 2 * drN sd → He u.2 (m + 7) k = I ((dSt (2 * drN sd) (lcg sd) j).2 k)) (fun r => Md m A r ∧ Hi r 388 m = I (((drS sd).1 : Nat) : Int) ∧ ∀ k, k < 2 * drN sd → He r (m + 7) k = I ((drS sd).2 k)) ⟨rfl, gB, qB, eB⟩ ?_ ?_ ?_
    · rintro j ⟨u1, u2⟩ hj ⟨x1, x2, x3, x4⟩
      dsimp only at x1 x2 x3 x4 ⊢
      subst x1
      have hM' := hM.md' x2
      have hsd := dSt_lt (2 * drN sd) (lcg sd) h1 j
      obtain ⟨i1, i2, i3⟩ := dSt_inv (2 * drN sd) (lcg sd) j (by omega)
      have dj := M_draws hM' x3 hsd (a := 2 * drN sd - j) (by omega) (by omega)
      have esub : I ((2 * drN sd : Nat) : Int) - I (j : Int) = I ((2 * drN sd - j : Nat) : Int) := by rw [I_sub]; congr 1; omega
      have hl := drw_lt (dSt (2 * drN sd) (lcg sd) j).1 (n := 2 * drN sd - j) (by omega)
      obtain ⟨left, hle⟩ : ∃ left, left = drw (dSt (2 * drN sd) (lcg sd) j).1 (2 * drN sd - j) := ⟨_, rfl⟩
      obtain ⟨E, hE⟩ : ∃ E, E = (dSt (2 * drN sd) (lcg sd) j).2 := ⟨_, rfl⟩
      have hnext : dSt (2 * drN sd) (lcg sd) (j + 1) = (lcg (dSt (2 * drN sd) (lcg sd) j).1, setE E (psE E left (2 * drN sd)) ((j / 2 : Nat) : Int)) := by rw [hle, hE]; rfl
      obtain ⟨p1, p2, p3⟩ := psE_at (E := E) (left := left) (n := 2 * drN sd) (by rw [hE, hle]; omega)
      rw [← hE] at x4 i3
      rw [← hle] at dj hl
      rw [if_neg (le_n (by omega)), esub, dj, bs, hnext]
      dsimp only
      have gC : Md m A (si u2 388 m (I ((lcg (dSt (2 * drN sd) (lcg sd) j).1 : Nat) : Int))) := x2.tr (Md.si (Or.inl rfl))
      have qC : Hi (si u2 388 m (I ((lcg (dSt (2 * drN sd) (lcg sd) j).1 : Nat) : Int))) 388 m = I ((lcg (dSt (2 * drN sd) (lcg sd) j).1 : Nat) : Int) := hi_si
      have xC : ∀ k, k < 2 * drN sd → He (si u2 388 m (I ((lcg (dSt (2 * drN sd) (lcg sd) j).1 : Nat) : Int))) (m + 7) k = I (E k) := x4
      generalize si u2 388 m (I ((lcg (dSt (2 * drN sd) (lcg sd) j).1 : Nat) : Int)) = C at gC qC xC ⊢
      have hC := hM.md' gC
      refine for_bx (fun i => (I ((left : Int) - occI E (-1) i), I (i : Int))) (psE E left (2 * drN sd)) (I (psE E left (2 * drN sd) : Int)) ?_ ?_ ?_ ?_
      · show _ = (I ((left : Int) - (0 : Nat)), I ((0 : Nat) : Int))
        rw [Int.natCast_zero, Int.sub_zero]; rfl
      · intro i hi
        have o1 := occI_le E (-1) i
        have i4 := i3 i
        dsimp only
        have rd : aI C 14 (some (m + 7)) (I (i : Int)) = some (I (E i)) := by rw [hC.md_l (by omega) (by omega), Int.toNat_natCast, xC i (by omega)]
        rw [hC.md, bs, rd, bs, jp_eq, bs, rd, bs, jp1_eq, show ((-1) : Int32) = I (-1) from rfl, L_1, I_add, ← cst, occI_s]
        have o2 := occI_mono E (-1) (a := i + 1) (psE E left (2 * drN sd) - (i + 1))
        rw [show i + 1 + (psE E left (2 * drN sd) - (i + 1)) = psE E left (2 * drN sd) by omega, occI_s] at o2
        by_cases z : E i = -1
        · rw [if_pos z] at o2
          have c1 : I (E i) = I (-1) := by rw [z]
          rw [if_pos c1, if_neg (show ¬ I _ ≤ (0 : Int32) from le_n (b := 0) (by omega)), if_pos c1, if_pos z, I_sub, show (left : Int) - (occI E (-1) i : Int) - 1 = (left : Int) - ((occI E (-1) i + 1 : Nat) : Int) by omega]
        · have c1 : ¬ I (E i) = I (-1) := eq_n (by omega)
          rw [if_neg c1, if_neg c1, if_neg z, show I ((left : Int) - (occI E (-1) i : Int)) - 0 = I ((left : Int) - (occI E (-1) i : Int)) by rw [L_0, I_sub, Int.sub_zero]]
          rfl
      · have i4 := i3 (psE E left (2 * drN sd))
        dsimp only
        have rd : aI C 14 (some (m + 7)) (I (psE E left (2 * drN sd) : Int)) = some (I (E (psE E left (2 * drN sd)))) := by rw [hC.md_l (by omega) (by omega), Int.toNat_natCast, xC _ (by omega)]
        rw [hC.md, bs, rd, bs, jp_eq, p2, if_pos (show I (-1) = (-1 : Int32) from rfl), if_pos (show I _ ≤ (0 : Int32) from le_y (b := 0) (by omega))]
      · have n2 : dvI (I (j : Int)) 2 = some (I ((j / 2 : Nat) : Int)) := by rw [L_2, I_div (by omega) (by omega) (by omega) (by omega)]; rfl
        rw [hC.md, bs, n2, bs, hC.md_s (by omega) (by omega), bs, Int.toNat_natCast]
        refine ⟨_, rfl, _, rfl, by dsimp only; rw [L_1, I_add, ← cst], gC.tr Md.se, qC, fun k hk => ?_⟩
        dsimp only
        rw [he_se]
        unfold setE
        split
        · rfl
        · exact xC k hk
    · rintro ⟨u1, u2⟩ ⟨x1, x2, x3, x4⟩
      dsimp only at x1 x2 x3 x4 ⊢
      subst x1
      exact ⟨u2, by rw [if_pos (le_y (by omega))], x2, x3, x4⟩
    · rintro C ⟨gC, qC, xC⟩
      rw [pI_ok (hM.md' gC).k, bs]
      refine ⟨_, rfl, gC.tr (Md.si (Or.inr rfl)), ?_, hi_si, fun k hk => ?_⟩
      · rw [hi_si_ne (by decide)]; exact qC
      · rw [he_si, xC k hk]
        have := (drS_0 sd k hk).1
        unfold drD
        congr 1
        omega
theorem M_drift (h : RF A m s) (hk : StOK s) (x : Int32) : ∃ r, fX12_drift A (some m) x = some r ∧ r.1 = oDrift s x ∧ RF r.2 m (eDrift s x) ∧ Mm m A r.2 := by
  unfold fX12_drift oDrift eDrift
  rw [h.1.rc, bs, M_in, bs, Int32.toInt_toInt64, show (1 : Int64).toInt = 1 from rfl, show (6 : Int64).toInt = 6 from rfl]
  by_cases q : 1 ≤ x.toInt ∧ x.toInt ≤ 6
  rotate_left
  · rw [if_pos (bI0.mpr q), if_neg q, if_neg q]; exact ⟨_, rfl, rfl, h, Mm.rf⟩
  obtain ⟨k, k1, k2⟩ : ∃ k : Nat, k ≤ 6 ∧ x.toInt = k := ⟨x.toInt.toNat, by omega, by omega⟩
  have hx : x = I (k : Int) := lit_eq k2
  rw [if_neg (fun z => bI0.mp z q), if_pos q, if_pos q, k2, Int.toNat_natCast, hx]
  refine srch_eb k (fun j u => ∃ s', u.1 = I j ∧ RF u.2 m s' ∧ StOK s' ∧ Mm m A u.2 ∧ drf (k - j) s' = drf k s) (fun B => RF B m (drf k s) ∧ Mm m A B ∧ StOK (drf k s)) ⟨s, rfl, h, hk, Mm.rf, rfl⟩ ?_ ?_ ?_
  · rintro j ⟨u1, u2⟩ hj ⟨s', x1, x2, x3, x4, x5⟩
    dsimp only at x1 x2 x4 ⊢
    subst x1
    have hK := x3.1.1
    rw [if_neg (le_n (by omega)), x2.1.w, bs, x2.k0, bs]
    have hd : drf (k - j) s' = if 6 ≤ (sSh s').1 then s' else drf (k - (j + 1)) (stDr s') := by
      rw [show k - j = (k - (j + 1)) + 1 by omega]; rfl
    by_cases z : 6 ≤ (sSh s').1
    · right
      rw [if_pos (show (6 : Int32) ≤ I _ from le_y (a := 6) (by omega))]
      rw [hd, if_pos z] at x5
      rw [← x5]
      exact ⟨_, rfl, x2, x4, x3⟩
    · left
      rw [hd, if_neg z] at x5
      rw [if_neg (show ¬ (6 : Int32) ≤ I _ from le_n (a := 6) (by omega))]
      obtain ⟨B, b1, b2, b3⟩ := M_minds x2 x3
      have hk2 := stMind_ok x3
      have hsd : sSd (stMind s') = sSd s' := rfl
      obtain ⟨C, c1, c2, c3, c4, c5⟩ := M_drawsRow b2.1 b2.2.2.2.2.1 hk2.2.2.2.1
      rw [hsd] at c3 c4 c5
      have h3 := b2.md' c2 c3
      have hN := drN_le (sSd s')
      have hk3 : StOK (dSeed (stMind s') (drS (sSd s')).1) := dSeed_ok hk2 (dSt_lt _ _ (lcg_lt _) _)
      obtain ⟨r, r1, r2, r3, r4⟩ := M_laysMore h3 hk3 (by show (sSh s').1 < 6; omega) (n := 2 * drN (sSd s')) (by omega) (by omega) c4 c5 (fun i hi => by have := drS_0 (sSd s') i hi; unfold drD; omega)
      rw [b1, bs, c1, bs, r1, bs]
      exact ⟨_, rfl, stDr s', by dsimp only; rw [L_1, I_add, ← cst], r3, stDr_ok x3 z, ((x4.tr b3.mm).tr c2.mm).tr r4.mm, x5⟩
  · rintro ⟨u1, u2⟩ ⟨s', x1, x2, x3, x4, x5⟩
    dsimp only at x1 x2 x4 ⊢
    subst x1
    rw [Nat.sub_self] at x5
    have x5 : s' = drf k s := x5
    rw [← x5]
    exact ⟨u2, by rw [if_pos (le_y (by omega))], x2, x4, x3⟩
  · rintro B ⟨b1, b2, b3⟩
    rw [b1.1.w, bs, b1.k0, bs]
    exact ⟨_, rfl, rfl, b1, b2⟩
end DD
