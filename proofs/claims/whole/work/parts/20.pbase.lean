/-! numbers -/
def I (z : Int) : Int32 := Int32.ofInt z
abbrev Bd (z : Int) : Prop := -2147483648 ≤ z ∧ z < 2147483648
theorem I_toInt {z : Int} (h : Bd z) : (I z).toInt = z := Int32.toInt_ofInt_of_le h.1 h.2
theorem I_of (v : Int32) : v = I v.toInt := (Int32.ofInt_toInt v).symm
theorem Bd_of (v : Int32) : Bd v.toInt := ⟨v.le_toInt, v.toInt_lt⟩
theorem I_add (a b : Int) : I a + I b = I (a + b) := (Int32.ofInt_add a b).symm
theorem I_sub (a b : Int) : I a - I b = I (a - b) := (Int32.ofInt_sub a b).symm
theorem I_mul (a b : Int) : I a * I b = I (a * b) := (Int32.ofInt_mul a b).symm
theorem I_neg (a : Int) : -(I a) = I (-a) := (Int32.ofInt_neg a).symm
theorem I_lt {a b : Int} (ha : Bd a) (hb : Bd b) : (I a < I b) ↔ a < b := by rw [Int32.lt_iff_toInt_lt, I_toInt ha, I_toInt hb]
theorem I_le {a b : Int} (ha : Bd a) (hb : Bd b) : (I a ≤ I b) ↔ a ≤ b := by rw [Int32.le_iff_toInt_le, I_toInt ha, I_toInt hb]
theorem I_eq {a b : Int} (ha : Bd a) (hb : Bd b) : (I a = I b) ↔ a = b := by rw [← Int32.toInt_inj, I_toInt ha, I_toInt hb]
theorem I_cl {a : Int} (ha : Bd a) : (I a).toNatClampNeg = a.toNat := Int32.toNatClampNeg_ofInt_of_le ha.1 ha.2
theorem I_nat (n : Nat) : Int32.ofNat n = I n := Int32.ofInt_eq_ofNat.symm
theorem Bd_n {n : Nat} (h : n < 2147483648) : Bd (n : Int) := ⟨by omega, by omega⟩
theorem I_64 {a : Int} (ha : Bd a) : (I a).toInt64.toInt = a := by rw [Int32.toInt_toInt64, I_toInt ha]
theorem I_div {a b : Int} (ha : Bd a) (hb : Bd b) (h0 : 0 ≤ a) (h1 : 0 < b) : dvI (I a) (I b) = some (I (a / b)) := by
  unfold dvI
  rw [if_neg (by rw [show (0 : Int32) = I 0 from rfl, I_eq hb ⟨by decide, by decide⟩]; omega)]
  congr 1
  rw [← Int32.toInt_inj]
  have hq : Bd (a / b) := by
    have h2 := Int.ediv_nonneg h0 (Int.le_of_lt h1)
    have h3 := Int.ediv_le_self b h0
    exact ⟨by omega, by have := ha.2; omega⟩
  rw [Int32.toInt_div_of_ne_right _ _ (by rw [show (-1 : Int32) = I (-1) from rfl, ne_eq, I_eq hb ⟨by decide, by decide⟩]; omega), I_toInt ha, I_toInt hb, I_toInt hq, Int.tdiv_eq_ediv_of_nonneg h0]
theorem I_rem {a b : Int} (ha : Bd a) (hb : Bd b) (h0 : 0 ≤ a) (h1 : 0 < b) : rmI (I a) (I b) = some (I (a % b)) := by
  have h := I_div ha hb h0 h1
  unfold dvI at h
  unfold rmI
  split at h
  · cases h
  · rename_i hne
    rw [if_neg hne, Option.some.inj h, I_mul, I_sub]
    congr 2
    rw [Int.emod_def, Int.mul_comm]
/-! truth values -/
def bI (P : Prop) [Decidable P] : Int32 := if P then 1 else 0
theorem bI0 {P : Prop} [Decidable P] : bI P = 0 ↔ ¬ P := by
  unfold bI; split
  · rename_i h; exact ⟨fun q => absurd q (by decide), fun q => absurd h q⟩
  · rename_i h; exact ⟨fun _ => h, fun _ => rfl⟩
theorem bI1 {P : Prop} [Decidable P] : bI P = 1 ↔ P := by
  unfold bI; split
  · rename_i h; exact ⟨fun _ => h, fun _ => rfl⟩
  · rename_i h; exact ⟨fun q => absurd q (by decide), fun q => absurd q h⟩
theorem bIe {P Q : Prop} [Decidable P] [Decidable Q] : bI P = bI Q ↔ (P ↔ Q) := by
  by_cases h : P <;> by_cases h' : Q <;> simp [bI, h, h']
theorem bIc {P Q : Prop} [Decidable P] [Decidable Q] (h : P ↔ Q) : bI P = bI Q := bIe.mpr h
theorem ite_bI {P : Prop} [Decidable P] : (if P then (1 : Int32) else 0) = bI P := rfl
theorem ite_bI' {P : Prop} [Decidable P] : (if P then (0 : Int32) else 1) = bI (¬ P) := by
  by_cases h : P <;> simp [bI, h]
theorem some_bI {P : Prop} [Decidable P] : (if P then some (1 : Int32) else some 0) = some (bI P) := by
  by_cases h : P <;> simp [bI, h]
theorem some_bI' {P : Prop} [Decidable P] : (if P then some (0 : Int32) else some 1) = some (bI (¬ P)) := by
  by_cases h : P <;> simp [bI, h]
theorem rz_bI {P : Prop} [Decidable P] : rz (bI P) = some (bI P) := by
  by_cases h : P <;> simp [bI, h, rz]
theorem bI_I {P : Prop} [Decidable P] : bI P = I (if P then 1 else 0) := by
  by_cases h : P <;> simp only [bI, h, if_true, if_false] <;> rfl
/-! bits of small numbers -/
theorem I_and31 {k : Nat} (h : k < 32) : (I (k : Int) &&& 31) = I k := by
  have : ∀ k : Fin 32, (I ((k.val : Nat) : Int) &&& 31) = I (k.val : Nat) := by decide +kernel
  exact this ⟨k, h⟩
theorem I_bv (n : Nat) : (I (n : Int)).toBitVec = BitVec.ofNat 32 n := by
  show (Int32.ofInt (n : Int)).toBitVec = _
  rw [Int32.toBitVec_ofInt, BitVec.ofInt_natCast]
theorem I_ext {x y : Int32} (h : x.toBitVec = y.toBitVec) : x = y := Int32.toBitVec.inj h
theorem I_and (a b : Nat) : (I (a : Int) &&& I (b : Int)) = I ((a &&& b : Nat) : Int) := by
  apply I_ext
  rw [Int32.toBitVec_and, I_bv, I_bv, I_bv]
  apply BitVec.eq_of_toNat_eq
  simp only [BitVec.toNat_and, BitVec.toNat_ofNat]
  exact (Nat.and_mod_two_pow (n := 32)).symm
theorem I_or (a b : Nat) : (I (a : Int) ||| I (b : Int)) = I ((a ||| b : Nat) : Int) := by
  apply I_ext
  rw [Int32.toBitVec_or, I_bv, I_bv, I_bv]
  apply BitVec.eq_of_toNat_eq
  simp only [BitVec.toNat_or, BitVec.toNat_ofNat]
  exact (Nat.or_mod_two_pow (n := 32)).symm
theorem I_shl1 {k : Nat} (h : k < 32) : ((1 : Int32) <<< (I (k : Int) &&& 31)) = I ((2 ^ k : Nat) : Int) := by
  have : ∀ k : Fin 32, ((1 : Int32) <<< (I ((k.val : Nat) : Int) &&& 31)) = I ((2 ^ k.val : Nat) : Int) := by decide +kernel
  exact this ⟨k, h⟩
theorem I_shr {a k : Nat} (ha : a < 2147483648) (h : k < 32) : (I (a : Int) >>> (I (k : Int) &&& 31)) = I ((a >>> k : Nat) : Int) := by
  rw [I_and31 h]
  apply I_ext
  rw [Int32.toBitVec_shiftRight, I_bv, I_bv, I_bv]
  have e1 : ((BitVec.ofNat 32 k).smod 32) = BitVec.ofNat 32 k := by
    have : ∀ k : Fin 32, ((BitVec.ofNat 32 k.val).smod 32) = BitVec.ofNat 32 k.val := by decide +kernel
    exact this ⟨k, h⟩
  rw [e1]
  show (BitVec.ofNat 32 a).sshiftRight (BitVec.ofNat 32 k).toNat = _
  rw [BitVec.toNat_ofNat, Nat.mod_eq_of_lt (by omega), BitVec.sshiftRight_eq_of_msb_false]
  · apply BitVec.eq_of_toNat_eq
    rw [BitVec.toNat_ushiftRight, BitVec.toNat_ofNat, BitVec.toNat_ofNat, Nat.mod_eq_of_lt (by omega), Nat.mod_eq_of_lt]
    have := Nat.shiftRight_le a k
    omega
  · rw [BitVec.msb_eq_decide]
    simp only [BitVec.toNat_ofNat, decide_eq_false_iff_not]
    rw [Nat.mod_eq_of_lt (by omega)]
    omega
/-- bit k of a set -/
theorem I_bit {a k : Nat} (ha : a < 2147483648) (h : k < 32) : ((I (a : Int) >>> (I (k : Int) &&& 31)) &&& 1) = I ((a >>> k % 2 : Nat) : Int) := by
  rw [I_shr ha h, show (1 : Int32) = I ((1 : Nat) : Int) from rfl, I_and, Nat.and_one_is_mod]
theorem I_bit1 {a k : Nat} (ha : a < 2147483648) (h : k < 32) : (((I (a : Int) >>> (I (k : Int) &&& 31)) &&& 1) = 1) ↔ a.testBit k = true := by
  rw [I_bit ha h, show (1 : Int32) = I ((1 : Nat) : Int) from rfl, I_eq (Bd_n (by omega)) (Bd_n (by decide))]
  rw [Nat.testBit_eq_decide_div_mod_eq, Nat.shiftRight_eq_div_pow]
  simp only [decide_eq_true_eq]
  omega
/-! steps of the program that go well -/
theorem rcv_ok {A : AH} {kd a : Nat} (h : Hk A a = kd) : rcv A kd (some a) = some a := if_pos h
theorem gI_ok {A : AH} {kd f a : Nat} (h : Hk A a = kd) : gI A kd f (some a) = some (Hi A f a) := if_pos h
theorem gJ_ok {A : AH} {kd f a : Nat} (h : Hk A a = kd) : gJ A kd f (some a) = some (Hj A f a) := if_pos h
theorem gR_ok {A : AH} {kd f a : Nat} (h : Hk A a = kd) : gR A kd f (some a) = some (Hr A f a) := if_pos h
theorem pI_ok {A : AH} {kd f a : Nat} {v : Int32} (h : Hk A a = kd) : pI A kd f (some a) v = some (si A f a v) := if_pos h
theorem pJ_ok {A : AH} {kd f a : Nat} {v : Int64} (h : Hk A a = kd) : pJ A kd f (some a) v = some (sj A f a v) := if_pos h
theorem pR_ok {A : AH} {kd f a : Nat} {v : Option Nat} (h : Hk A a = kd) : pR A kd f (some a) v = some (sr A f a v) := if_pos h
theorem pZ_bI {A : AH} {kd f a : Nat} {P : Prop} [Decidable P] (h : Hk A a = kd) : pZ A kd f (some a) (bI P) = some (si A f a (bI P)) := if_pos ⟨h, by by_cases q : P <;> simp [bI, q]⟩
theorem pZ_0 {A : AH} {kd f a : Nat} (h : Hk A a = kd) : pZ A kd f (some a) 0 = some (si A f a 0) := if_pos ⟨h, Or.inl rfl⟩
theorem pZ_1 {A : AH} {kd f a : Nat} (h : Hk A a = kd) : pZ A kd f (some a) 1 = some (si A f a 1) := if_pos ⟨h, Or.inr rfl⟩
theorem in_ok {a : Int} {n : Nat} (h0 : 0 ≤ a) (h1 : a < n) (hn : n < 2147483648) : ¬ I a < 0 ∧ (I a).toNatClampNeg < n := by
  have hb : Bd a := ⟨by omega, by omega⟩
  rw [show (0 : Int32) = I 0 from rfl, I_lt hb ⟨by decide, by decide⟩, I_cl hb]
  omega
theorem aI_ok {A : AH} {kd a : Nat} {j : Int} (h : Hk A a = kd) (h0 : 0 ≤ j) (h1 : j < Hn A a) (hn : Hn A a < 2147483648) : aI A kd (some a) (I j) = some (He A a j.toNat) := by
  have hi := in_ok h0 h1 hn
  have hb : Bd j := ⟨by omega, by omega⟩
  have : aI A kd (some a) (I j) = some (He A a (I j).toNatClampNeg) := if_pos ⟨h, hi⟩
  rw [this, I_cl hb]
theorem aR_ok {A : AH} {kd a : Nat} {j : Int} (h : Hk A a = kd) (h0 : 0 ≤ j) (h1 : j < Hn A a) (hn : Hn A a < 2147483648) : aR A kd (some a) (I j) = some (Hq A a j.toNat) := by
  have hi := in_ok h0 h1 hn
  have hb : Bd j := ⟨by omega, by omega⟩
  have : aR A kd (some a) (I j) = some (Hq A a (I j).toNatClampNeg) := if_pos ⟨h, hi⟩
  rw [this, I_cl hb]
theorem sI_ok {A : AH} {kd a : Nat} {j : Int} {v : Int32} (h : Hk A a = kd) (h0 : 0 ≤ j) (h1 : j < Hn A a) (hn : Hn A a < 2147483648) : sI A kd (some a) (I j) v = some (se A a j.toNat v) := by
  have hi := in_ok h0 h1 hn
  have hb : Bd j := ⟨by omega, by omega⟩
  have : sI A kd (some a) (I j) v = some (se A a (I j).toNatClampNeg v) := if_pos ⟨h, hi⟩
  rw [this, I_cl hb]
theorem sZ_ok {A : AH} {kd a : Nat} {j : Int} {v : Int32} (hv : v = 0 ∨ v = 1) (h : Hk A a = kd) (h0 : 0 ≤ j) (h1 : j < Hn A a) (hn : Hn A a < 2147483648) : sZ A kd (some a) (I j) v = some (se A a j.toNat v) := by
  have hi := in_ok h0 h1 hn
  have hb : Bd j := ⟨by omega, by omega⟩
  have : sZ A kd (some a) (I j) v = some (se A a (I j).toNatClampNeg v) := if_pos ⟨h, hi.1, hi.2, hv⟩
  rw [this, I_cl hb]
theorem sR_ok {A : AH} {kd ek a : Nat} {j : Int} {v : Option Nat} (hv : okR A ek v = true) (h : Hk A a = kd) (h0 : 0 ≤ j) (h1 : j < Hn A a) (hn : Hn A a < 2147483648) : sR A kd ek (some a) (I j) v = some (sq A a j.toNat v) := by
  have hi := in_ok h0 h1 hn
  have hb : Bd j := ⟨by omega, by omega⟩
  have : sR A kd ek (some a) (I j) v = some (sq A a (I j).toNatClampNeg v) := if_pos ⟨h, hi.1, hi.2, hv⟩
  rw [this, I_cl hb]
theorem aL_ok {A : AH} {kd a : Nat} (h : Hk A a = kd) : aL A kd (some a) = some (I (Hn A a)) := (if_pos h).trans (congrArg some (I_nat _))
theorem nA_ok {A : AH} {kd bd : Nat} {j : Int} (h0 : 0 ≤ j) (h1 : j ≤ bd) (hb : bd < 2147483648) : nA A kd (I j) bd = some (nw A kd j.toNat) := by
  have hj : Bd j := ⟨by omega, by omega⟩
  have h : nA A kd (I j) bd = some (nw A kd (I j).toNatClampNeg) := if_pos ⟨by rw [show (0 : Int32) = I 0 from rfl, I_lt hj ⟨by decide, by decide⟩]; omega, by rw [I_cl hj]; omega⟩
  rw [h, I_cl hj]
/-! loops -/
theorem itN_for {S T : Type} {b : S → Option (S ⊕ T)} (st : Nat → S) {t : T} : ∀ (n i : Nat), (∀ j, i ≤ j → j < i + n → b (st j) = some (.inl (st (j + 1)))) → b (st (i + n)) = some (.inr t) → itN b (n + 1) (st i) = some t
  | 0, i, _, he => by unfold itN; rw [show st i = st (i + 0) from rfl, he]
  | n + 1, i, hs, he => by
    unfold itN
    rw [hs i (Nat.le_refl _) (by omega)]
    exact itN_for st n (i + 1) (fun j h1 h2 => hs j (by omega) (by omega)) (by rw [show i + 1 + n = i + (n + 1) by omega]; exact he)
theorem iter_for {S T : Type} {b : S → Option (S ⊕ T)} (st : Nat → S) (n : Nat) {s : S} {t : T} (h0 : s = st 0) (hs : ∀ j, j < n → b (st j) = some (.inl (st (j + 1)))) (he : b (st n) = some (.inr t)) : iter b s = some t := by
  subst h0
  exact iter_eq (itN_for st n 0 (fun j _ h => hs j (by omega)) (by rw [Nat.zero_add]; exact he))
theorem iter_inv {S T : Type} {b : S → Option (S ⊕ T)} {Inv : S → Prop} {Post : T → Prop} {μ : S → Nat} (step : ∀ s, Inv s → (∃ s', b s = some (.inl s') ∧ Inv s' ∧ μ s' < μ s) ∨ (∃ t, b s = some (.inr t) ∧ Post t)) {s : S} (h : Inv s) : ∃ t, iter b s = some t ∧ Post t := by
  have key : ∀ (n : Nat) (s : S), μ s ≤ n → Inv s → ∃ t, itN b (n + 1) s = some t ∧ Post t := by
    intro n
    induction n with
    | zero =>
      intro s hm hi
      rcases step s hi with ⟨s', -, -, h3⟩ | ⟨t, h1, h2⟩
      · omega
      · exact ⟨t, by unfold itN; rw [h1], h2⟩
    | succ n ih =>
      intro s hm hi
      rcases step s hi with ⟨s', h1, h2, h3⟩ | ⟨t, h1, h2⟩
      · obtain ⟨t, q1, q2⟩ := ih s' (by omega) h2
        exact ⟨t, by unfold itN; rw [h1]; exact q1, q2⟩
      · exact ⟨t, by unfold itN; rw [h1], h2⟩
  obtain ⟨t, h1, h2⟩ := key (μ s) s (Nat.le_refl _) h
  exact ⟨t, iter_eq h1, h2⟩
theorem jp1_eq {α β : Type} (a : α) (k : α → β) : jp1 a k = k a := rfl
theorem jp_eq {α β : Type} (k : α → β) (f : (α → β) → β) : jp k f = f k := rfl
theorem bs {α β : Type} (a : α) (f : α → Option β) : (some a).bind f = f a := rfl
