/-! deeds of the reference: the plain ones -/
/-- a step that writes the reference's own cells alone -/
def Mm (m : Nat) (A A' : AH) : Prop := Hk A' = Hk A ∧ Hj A' = Hj A ∧ Hr A' = Hr A ∧ Hn A' = Hn A ∧ Hq A' = Hq A ∧ Hs A' = Hs A ∧ (∀ a, (a < m ∨ m + 11 < a) → He A' a = He A a) ∧ ∀ f a, a ≠ m → Hi A' f a = Hi A f a
theorem Mm.rf {m : Nat} {A : AH} : Mm m A A := ⟨rfl, rfl, rfl, rfl, rfl, rfl, fun _ _ => rfl, fun _ _ _ => rfl⟩
theorem Mm.tr {m : Nat} {A B C : AH} (h : Mm m A B) (g : Mm m B C) : Mm m A C := by
  obtain ⟨h1, h2, h3, h4, h5, h6, h7, h8⟩ := h
  obtain ⟨g1, g2, g3, g4, g5, g6, g7, g8⟩ := g
  exact ⟨g1.trans h1, g2.trans h2, g3.trans h3, g4.trans h4, g5.trans h5, g6.trans h6, fun a ha => (g7 a ha).trans (h7 a ha), fun f a ha => (g8 f a ha).trans (h8 f a ha)⟩
theorem Ms.mm {m : Nat} {A B : AH} (h : Ms m A B) : Mm m A B := ⟨h.1, h.2.1, h.2.2.1, h.2.2.2.1, h.2.2.2.2.1, h.2.2.2.2.2.1, fun a ha => h.2.2.2.2.2.2.1 a (by omega), fun f a ha => h.2.2.2.2.2.2.2 f a (fun q => ha q.1)⟩
theorem Mw.mm {m : Nat} {A B : AH} (h : Mw m A B) : Mm m A B := ⟨h.1, h.2.1, h.2.2.1, h.2.2.2.1, h.2.2.2.2.1, h.2.2.2.2.2.1, fun a ha => h.2.2.2.2.2.2.1 a (by omega), fun f a ha => h.2.2.2.2.2.2.2 f a (fun q => ha q.1)⟩
theorem Mm.se {m j i : Nat} {A : AH} {v : Int32} (h : j ≤ 11) : Mm m A (se A (m + j) i v) :=
  ⟨rfl, rfl, rfl, rfl, rfl, rfl, fun a ha => he_se_ne (by omega), fun _ _ _ => rfl⟩
theorem Mm.si {m f : Nat} {A : AH} {v : Int32} : Mm m A (si A f m v) :=
  ⟨rfl, rfl, rfl, rfl, rfl, rfl, fun _ _ => rfl, fun g a hg => up2_ne (fun q => hg q.2)⟩
section DD
variable {A : AH} {m t n : Nat} {s : St} {D : Nat → Nat}
def dTear (s : St) : St := (s.1, s.2.1, s.2.2.1, s.2.2.2.1, s.2.2.2.2.1, s.2.2.2.2.2.1, (0, sBw s, sBm s))
theorem M_tear (h : RF A m s) : ∃ r, fX12_tear A (some m) = some r ∧ r.1 = I (sEn s) ∧ RF r.2 m (dTear s) ∧ Mm m A r.2 := by
  obtain ⟨h1, h2, ⟨h3, h4⟩, h5, h6, ⟨h7, h8⟩, h9, h10, h11⟩ := h
  unfold fX12_tear
  rw [h1.rc, bs, gI_ok h1.k, bs, pI_ok h1.k, bs, h10]
  refine ⟨_, rfl, rfl, ⟨h1, h2, ⟨?_, h4⟩, h5, ?_, ⟨?_, h8⟩, ?_, hi_si, fun i hi => absurd hi (Nat.not_lt_zero i)⟩, Mm.si⟩
  · dsimp only; rw [hi_si_ne (by decide)]; exact h3
  · dsimp only; rw [hi_si_ne (by decide)]; exact h6
  · dsimp only; rw [hi_si_ne (by decide)]; exact h7
  · dsimp only; rw [hi_si_ne (by decide)]; exact h9
theorem dTear_ok (hk : StOK s) : StOK (dTear s) := by
  obtain ⟨h1, h2, h3, h4, h5, h6, h7, h8⟩ := hk
  exact ⟨h1, h2, h3, h4, h5, h6, Nat.zero_le _, fun i hi => absurd hi (Nat.not_lt_zero i)⟩
def dSeed (s : St) (v : Nat) : St := (s.1, s.2.1, s.2.2.1, v, s.2.2.2.2)
theorem RF.sd (h : RF A m s) {v : Nat} : RF (si A 388 m (I v)) m (dSeed s v) := by
  obtain ⟨h1, h2, ⟨h3, h4⟩, h5, h6, ⟨h7, h8⟩, h9, h10, h11⟩ := h
  refine ⟨h1, h2, ⟨?_, h4⟩, h5, hi_si, ⟨?_, h8⟩, ?_, ?_, h11⟩
  · rw [hi_si_ne (by decide)]; exact h3
  · rw [hi_si_ne (by decide)]; exact h7
  · rw [hi_si_ne (by decide)]; exact h9
  · rw [hi_si_ne (by decide)]; exact h10
theorem dSeed_ok (hk : StOK s) {v : Nat} (hv : v < 2147483648) : StOK (dSeed s v) := by
  obtain ⟨h1, h2, h3, h4, h5⟩ := hk
  exact ⟨h1, h2, h3, hv, h5⟩
theorem M_seed (h : RF A m s) (x : Int32) : ∃ r, fX12_seed A (some m) x = some r ∧ r.1 = (if 0 ≤ x.toInt then I (sSd s) else -1000000002) ∧ RF r.2 m (if 0 ≤ x.toInt then dSeed s x.toInt.toNat else s) ∧ Mm m A r.2 := by
  unfold fX12_seed
  rw [h.1.rc, bs]
  by_cases q : 0 ≤ x.toInt
  · have hx : x = I ((x.toInt.toNat : Nat) : Int) := lit_eq (by omega)
    rw [if_pos (show (0 : Int32) ≤ x by rw [hx]; exact le_y (a := 0) (by have := Bd_of x; omega)), if_pos q, if_pos q, gI_ok h.1.k, bs, pI_ok h.1.k, bs]
    refine ⟨_, rfl, h.2.2.2.2.1, ?_, Mm.si⟩
    have := h.sd (v := x.toInt.toNat)
    rw [← hx] at this
    exact this
  · rw [if_neg (show ¬ (0 : Int32) ≤ x by rw [I_of x]; exact le_n (a := 0) (by have := Bd_of x; omega)), if_neg q, if_neg q]
    exact ⟨_, rfl, rfl, h, Mm.rf⟩
def dFeed (s : St) (v : Nat) : St := (s.1, s.2.1, s.2.2.1, s.2.2.2.1, (sTn s + 1, fun i => if i = sTn s then v else sT s i), s.2.2.2.2.2)
def oFeed (s : St) (x : Int32) : Int32 := if 0 ≤ x.toInt ∧ x.toInt ≤ 255 then (if sTn s = 20 then -1000000004 else I ((sTn s + 1 : Nat) : Int)) else -1000000002
def eFeed (s : St) (x : Int32) : St := if (0 ≤ x.toInt ∧ x.toInt ≤ 255) ∧ sTn s ≠ 20 then dFeed s x.toInt.toNat else s
theorem eFeed_ok (hk : StOK s) (x : Int32) : StOK (eFeed s x) := by
  unfold eFeed
  split
  · rename_i q
    obtain ⟨h1, h2, h3, h4, ⟨h5, h5'⟩, h6⟩ := hk
    refine ⟨h1, h2, h3, h4, ⟨by show sTn s + 1 ≤ 20; omega, fun i hi => ?_⟩, h6⟩
    show (if i = sTn s then x.toInt.toNat else sT s i) < 256
    have hi' : i < sTn s + 1 := hi
    split
    · omega
    · exact h5' i (by omega)
  · exact hk
theorem M_feed (h : RF A m s) (hk : StOK s) (x : Int32) : ∃ r, fX12_feed A (some m) x = some r ∧ r.1 = oFeed s x ∧ RF r.2 m (eFeed s x) ∧ Mm m A r.2 := by
  have h' := h
  have hT := hk.2.2.2.2.1.1
  obtain ⟨h1, h2, ⟨h3, h4⟩, h5, h6, ⟨h7, h8⟩, h9, h10, h11⟩ := h'
  unfold fX12_feed oFeed eFeed
  rw [h1.rc, bs, M_in, bs, Int32.toInt_toInt64, show (0 : Int64).toInt = 0 from rfl, show (255 : Int64).toInt = 255 from rfl]
  by_cases q : 0 ≤ x.toInt ∧ x.toInt ≤ 255
  rotate_left
  · rw [if_pos (bI0.mpr q), if_neg q, if_neg (fun z => q z.1)]; exact ⟨_, rfl, rfl, h, Mm.rf⟩
  rw [if_neg (fun z => bI0.mp z q), if_pos q, gI_ok h1.k, bs, h7]
  by_cases q2 : sTn s = 20
  · rw [if_pos (by rw [q2]; rfl), if_pos q2, if_neg (fun z => z.2 q2)]; exact ⟨_, rfl, rfl, h, Mm.rf⟩
  have hx : x = I ((x.toInt.toNat : Nat) : Int) := lit_eq (by omega)
  rw [if_neg (show ¬ I (sTn s : Int) = 20 from eq_n (b := 20) (by omega)), if_neg q2, if_pos ⟨q, q2⟩, h1.tx, bs, bs, h1.tx_s (by omega) (by omega), bs, gI_ok (h1.se).k, bs, pI_ok (h1.se).k, bs, gI_ok ((h1.se).si).k, bs, Int.toNat_natCast, hi_se, h7, L_1, I_add, ← cst]
  refine ⟨_, rfl, hi_si, ⟨h1, ?_, ⟨?_, fun j hj => ?_⟩, fun i hi => ?_, ?_, ⟨hi_si, fun i hi => ?_⟩, ?_, ?_, fun i hi => ?_⟩, (Mm.se (j := 4) (by omega)).tr Mm.si⟩
  · exact h2.he (by dsimp only; rw [he_si, he_se_ne (by omega)])
  · dsimp only; rw [hi_si_ne (by decide), hi_se]; exact h3
  · exact (h4 j hj).he (by dsimp only; rw [he_si, he_se_ne (by omega)])
  · dsimp only
    rw [he_si, he_se_ne (by omega), he_se_ne (by omega)]
    exact ⟨(h5 i hi).1, fun z => ⟨((h5 i hi).2 z).1.he (by rw [he_si, he_se_ne (by omega)]), ((h5 i hi).2 z).2⟩⟩
  · dsimp only; rw [hi_si_ne (by decide), hi_se]; exact h6
  · dsimp only
    rw [he_si, he_se]
    show _ = I ((if i = sTn s then x.toInt.toNat else sT s i : Nat) : Int)
    have hi' : i < sTn s + 1 := hi
    by_cases z : i = sTn s
    · rw [if_pos z, if_pos z]; exact hx
    · rw [if_neg z, if_neg z]; exact h8 i (by omega)
  · dsimp only; rw [hi_si_ne (by decide), hi_se]; exact h9
  · dsimp only; rw [hi_si_ne (by decide), hi_se]; exact h10
  · dsimp only; rw [he_si, he_se_ne (by omega), he_se_ne (by omega)]; exact h11 i hi
end DD
