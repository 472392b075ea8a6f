theorem L_0 : (0 : Int32) = I 0 := rfl
theorem L_1 : (1 : Int32) = I 1 := rfl
theorem L_2 : (2 : Int32) = I 2 := rfl
theorem L_3 : (3 : Int32) = I 3 := rfl
theorem L_4 : (4 : Int32) = I 4 := rfl
theorem L_5 : (5 : Int32) = I 5 := rfl
theorem L_6 : (6 : Int32) = I 6 := rfl
theorem L_7 : (7 : Int32) = I 7 := rfl
theorem L_8 : (8 : Int32) = I 8 := rfl
theorem L_9 : (9 : Int32) = I 9 := rfl
theorem L_10 : (10 : Int32) = I 10 := rfl
theorem L_11 : (11 : Int32) = I 11 := rfl
theorem L_12 : (12 : Int32) = I 12 := rfl
theorem L_13 : (13 : Int32) = I 13 := rfl
theorem L_14 : (14 : Int32) = I 14 := rfl
theorem L_16 : (16 : Int32) = I 16 := rfl
theorem L_18 : (18 : Int32) = I 18 := rfl
theorem L_19 : (19 : Int32) = I 19 := rfl
theorem L_20 : (20 : Int32) = I 20 := rfl
theorem L_31 : (31 : Int32) = I 31 := rfl
theorem L_32 : (32 : Int32) = I 32 := rfl
theorem L_97 : (97 : Int32) = I 97 := rfl
theorem L_100 : (100 : Int32) = I 100 := rfl
theorem L_109 : (109 : Int32) = I 109 := rfl
theorem L_122 : (122 : Int32) = I 122 := rfl
theorem L_255 : (255 : Int32) = I 255 := rfl
theorem L_320 : (320 : Int32) = I 320 := rfl
theorem L_327 : (327 : Int32) = I 327 := rfl
theorem L_1635 : (1635 : Int32) = I 1635 := rfl
theorem L_2071 : (2071 : Int32) = I 2071 := rfl
theorem L_65536 : (65536 : Int32) = I 65536 := rfl
theorem L_1000000001 : (1000000001 : Int32) = I 1000000001 := rfl
theorem L_1000000002 : (1000000002 : Int32) = I 1000000002 := rfl
theorem L_1000000003 : (1000000003 : Int32) = I 1000000003 := rfl
theorem L_1000000004 : (1000000004 : Int32) = I 1000000004 := rfl
def miT : List (Nat × Nat × Nat × Nat) := [(384, 1, 14, 2071), (385, 2, 14, 2), (386, 3, 15, 2), (389, 4, 14, 20), (393, 5, 14, 20), (394, 6, 14, 20), (395, 7, 14, 32), (397, 8, 14, 32), (400, 9, 14, 10), (401, 10, 15, 10), (402, 11, 14, 10)]
/-- the reference's object at m: its rows, their kinds and lengths -/
def MI (A : AH) (m : Nat) : Prop := Hk A m = 13 ∧ ∀ q ∈ miT, Hr A q.1 m = some (m + q.2.1) ∧ Hk A (m + q.2.1) = q.2.2.1 ∧ Hn A (m + q.2.1) = q.2.2.2
theorem MI.k {A : AH} {m : Nat} (h : MI A m) : Hk A m = 13 := h.1
theorem MI.rc {A : AH} {m : Nat} (h : MI A m) : rcv A 13 (some m) = some m := rcv_ok h.1
theorem MI.w {A : AH} {m : Nat} (h : MI A m) : gR A 13 384 (some m) = some (some (m + 1)) := by rw [gR_ok h.1, (h.2 (384, 1, 14, 2071) (by decide)).1]
theorem MI.w_l {A : AH} {m : Nat} (h : MI A m) {j : Int} (h0 : 0 ≤ j) (h1 : j < 2071) : aI A 14 (some (m + 1)) (I j) = some (He A (m + 1) j.toNat) := aI_ok (h.2 (384, 1, 14, 2071) (by decide)).2.1 h0 (by rw [(h.2 (384, 1, 14, 2071) (by decide)).2.2]; exact h1) (by rw [(h.2 (384, 1, 14, 2071) (by decide)).2.2]; decide)
theorem MI.w_s {A : AH} {m : Nat} (h : MI A m) {j : Int} {v : Int32} (h0 : 0 ≤ j) (h1 : j < 2071) : sI A 14 (some (m + 1)) (I j) v = some (se A (m + 1) j.toNat v) := sI_ok (h.2 (384, 1, 14, 2071) (by decide)).2.1 h0 (by rw [(h.2 (384, 1, 14, 2071) (by decide)).2.2]; exact h1) (by rw [(h.2 (384, 1, 14, 2071) (by decide)).2.2]; decide)
theorem MI.is {A : AH} {m : Nat} (h : MI A m) : gR A 13 385 (some m) = some (some (m + 2)) := by rw [gR_ok h.1, (h.2 (385, 2, 14, 2) (by decide)).1]
theorem MI.is_l {A : AH} {m : Nat} (h : MI A m) {j : Int} (h0 : 0 ≤ j) (h1 : j < 2) : aI A 14 (some (m + 2)) (I j) = some (He A (m + 2) j.toNat) := aI_ok (h.2 (385, 2, 14, 2) (by decide)).2.1 h0 (by rw [(h.2 (385, 2, 14, 2) (by decide)).2.2]; exact h1) (by rw [(h.2 (385, 2, 14, 2) (by decide)).2.2]; decide)
theorem MI.is_s {A : AH} {m : Nat} (h : MI A m) {j : Int} {v : Int32} (h0 : 0 ≤ j) (h1 : j < 2) : sI A 14 (some (m + 2)) (I j) v = some (se A (m + 2) j.toNat v) := sI_ok (h.2 (385, 2, 14, 2) (by decide)).2.1 h0 (by rw [(h.2 (385, 2, 14, 2) (by decide)).2.2]; exact h1) (by rw [(h.2 (385, 2, 14, 2) (by decide)).2.2]; decide)
theorem MI.ik {A : AH} {m : Nat} (h : MI A m) : gR A 13 386 (some m) = some (some (m + 3)) := by rw [gR_ok h.1, (h.2 (386, 3, 15, 2) (by decide)).1]
theorem MI.ik_l {A : AH} {m : Nat} (h : MI A m) {j : Int} (h0 : 0 ≤ j) (h1 : j < 2) : aI A 15 (some (m + 3)) (I j) = some (He A (m + 3) j.toNat) := aI_ok (h.2 (386, 3, 15, 2) (by decide)).2.1 h0 (by rw [(h.2 (386, 3, 15, 2) (by decide)).2.2]; exact h1) (by rw [(h.2 (386, 3, 15, 2) (by decide)).2.2]; decide)
theorem MI.ik_s {A : AH} {m : Nat} (h : MI A m) {j : Int} {v : Int32} (hv : v = 0 ∨ v = 1) (h0 : 0 ≤ j) (h1 : j < 2) : sZ A 15 (some (m + 3)) (I j) v = some (se A (m + 3) j.toNat v) := sZ_ok hv (h.2 (386, 3, 15, 2) (by decide)).2.1 h0 (by rw [(h.2 (386, 3, 15, 2) (by decide)).2.2]; exact h1) (by rw [(h.2 (386, 3, 15, 2) (by decide)).2.2]; decide)
theorem MI.tx {A : AH} {m : Nat} (h : MI A m) : gR A 13 389 (some m) = some (some (m + 4)) := by rw [gR_ok h.1, (h.2 (389, 4, 14, 20) (by decide)).1]
theorem MI.tx_l {A : AH} {m : Nat} (h : MI A m) {j : Int} (h0 : 0 ≤ j) (h1 : j < 20) : aI A 14 (some (m + 4)) (I j) = some (He A (m + 4) j.toNat) := aI_ok (h.2 (389, 4, 14, 20) (by decide)).2.1 h0 (by rw [(h.2 (389, 4, 14, 20) (by decide)).2.2]; exact h1) (by rw [(h.2 (389, 4, 14, 20) (by decide)).2.2]; decide)
theorem MI.tx_s {A : AH} {m : Nat} (h : MI A m) {j : Int} {v : Int32} (h0 : 0 ≤ j) (h1 : j < 20) : sI A 14 (some (m + 4)) (I j) v = some (se A (m + 4) j.toNat v) := sI_ok (h.2 (389, 4, 14, 20) (by decide)).2.1 h0 (by rw [(h.2 (389, 4, 14, 20) (by decide)).2.2]; exact h1) (by rw [(h.2 (389, 4, 14, 20) (by decide)).2.2]; decide)
theorem MI.bw {A : AH} {m : Nat} (h : MI A m) : gR A 13 393 (some m) = some (some (m + 5)) := by rw [gR_ok h.1, (h.2 (393, 5, 14, 20) (by decide)).1]
theorem MI.bw_l {A : AH} {m : Nat} (h : MI A m) {j : Int} (h0 : 0 ≤ j) (h1 : j < 20) : aI A 14 (some (m + 5)) (I j) = some (He A (m + 5) j.toNat) := aI_ok (h.2 (393, 5, 14, 20) (by decide)).2.1 h0 (by rw [(h.2 (393, 5, 14, 20) (by decide)).2.2]; exact h1) (by rw [(h.2 (393, 5, 14, 20) (by decide)).2.2]; decide)
theorem MI.bw_s {A : AH} {m : Nat} (h : MI A m) {j : Int} {v : Int32} (h0 : 0 ≤ j) (h1 : j < 20) : sI A 14 (some (m + 5)) (I j) v = some (se A (m + 5) j.toNat v) := sI_ok (h.2 (393, 5, 14, 20) (by decide)).2.1 h0 (by rw [(h.2 (393, 5, 14, 20) (by decide)).2.2]; exact h1) (by rw [(h.2 (393, 5, 14, 20) (by decide)).2.2]; decide)
theorem MI.bm {A : AH} {m : Nat} (h : MI A m) : gR A 13 394 (some m) = some (some (m + 6)) := by rw [gR_ok h.1, (h.2 (394, 6, 14, 20) (by decide)).1]
theorem MI.bm_l {A : AH} {m : Nat} (h : MI A m) {j : Int} (h0 : 0 ≤ j) (h1 : j < 20) : aI A 14 (some (m + 6)) (I j) = some (He A (m + 6) j.toNat) := aI_ok (h.2 (394, 6, 14, 20) (by decide)).2.1 h0 (by rw [(h.2 (394, 6, 14, 20) (by decide)).2.2]; exact h1) (by rw [(h.2 (394, 6, 14, 20) (by decide)).2.2]; decide)
theorem MI.bm_s {A : AH} {m : Nat} (h : MI A m) {j : Int} {v : Int32} (h0 : 0 ≤ j) (h1 : j < 20) : sI A 14 (some (m + 6)) (I j) v = some (se A (m + 6) j.toNat v) := sI_ok (h.2 (394, 6, 14, 20) (by decide)).2.1 h0 (by rw [(h.2 (394, 6, 14, 20) (by decide)).2.2]; exact h1) (by rw [(h.2 (394, 6, 14, 20) (by decide)).2.2]; decide)
theorem MI.md {A : AH} {m : Nat} (h : MI A m) : gR A 13 395 (some m) = some (some (m + 7)) := by rw [gR_ok h.1, (h.2 (395, 7, 14, 32) (by decide)).1]
theorem MI.md_l {A : AH} {m : Nat} (h : MI A m) {j : Int} (h0 : 0 ≤ j) (h1 : j < 32) : aI A 14 (some (m + 7)) (I j) = some (He A (m + 7) j.toNat) := aI_ok (h.2 (395, 7, 14, 32) (by decide)).2.1 h0 (by rw [(h.2 (395, 7, 14, 32) (by decide)).2.2]; exact h1) (by rw [(h.2 (395, 7, 14, 32) (by decide)).2.2]; decide)
theorem MI.md_s {A : AH} {m : Nat} (h : MI A m) {j : Int} {v : Int32} (h0 : 0 ≤ j) (h1 : j < 32) : sI A 14 (some (m + 7)) (I j) v = some (se A (m + 7) j.toNat v) := sI_ok (h.2 (395, 7, 14, 32) (by decide)).2.1 h0 (by rw [(h.2 (395, 7, 14, 32) (by decide)).2.2]; exact h1) (by rw [(h.2 (395, 7, 14, 32) (by decide)).2.2]; decide)
theorem MI.lb {A : AH} {m : Nat} (h : MI A m) : gR A 13 397 (some m) = some (some (m + 8)) := by rw [gR_ok h.1, (h.2 (397, 8, 14, 32) (by decide)).1]
theorem MI.lb_l {A : AH} {m : Nat} (h : MI A m) {j : Int} (h0 : 0 ≤ j) (h1 : j < 32) : aI A 14 (some (m + 8)) (I j) = some (He A (m + 8) j.toNat) := aI_ok (h.2 (397, 8, 14, 32) (by decide)).2.1 h0 (by rw [(h.2 (397, 8, 14, 32) (by decide)).2.2]; exact h1) (by rw [(h.2 (397, 8, 14, 32) (by decide)).2.2]; decide)
theorem MI.lb_s {A : AH} {m : Nat} (h : MI A m) {j : Int} {v : Int32} (h0 : 0 ≤ j) (h1 : j < 32) : sI A 14 (some (m + 8)) (I j) v = some (se A (m + 8) j.toNat v) := sI_ok (h.2 (397, 8, 14, 32) (by decide)).2.1 h0 (by rw [(h.2 (397, 8, 14, 32) (by decide)).2.2]; exact h1) (by rw [(h.2 (397, 8, 14, 32) (by decide)).2.2]; decide)
theorem MI.ix {A : AH} {m : Nat} (h : MI A m) : gR A 13 400 (some m) = some (some (m + 9)) := by rw [gR_ok h.1, (h.2 (400, 9, 14, 10) (by decide)).1]
theorem MI.ix_l {A : AH} {m : Nat} (h : MI A m) {j : Int} (h0 : 0 ≤ j) (h1 : j < 10) : aI A 14 (some (m + 9)) (I j) = some (He A (m + 9) j.toNat) := aI_ok (h.2 (400, 9, 14, 10) (by decide)).2.1 h0 (by rw [(h.2 (400, 9, 14, 10) (by decide)).2.2]; exact h1) (by rw [(h.2 (400, 9, 14, 10) (by decide)).2.2]; decide)
theorem MI.ix_s {A : AH} {m : Nat} (h : MI A m) {j : Int} {v : Int32} (h0 : 0 ≤ j) (h1 : j < 10) : sI A 14 (some (m + 9)) (I j) v = some (se A (m + 9) j.toNat v) := sI_ok (h.2 (400, 9, 14, 10) (by decide)).2.1 h0 (by rw [(h.2 (400, 9, 14, 10) (by decide)).2.2]; exact h1) (by rw [(h.2 (400, 9, 14, 10) (by decide)).2.2]; decide)
theorem MI.ii {A : AH} {m : Nat} (h : MI A m) : gR A 13 401 (some m) = some (some (m + 10)) := by rw [gR_ok h.1, (h.2 (401, 10, 15, 10) (by decide)).1]
theorem MI.ii_l {A : AH} {m : Nat} (h : MI A m) {j : Int} (h0 : 0 ≤ j) (h1 : j < 10) : aI A 15 (some (m + 10)) (I j) = some (He A (m + 10) j.toNat) := aI_ok (h.2 (401, 10, 15, 10) (by decide)).2.1 h0 (by rw [(h.2 (401, 10, 15, 10) (by decide)).2.2]; exact h1) (by rw [(h.2 (401, 10, 15, 10) (by decide)).2.2]; decide)
theorem MI.ii_s {A : AH} {m : Nat} (h : MI A m) {j : Int} {v : Int32} (hv : v = 0 ∨ v = 1) (h0 : 0 ≤ j) (h1 : j < 10) : sZ A 15 (some (m + 10)) (I j) v = some (se A (m + 10) j.toNat v) := sZ_ok hv (h.2 (401, 10, 15, 10) (by decide)).2.1 h0 (by rw [(h.2 (401, 10, 15, 10) (by decide)).2.2]; exact h1) (by rw [(h.2 (401, 10, 15, 10) (by decide)).2.2]; decide)
theorem MI.hp {A : AH} {m : Nat} (h : MI A m) : gR A 13 402 (some m) = some (some (m + 11)) := by rw [gR_ok h.1, (h.2 (402, 11, 14, 10) (by decide)).1]
theorem MI.hp_l {A : AH} {m : Nat} (h : MI A m) {j : Int} (h0 : 0 ≤ j) (h1 : j < 10) : aI A 14 (some (m + 11)) (I j) = some (He A (m + 11) j.toNat) := aI_ok (h.2 (402, 11, 14, 10) (by decide)).2.1 h0 (by rw [(h.2 (402, 11, 14, 10) (by decide)).2.2]; exact h1) (by rw [(h.2 (402, 11, 14, 10) (by decide)).2.2]; decide)
theorem MI.hp_s {A : AH} {m : Nat} (h : MI A m) {j : Int} {v : Int32} (h0 : 0 ≤ j) (h1 : j < 10) : sI A 14 (some (m + 11)) (I j) v = some (se A (m + 11) j.toNat v) := sI_ok (h.2 (402, 11, 14, 10) (by decide)).2.1 h0 (by rw [(h.2 (402, 11, 14, 10) (by decide)).2.2]; exact h1) (by rw [(h.2 (402, 11, 14, 10) (by decide)).2.2]; decide)
/-- a step that writes scratch rows and fields of the reference alone -/
def Ms (m : Nat) (A A' : AH) : Prop := Hk A' = Hk A ∧ Hj A' = Hj A ∧ Hr A' = Hr A ∧ Hn A' = Hn A ∧ Hq A' = Hq A ∧ Hs A' = Hs A ∧ (∀ a, (a < m + 7 ∨ m + 11 < a) → He A' a = He A a) ∧ ∀ f a, ¬ (a = m ∧ (f = 396 ∨ f = 398 ∨ f = 399 ∨ f = 403)) → Hi A' f a = Hi A f a
theorem Ms.rf {m : Nat} {A : AH} : Ms m A A := ⟨rfl, rfl, rfl, rfl, rfl, rfl, fun _ _ => rfl, fun _ _ _ => rfl⟩
theorem Ms.tr {m : Nat} {A B C : AH} (h : Ms m A B) (g : Ms m B C) : Ms m A C := by
  obtain ⟨h1, h2, h3, h4, h5, h6, h7, h8⟩ := h
  obtain ⟨g1, g2, g3, g4, g5, g6, g7, g8⟩ := g
  exact ⟨g1.trans h1, g2.trans h2, g3.trans h3, g4.trans h4, g5.trans h5, g6.trans h6, fun a ha => (g7 a ha).trans (h7 a ha), fun f a ha => (g8 f a ha).trans (h8 f a ha)⟩
theorem Ms.se {m j i : Nat} {A : AH} {v : Int32} (h : 7 ≤ j ∧ j ≤ 11) : Ms m A (se A (m + j) i v) :=
  ⟨rfl, rfl, rfl, rfl, rfl, rfl, fun a ha => funext fun k => up2_ne (fun q => by omega), fun _ _ _ => rfl⟩
theorem Ms.si {m f : Nat} {A : AH} {v : Int32} (h : f = 396 ∨ f = 398 ∨ f = 399 ∨ f = 403) : Ms m A (si A f m v) :=
  ⟨rfl, rfl, rfl, rfl, rfl, rfl, fun _ _ => rfl, fun g a hg => up2_ne (fun q => hg ⟨q.2, by rw [q.1]; exact h⟩)⟩
theorem MI.ms {A A' : AH} {m : Nat} (h : MI A m) (g : Ms m A A') : MI A' m := by
  unfold MI
  rw [g.1, g.2.2.1, g.2.2.2.1]
  exact h
theorem MI.se {A : AH} {m a i : Nat} {v : Int32} (h : MI A m) : MI (se A a i v) m := h
theorem MI.si {A : AH} {m f a : Nat} {v : Int32} (h : MI A m) : MI (si A f a v) m := h
/-- word t of the reference's row w -/
def WE (A : AH) (m t N : Nat) (L : Nat → Nat) : Prop := t < 6 ∧ N ≤ 8 ∧ He A (m + 1) (1 + 18 * t) = I N ∧ ∀ i, i < 2 * N → He A (m + 1) (1 + 18 * t + 2 + i) = I (L i)
theorem WE.ms {A A' : AH} {m t N : Nat} {L : Nat → Nat} (h : WE A m t N L) (g : Ms m A A') : WE A' m t N L := by
  unfold WE
  rw [g.2.2.2.2.2.2.1 (m + 1) (by omega)]
  exact h
theorem he_se_ne {A : AH} {a b i : Nat} {v : Int32} (h : b ≠ a) : He (se A a i v) b = He A b := funext fun k => up2_ne (fun q => h q.1)
theorem he_se {A : AH} {a i k : Nat} {v : Int32} : He (se A a i v) a k = if k = i then v else He A a k := by
  by_cases h : k = i
  · rw [if_pos h, h]; exact up2_eq
  · rw [if_neg h]; exact up2_ne (fun q => h q.2)
theorem he_si {A : AH} {f a : Nat} {v : Int32} : He (si A f a v) = He A := rfl
theorem hi_se {A : AH} {a i : Nat} {v : Int32} : Hi (se A a i v) = Hi A := rfl
theorem hi_si {A : AH} {f a : Nat} {v : Int32} : Hi (si A f a v) f a = v := up2_eq
theorem hi_si_ne {A : AH} {f g a b : Nat} {v : Int32} (h : g ≠ f) : Hi (si A f a v) g b = Hi A g b := up2_ne (fun q => h q.1)
/-! compare -/
theorem le_y {a b : Int} (h : Bd a ∧ Bd b ∧ a ≤ b) : I a ≤ I b := (I_le h.1 h.2.1).mpr h.2.2
theorem le_n {a b : Int} (h : Bd a ∧ Bd b ∧ b < a) : ¬ I a ≤ I b := fun q => by have := (I_le h.1 h.2.1).mp q; omega
theorem lt_y {a b : Int} (h : Bd a ∧ Bd b ∧ a < b) : I a < I b := (I_lt h.1 h.2.1).mpr h.2.2
theorem lt_n {a b : Int} (h : Bd a ∧ Bd b ∧ b ≤ a) : ¬ I a < I b := fun q => by have := (I_lt h.1 h.2.1).mp q; omega
theorem eq_n {a b : Int} (h : Bd a ∧ Bd b ∧ a ≠ b) : ¬ I a = I b := fun q => by have := (I_eq h.1 h.2.1).mp q; omega
/-! the small ones -/
theorem lgc_lt {x y : Int64} : lg_cmp x y < 0 ↔ x.toInt < y.toInt := by
  unfold lg_cmp
  simp only [Int64.lt_iff_toInt_lt, ← Int64.toInt_inj]
  split
  · rename_i h; exact ⟨fun q => absurd q (by decide), fun q => by omega⟩
  · split
    · rename_i h; exact ⟨fun q => absurd q (by decide), fun q => by omega⟩
    · rename_i h1 h2; exact ⟨fun _ => by omega, fun _ => by decide⟩
theorem lgc_gt {x y : Int64} : 0 < lg_cmp x y ↔ y.toInt < x.toInt := by
  unfold lg_cmp
  simp only [Int64.lt_iff_toInt_lt, ← Int64.toInt_inj]
  split
  · rename_i h; exact ⟨fun _ => h, fun _ => by decide⟩
  · split
    · rename_i h; exact ⟨fun q => absurd q (by decide), fun q => by omega⟩
    · rename_i h1 h2; exact ⟨fun q => absurd q (by decide), fun q => by omega⟩
theorem M_in (A : AH) (x y z : Int64) : fX12_in A x y z = some (bI (y.toInt ≤ x.toInt ∧ x.toInt ≤ z.toInt)) := by
  unfold fX12_in
  simp only [lgc_lt, lgc_gt]
  by_cases h1 : x.toInt < y.toInt
  · rw [if_pos h1]; exact congrArg some (bI0.mpr (by omega)).symm
  · rw [if_neg h1]
    by_cases h2 : z.toInt < x.toInt
    · rw [if_pos h2]; exact congrArg some (bI0.mpr (by omega)).symm
    · rw [if_neg h2]; exact congrArg some (bI1.mpr (by omega)).symm
theorem M_in3 (A : AH) {a b c : Int} (ha : Bd a) (hb : Bd b) (hc : Bd c) : fX12_in A (I a).toInt64 (I b).toInt64 (I c).toInt64 = some (bI (b ≤ a ∧ a ≤ c)) := by
  rw [M_in, I_64 ha, I_64 hb, I_64 hc]
theorem M_in0 (A : AH) {a c : Int} (ha : Bd a) (hc : Bd c) : fX12_in A (I a).toInt64 0 (I c).toInt64 = some (bI (0 ≤ a ∧ a ≤ c)) := by
  rw [M_in, I_64 ha, I_64 hc]
  rfl
theorem M_has (A : AH) {s k : Nat} (hs : s < 2147483648) (hk : k < 32) : fX12_has A (I s) (I k) = some (bI (s.testBit k = true)) := by
  unfold fX12_has
  rw [some_bI]
  congr 1
  exact bIc (I_bit1 hs hk)
section MW
variable {A : AH} {m t N : Nat} {L : Nat → Nat}
theorem M_size (hM : MI A m) (hW : WE A m t N L) : fX12_size A (some m) (I t) = some (I N) := by
  have ht := hW.1
  unfold fX12_size
  simp only [hM.rc, bs, hM.w, L_0, L_1, L_2, L_3, L_4, L_5, L_6, L_7, L_8, L_9, L_10, L_11, L_12, L_13, L_14, L_16, L_18, L_19, L_20, L_31, L_32, L_97, L_100, L_109, L_122, L_255, L_320, L_327, L_1635, L_2071, L_65536, L_1000000001, L_1000000002, L_1000000003, L_1000000004, I_add, I_sub, I_mul, I_neg]
  rw [hM.w_l (by omega) (by omega), bs, ← hW.2.2.1]
  congr 2
theorem M_letterAt (hM : MI A m) (hW : WE A m t N L) {i : Nat} (hi : i < 2 * N) : fX12_letterAt A (some m) (I t) (I i) = some (I (L i)) := by
  have ht := hW.1
  have hN := hW.2.1
  unfold fX12_letterAt
  simp only [hM.rc, bs, hM.w, L_0, L_1, L_2, L_3, L_4, L_5, L_6, L_7, L_8, L_9, L_10, L_11, L_12, L_13, L_14, L_16, L_18, L_19, L_20, L_31, L_32, L_97, L_100, L_109, L_122, L_255, L_320, L_327, L_1635, L_2071, L_65536, L_1000000001, L_1000000002, L_1000000003, L_1000000004, I_add, I_sub, I_mul, I_neg]
  rw [hM.w_l (by omega) (by omega), bs, ← hW.2.2.2 i hi]
  congr 2
theorem M_isLetter (hM : MI A m) (hW : WE A m t N L) {z : Int} (hz : Bd z) : fX12_isLetter A (some m) (I t) (I z) = some (bI (0 ≤ z ∧ z < N)) := by
  have hN := hW.2.1
  unfold fX12_isLetter
  simp only [hM.rc, bs, M_size hM hW, L_0, L_1, L_2, L_3, L_4, L_5, L_6, L_7, L_8, L_9, L_10, L_11, L_12, L_13, L_14, L_16, L_18, L_19, L_20, L_31, L_32, L_97, L_100, L_109, L_122, L_255, L_320, L_327, L_1635, L_2071, L_65536, L_1000000001, L_1000000002, L_1000000003, L_1000000004, I_add, I_sub, I_mul, I_neg]
  rw [show (0 : Int64) = (0 : Int64) from rfl, M_in0 A hz ⟨by omega, by omega⟩, bs, rz_bI, bs]
  congr 1
  exact bIc (by omega)
/-- the first place below n of a letter, and the last; none: -1 -/
def fpl (L : Nat → Nat) (c : Nat) : Nat → Int
  | 0 => -1
  | n + 1 => if L n = c ∧ fpl L c n = -1 then n else fpl L c n
def lpl (L : Nat → Nat) (c : Nat) : Nat → Int
  | 0 => -1
  | n + 1 => if L n = c then n else lpl L c n
theorem fpl_s {L : Nat → Nat} {c n : Nat} : fpl L c (n + 1) = if L n = c ∧ fpl L c n = -1 then (n : Int) else fpl L c n := rfl
theorem lpl_s {L : Nat → Nat} {c n : Nat} : lpl L c (n + 1) = if L n = c then (n : Int) else lpl L c n := rfl
theorem fpl_bd (L : Nat → Nat) (c : Nat) : ∀ n, -1 ≤ fpl L c n ∧ fpl L c n < n
  | 0 => by simp [fpl]
  | n + 1 => by
    have := fpl_bd L c n
    unfold fpl
    split <;> omega
theorem lpl_bd (L : Nat → Nat) (c : Nat) : ∀ n, -1 ≤ lpl L c n ∧ lpl L c n < n
  | 0 => by simp [lpl]
  | n + 1 => by
    have := lpl_bd L c n
    unfold lpl
    split <;> omega
theorem n10 : (I 1 = I 0) ↔ False := ⟨fun h => absurd h (by decide), False.elim⟩
theorem n01 : (I 0 = I 1) ↔ False := ⟨fun h => absurd h (by decide), False.elim⟩
theorem cinj {a b : Nat} : ((a : Int) = (b : Int)) ↔ a = b := by omega
theorem cst (j : Nat) : ((j + 1 : Nat) : Int) = (j : Int) + 1 := by omega
theorem for_b {S T β : Type} {b : S → Option (S ⊕ T)} {K : T → Option β} {r : Option β} (st : Nat → S) (n : Nat) (t : T) {s : S} (h0 : s = st 0) (hs : ∀ j, j < n → b (st j) = some (.inl (st (j + 1)))) (he : b (st n) = some (.inr t)) (hK : K t = r) : (iter b s).bind K = r := by
  rw [iter_for st n h0 hs he]
  exact hK
theorem M_place0 (hM : MI A m) (hW : WE A m t N L) (hLb : ∀ i, i < 2 * N → L i < 1000) {c : Nat} (hc : c < 1000) : fX12_place A (some m) (I t) (I c) (I 0) = some (I (fpl L c (2 * N))) := by
  have hN := hW.2.1
  unfold fX12_place
  rw [hM.rc, bs]
  refine for_b (fun j => (I (fpl L c j), I j)) (2 * N) (I (fpl L c (2 * N))) rfl (fun j hj => ?_) ?_ rfl
  · have hb := fpl_bd L c j
    have hl := hLb j hj
    simp (disch := omega) only [M_size hM hW, M_letterAt hM hW, bs, jp1_eq, jp_eq, L_0, L_1, L_2, L_3, L_4, L_5, L_6, L_7, L_8, L_9, L_10, L_11, L_12, L_13, L_14, L_16, L_18, L_19, L_20, L_31, L_32, L_97, L_100, L_109, L_122, L_255, L_320, L_327, L_1635, L_2071, L_65536, L_1000000001, L_1000000002, L_1000000003, L_1000000004, I_add, I_sub, I_mul, I_neg, I_le, I_lt, I_eq, bI0, bI1, n10, n01, cst, rz_bI]
    rw [if_neg (by omega)]
    simp only [fpl_s]
    by_cases h1 : L j = c <;> by_cases h2 : fpl L c j = -1 <;> simp [h1, h2, cinj, n10]
  · simp (disch := omega) only [M_size hM hW, bs, jp1_eq, jp_eq, L_0, L_1, L_2, L_3, L_4, L_5, L_6, L_7, L_8, L_9, L_10, L_11, L_12, L_13, L_14, L_16, L_18, L_19, L_20, L_31, L_32, L_97, L_100, L_109, L_122, L_255, L_320, L_327, L_1635, L_2071, L_65536, L_1000000001, L_1000000002, L_1000000003, L_1000000004, I_add, I_sub, I_mul, I_neg, I_le, I_lt, I_eq, bI0, bI1, n10, n01, cst, rz_bI]
    rw [if_pos (by omega)]
theorem M_place1 (hM : MI A m) (hW : WE A m t N L) (hLb : ∀ i, i < 2 * N → L i < 1000) {c : Nat} (hc : c < 1000) : fX12_place A (some m) (I t) (I c) (I 1) = some (I (lpl L c (2 * N))) := by
  have hN := hW.2.1
  unfold fX12_place
  rw [hM.rc, bs]
  refine for_b (fun j => (I (lpl L c j), I j)) (2 * N) (I (lpl L c (2 * N))) rfl (fun j hj => ?_) ?_ rfl
  · have hb := lpl_bd L c j
    have hl := hLb j hj
    simp (disch := omega) only [M_size hM hW, M_letterAt hM hW, bs, jp1_eq, jp_eq, L_0, L_1, L_2, L_3, L_4, L_5, L_6, L_7, L_8, L_9, L_10, L_11, L_12, L_13, L_14, L_16, L_18, L_19, L_20, L_31, L_32, L_97, L_100, L_109, L_122, L_255, L_320, L_327, L_1635, L_2071, L_65536, L_1000000001, L_1000000002, L_1000000003, L_1000000004, I_add, I_sub, I_mul, I_neg, I_le, I_lt, I_eq, bI0, bI1, n10, n01, cst, rz_bI]
    rw [if_neg (by omega)]
    simp only [lpl_s]
    by_cases h1 : L j = c <;> simp [h1, cinj, n10]
  · simp (disch := omega) only [M_size hM hW, bs, jp1_eq, jp_eq, L_0, L_1, L_2, L_3, L_4, L_5, L_6, L_7, L_8, L_9, L_10, L_11, L_12, L_13, L_14, L_16, L_18, L_19, L_20, L_31, L_32, L_97, L_100, L_109, L_122, L_255, L_320, L_327, L_1635, L_2071, L_65536, L_1000000001, L_1000000002, L_1000000003, L_1000000004, I_add, I_sub, I_mul, I_neg, I_le, I_lt, I_eq, bI0, bI1, n10, n01, cst, rz_bI]
    rw [if_pos (by omega)]
end MW
/-- a word: N letters, the letter at each place, each letter's places -/
def VW (N : Nat) (L P Q : Nat → Nat) : Prop := N ≤ 8 ∧ (∀ c, c < N → P c < Q c ∧ Q c < 2 * N ∧ L (P c) = c ∧ L (Q c) = c) ∧ ∀ i, i < 2 * N → L i < N ∧ (i = P (L i) ∨ i = Q (L i))
theorem fpl_at (L : Nat → Nat) (c p : Nat) (h1 : L p = c) (h2 : ∀ j, j < p → L j ≠ c) : ∀ n, fpl L c n = if p < n then (p : Int) else -1
  | 0 => by simp [fpl]
  | n + 1 => by
    rw [fpl_s, fpl_at L c p h1 h2 n]
    by_cases hpn : p < n
    · rw [if_pos hpn, if_pos (by omega : p < n + 1), if_neg (fun q => by omega)]
    · rw [if_neg hpn]
      by_cases hp : p = n
      · rw [if_pos ⟨by rw [← hp]; exact h1, rfl⟩, if_pos (by omega), hp]
      · rw [if_neg (fun q => h2 n (by omega) q.1), if_neg (by omega)]
theorem lpl_at (L : Nat → Nat) (c q : Nat) (h1 : L q = c) : ∀ n, q < n → (∀ j, q < j → j < n → L j ≠ c) → lpl L c n = q
  | 0, h, _ => by omega
  | n + 1, h, h2 => by
    rw [lpl_s]
    by_cases hq : q = n
    · rw [if_pos (by rw [← hq]; exact h1), hq]
    · rw [if_neg (h2 n (by omega) (by omega))]
      exact lpl_at L c q h1 n (by omega) (fun j g1 g2 => h2 j g1 (by omega))
theorem VW.P {N : Nat} {L P Q : Nat → Nat} (h : VW N L P Q) {c : Nat} (hc : c < N) : fpl L c (2 * N) = P c := by
  obtain ⟨h1, h2, h3, h4⟩ := h.2.1 c hc
  rw [fpl_at L c (P c) h3 (fun j hj q => ?_), if_pos (by omega)]
  rcases (h.2.2 j (by omega)).2 with g | g
  · rw [q] at g; omega
  · rw [q] at g; omega
theorem VW.Q {N : Nat} {L P Q : Nat → Nat} (h : VW N L P Q) {c : Nat} (hc : c < N) : lpl L c (2 * N) = Q c := by
  obtain ⟨h1, h2, h3, h4⟩ := h.2.1 c hc
  refine lpl_at L c (Q c) h4 _ h2 (fun j hj hn q => ?_)
  rcases (h.2.2 j hn).2 with g | g
  · rw [q] at g; omega
  · rw [q] at g; omega
abbrev Btw (P Q : Nat → Nat) (c d : Nat) : Prop := c ≠ d ∧ ¬ ((P c ≤ P d ∧ P d ≤ Q c) ↔ (P c ≤ Q d ∧ Q d ≤ Q c))
def bset (P Q : Nat → Nat) (c : Nat) : Nat → Nat
  | 0 => 0
  | n + 1 => bset P Q c n ||| (if Btw P Q c n then 2 ^ n else 0)
theorem bset_lt (P Q : Nat → Nat) (c : Nat) : ∀ n, bset P Q c n < 2 ^ n
  | 0 => by simp [bset]
  | n + 1 => by
    have h := bset_lt P Q c n
    have e : (2 : Nat) ^ (n + 1) = 2 ^ n + 2 ^ n := by omega
    unfold bset
    apply Nat.or_lt_two_pow
    · omega
    · split <;> omega
theorem bset_bit (P Q : Nat → Nat) (c d : Nat) : ∀ n, (bset P Q c n).testBit d = decide (d < n ∧ Btw P Q c d)
  | 0 => by simp [bset]
  | n + 1 => by
    unfold bset
    rw [Nat.testBit_or, bset_bit P Q c d n]
    by_cases hb : Btw P Q c n
    · rw [if_pos hb, Nat.testBit_two_pow]
      by_cases hd : n = d
      · subst hd; simp [hb]
      · have : (d < n + 1) ↔ d < n := by omega
        simp [hd, this]
    · rw [if_neg hb]
      by_cases hd : d = n
      · subst hd; simp [hb]
      · have : (d < n + 1) ↔ d < n := by omega
        simp [this]
/-- how many of bits 0 .. n-1 -/
def cnt (s : Nat) : Nat → Nat
  | 0 => 0
  | n + 1 => cnt s n + (if s.testBit n then 1 else 0)
theorem cnt_le (s : Nat) : ∀ n, cnt s n ≤ n
  | 0 => Nat.le_refl _
  | n + 1 => by
    have := cnt_le s n
    unfold cnt
    split <;> omega
theorem bit_mod (s k : Nat) : s >>> k % 2 = if s.testBit k then 1 else 0 := by
  rw [Nat.testBit_eq_decide_div_mod_eq, Nat.shiftRight_eq_div_pow]
  by_cases h : s / 2 ^ k % 2 = 1
  · simp [h]
  · have : s / 2 ^ k % 2 = 0 := by omega
    simp [this]
theorem M_ones (A : AH) {s : Nat} (hs : s < 2147483648) : fX12_ones A (I s) = some (I (cnt s 16)) := by
  unfold fX12_ones
  refine for_b (fun j => (I (cnt s j), I j)) 16 (I (cnt s 16)) rfl (fun j hj => ?_) ?_ rfl
  · have hl := cnt_le s j
    dsimp only
    rw [show (16 : Int32) = I 16 from rfl, if_neg (le_n (by omega)), I_bit hs (by omega), bit_mod]
    simp only [L_1, I_add, cst]
    show _ = some (Sum.inl (I ((cnt s j + (if s.testBit j then 1 else 0) : Nat) : Int), _))
    congr 4
  · rfl
section MX
variable {A : AH} {m t N : Nat} {L P Q : Nat → Nat}
theorem WE.b (hV : VW N L P Q) : ∀ i, i < 2 * N → L i < 1000 := fun i hi => by
  have := (hV.2.2 i hi).1
  have := hV.1
  omega
theorem M_pl0 (hM : MI A m) (hW : WE A m t N L) (hV : VW N L P Q) {c : Nat} (hc : c < N) : fX12_place A (some m) (I t) (I c) (I 0) = some (I (P c)) := by
  rw [M_place0 hM hW (WE.b hV) (by have := hV.1; omega), hV.P hc]
theorem M_pl1 (hM : MI A m) (hW : WE A m t N L) (hV : VW N L P Q) {c : Nat} (hc : c < N) : fX12_place A (some m) (I t) (I c) (I 1) = some (I (Q c)) := by
  rw [M_place1 hM hW (WE.b hV) (by have := hV.1; omega), hV.Q hc]
theorem M_isBetween (hM : MI A m) (hW : WE A m t N L) (hV : VW N L P Q) {c d : Nat} (hc : c < N) (hd : d < N) : fX12_isBetween A (some m) (I t) (I c) (I d) = some (bI (Btw P Q c d)) := by
  have hN := hV.1
  obtain ⟨c1, c2, -, -⟩ := hV.2.1 c hc
  obtain ⟨d1, d2, -, -⟩ := hV.2.1 d hd
  unfold fX12_isBetween
  simp (disch := omega) only [hM.rc, bs, L_0, L_1, L_2, L_3, L_4, L_5, L_6, L_7, L_8, L_9, L_10, L_11, L_12, L_13, L_14, L_16, L_18, L_19, L_20, L_31, L_32, L_97, L_100, L_109, L_122, L_255, L_320, L_327, L_1635, L_2071, L_65536, L_1000000001, L_1000000002, L_1000000003, L_1000000004, M_pl0 hM hW hV hc, M_pl1 hM hW hV hc, M_pl0 hM hW hV hd, M_pl1 hM hW hV hd, M_in3, I_eq, bIe]
  by_cases h : c = d
  · rw [if_pos (by omega)]
    exact congrArg some (bI0.mpr (fun q => q.1 h)).symm
  · rw [if_neg (by omega), show I 0 = (0 : Int32) from rfl, show I 1 = (1 : Int32) from rfl, some_bI']
    exact congrArg some (bIc ⟨fun q => ⟨h, fun z => q ⟨fun w => by omega, fun w => by omega⟩⟩, fun q z => q.2 ⟨fun w => by omega, fun w => by omega⟩⟩)
theorem M_betweenSet (hM : MI A m) (hW : WE A m t N L) (hV : VW N L P Q) {c : Nat} (hc : c < N) : fX12_betweenSet A (some m) (I t) (I c) = some (I (bset P Q c N)) := by
  have hN := hV.1
  unfold fX12_betweenSet
  rw [hM.rc, bs]
  refine for_b (fun j => (I (bset P Q c j), I j)) N (I (bset P Q c N)) rfl (fun j hj => ?_) ?_ rfl
  · dsimp only
    rw [M_size hM hW, bs, if_neg (le_n (by omega)), M_isBetween hM hW hV hc hj, bs, jp1_eq, I_shl1 (by omega)]
    simp only [bI0]
    have hs : bset P Q c (j + 1) = bset P Q c j ||| (if Btw P Q c j then 2 ^ j else 0) := rfl
    rw [hs, ← I_or, cst, ← I_add]
    by_cases hb : Btw P Q c j
    · rw [if_neg (fun q => q hb), if_pos hb]
      rfl
    · rw [if_pos hb, if_neg hb]
      rfl
  · dsimp only
    rw [M_size hM hW, bs, if_pos (le_y (by omega))]
end MX
