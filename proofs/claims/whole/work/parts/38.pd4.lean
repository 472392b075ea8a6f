/-! deeds of the reference: write, undo, keep, goBack -/
section DD
variable {A : AH} {m t n : Nat} {s : St} {D : Nat → Nat}
def dWrite (s : St) (t : Nat) (v : Int32) : St := (s.1, s.2.1, s.2.2.1, s.2.2.2.1, s.2.2.2.2.1, s.2.2.2.2.2.1, (sEn s + 1, (fun i => if i = sEn s then t else sBw s i), fun i => if i = sEn s then v else sBm s i))
def oWrite (s : St) (x : Int32) : Int32 := if 0 ≤ x.toInt ∧ x.toInt < (sSh s).1 then (if sEn s = 20 then -1000000004 else I ((sEn s + 1 : Nat) : Int)) else -1000000001
def eWrite (s : St) (x v : Int32) : St := if (0 ≤ x.toInt ∧ x.toInt < (sSh s).1) ∧ sEn s ≠ 20 then dWrite s x.toInt.toNat v else s
theorem eWrite_ok (hk : StOK s) (x v : Int32) : StOK (eWrite s x v) := by
  unfold eWrite
  split
  · rename_i q
    obtain ⟨h1, h2, h3, h4, h5, h6, h7, h8⟩ := hk
    have hK := h1.1
    refine ⟨h1, h2, h3, h4, h5, h6, by show sEn s + 1 ≤ 20; omega, fun i hi => ?_⟩
    show (if i = sEn s then x.toInt.toNat else sBw s i) < 6
    have hi' : i < sEn s + 1 := hi
    split
    · omega
    · exact h8 i (by omega)
  · exact hk
theorem M_write (h : RF A m s) (hk : StOK s) (x v : Int32) : ∃ r, fX12_write A (some m) x v = some r ∧ r.1 = oWrite s x ∧ RF r.2 m (eWrite s x v) ∧ Mm m A r.2 := by
  have h' := h
  have hE := hk.2.2.2.2.2.2.1
  obtain ⟨h1, h2, ⟨h3, h4⟩, h5, h6, ⟨h7, h8⟩, h9, h10, h11⟩ := h'
  unfold fX12_write oWrite eWrite
  rw [h1.rc, bs, M_isW h hk x, bs]
  by_cases q : 0 ≤ x.toInt ∧ x.toInt < (sSh s).1
  rotate_left
  · rw [if_pos (bI0.mpr q), if_neg q, if_neg (fun z => q z.1)]; exact ⟨_, rfl, rfl, h, Mm.rf⟩
  rw [if_neg (fun z => bI0.mp z q), if_pos q, gI_ok h1.k, bs, h10]
  by_cases q2 : sEn s = 20
  · rw [if_pos (by rw [q2]; rfl), if_pos q2, if_neg (fun z => z.2 q2)]; exact ⟨_, rfl, rfl, h, Mm.rf⟩
  have hx : x = I ((x.toInt.toNat : Nat) : Int) := lit_eq (by omega)
  rw [if_neg (show ¬ I (sEn s : Int) = 20 from eq_n (b := 20) (by omega)), if_neg q2, if_pos ⟨q, q2⟩, h1.bw, bs, bs, h1.bw_s (by omega) (by omega), bs, (h1.se).bm, bs, gI_ok (h1.se).k, bs, hi_se, h10, (h1.se).bm_s (by omega) (by omega), bs, gI_ok ((h1.se).se).k, bs, pI_ok ((h1.se).se).k, bs, gI_ok (((h1.se).se).si).k, bs, Int.toNat_natCast, hi_se, hi_se, h10, L_1, I_add, ← cst]
  refine ⟨_, rfl, hi_si, ⟨h1, ?_, ⟨?_, fun j hj => ?_⟩, fun i hi => ?_, ?_, ⟨?_, fun i hi => ?_⟩, ?_, hi_si, fun i hi => ?_⟩, ((Mm.se (j := 5) (by omega)).tr (Mm.se (j := 6) (by omega))).tr Mm.si⟩
  · exact h2.he (by dsimp only; rw [he_si, he_se_ne (by omega), he_se_ne (by omega)])
  · dsimp only; rw [hi_si_ne (by decide), hi_se, hi_se]; exact h3
  · exact (h4 j hj).he (by dsimp only; rw [he_si, he_se_ne (by omega), he_se_ne (by omega)])
  · dsimp only
    rw [he_si, he_se_ne (by omega), he_se_ne (by omega), he_se_ne (by omega), he_se_ne (by omega)]
    exact ⟨(h5 i hi).1, fun z => ⟨((h5 i hi).2 z).1.he (by rw [he_si, he_se_ne (by omega), he_se_ne (by omega)]), ((h5 i hi).2 z).2⟩⟩
  · dsimp only; rw [hi_si_ne (by decide), hi_se, hi_se]; exact h6
  · dsimp only; rw [hi_si_ne (by decide), hi_se, hi_se]; exact h7
  · dsimp only; rw [he_si, he_se_ne (by omega), he_se_ne (by omega)]; exact h8 i hi
  · dsimp only; rw [hi_si_ne (by decide), hi_se, hi_se]; exact h9
  · dsimp only
    have hi' : i < sEn s + 1 := hi
    rw [he_si, he_se_ne (by omega), he_se, he_se, he_se_ne (by omega)]
    show _ = I ((if i = sEn s then x.toInt.toNat else sBw s i : Nat) : Int) ∧ _ = (if i = sEn s then v else sBm s i)
    by_cases z : i = sEn s
    · rw [if_pos z, if_pos z, if_pos z, if_pos z]; exact ⟨hx, rfl⟩
    · rw [if_neg z, if_neg z, if_neg z, if_neg z]; exact h11 i (by omega)
def eUndo (s : St) (x : Int32) : St := if (1 ≤ x.toInt ∧ x.toInt ≤ 16) ∧ x.toInt ≤ sU s then (sH s (sU s - x.toInt.toNat), (sU s - x.toInt.toNat, sH s), s.2.2) else s
def oUndo (s : St) (x : Int32) : Int32 := if 1 ≤ x.toInt ∧ x.toInt ≤ 16 then (if x.toInt ≤ sU s then I (sSh (eUndo s x)).1 else -1000000003) else -1000000002
theorem eUndo_ok (hk : StOK s) (x : Int32) : StOK (eUndo s x) := by
  unfold eUndo
  split
  · rename_i q
    obtain ⟨h1, ⟨h2, h2'⟩, h3⟩ := hk
    refine ⟨h2' _ (by omega), ⟨by show sU s - x.toInt.toNat ≤ 16; omega, fun j hj => ?_⟩, h3⟩
    have hj' : j < sU s - x.toInt.toNat := hj
    exact h2' j (by omega)
  · exact hk
theorem M_undo (h : RF A m s) (hk : StOK s) (x : Int32) : ∃ r, fX12_undo A (some m) x = some r ∧ r.1 = oUndo s x ∧ RF r.2 m (eUndo s x) ∧ Mm m A r.2 := by
  have hU := hk.2.1.1
  have e387 := h.2.2.1.1
  have hbx := Bd_of x
  unfold fX12_undo oUndo
  rw [h.1.rc, bs, M_in, bs, Int32.toInt_toInt64, show (1 : Int64).toInt = 1 from rfl, show (16 : Int64).toInt = 16 from rfl]
  by_cases q : 1 ≤ x.toInt ∧ x.toInt ≤ 16
  rotate_left
  · rw [if_pos (bI0.mpr q), if_neg q]
    exact ⟨_, rfl, rfl, by unfold eUndo; rw [if_neg (fun z => q z.1)]; exact h, Mm.rf⟩
  obtain ⟨k, k1, k2⟩ : ∃ k : Nat, k ≤ 16 ∧ x.toInt = k := ⟨x.toInt.toNat, by omega, by omega⟩
  have hx : x = I (k : Int) := lit_eq k2
  rw [if_neg (fun z => bI0.mp z q), if_pos q, gI_ok h.1.k, bs, e387]
  by_cases q2 : x.toInt ≤ sU s
  rotate_left
  · rw [if_neg (show ¬ x ≤ I (sU s : Int) by rw [hx]; exact le_n (by omega)), if_neg q2]
    exact ⟨_, rfl, rfl, by unfold eUndo; rw [if_neg (fun z => q2 z.2)]; exact h, Mm.rf⟩
  have hs : I (sU s : Int) - x = I ((sU s - k : Nat) : Int) := by rw [hx, I_sub]; congr 1; omega
  have y : (327 : Int32) + 109 * I ((sU s - k : Nat) : Int) = I ((327 + 109 * (sU s - k) : Nat) : Int) := by
    rw [show (327 : Int32) = I 327 from rfl, show (109 : Int32) = I 109 from rfl, I_mul, I_add]; congr 1
  have hM2 : MI (si A 387 m (I ((sU s - k : Nat) : Int))) m := h.1
  obtain ⟨C, c1, c2, c3, c4⟩ := M_copy hM2 (a := 327 + 109 * (sU s - k)) (b := 0) (by omega) (by omega) (by omega)
  have c1 : fX12_copy (si A 387 m (I ((sU s - k : Nat) : Int))) (some m) (I ((327 + 109 * (sU s - k) : Nat) : Int)) 0 = some C := c1
  have hC := hM2.mw c2
  have gw : Mw m A C := Mw.si.tr c2
  have eU : eUndo s x = (sH s (sU s - k), (sU s - k, sH s), s.2.2) := by
    unfold eUndo
    rw [if_pos ⟨q, q2⟩, k2, Int.toNat_natCast]
  have hb : BK C m 0 (sH s (sU s - k)) := (h.2.2.1.2 (sU s - k) (by omega)).cp (hk.2.1.2 (sU s - k) (by omega)) (fun j hj => by rw [c4, if_pos (by omega), he_si]; congr 1; omega)
  rw [if_pos (show x ≤ I (sU s : Int) by rw [hx]; exact le_y (by omega)), if_pos q2, bs, hs, pI_ok h.1.k, bs, gI_ok hM2.k, bs, hi_si, y, c1, bs, hC.w, bs, L_0, hC.w_l (by omega) (by omega), bs, eU]
  have h387 : Hi C 387 m = I ((sU s - k : Nat) : Int) := by rw [c3, hi_si]
  refine ⟨_, rfl, hb.1, ?_, gw.mm⟩
  obtain ⟨h1, h2, ⟨h3, h4⟩, h5, h6, ⟨h7, h8⟩, h9, h10, h11⟩ := h
  have g7 := gw.2.2.2.2.2.2.1
  have g8 := gw.2.2.2.2.2.2.2
  have hl : ∀ j, 109 ≤ j → He C (m + 1) j = He A (m + 1) j := fun j hj => by rw [c4, if_neg (by omega), he_si]
  show RF C m (sH s (sU s - k), (sU s - k, sH s), s.2.2)
  refine ⟨hC, hb, ⟨h387, fun j hj => ?_⟩, fun i hi => ?_, ?_, ⟨?_, fun i hi => ?_⟩, ?_, ?_, fun i hi => ?_⟩
  · have hj' : j < sU s - k := hj
    exact (h4 j (by omega)).cp (hk.2.1.2 j (by omega)) (fun k hk => hl _ (by omega))
  · rw [g7 _ (by omega), g7 _ (by omega)]
    exact ⟨(h5 i hi).1, fun q => ⟨((h5 i hi).2 q).1.cp (hk.2.2.1 i hi q).1 (fun k hk => hl _ (by omega)), ((h5 i hi).2 q).2⟩⟩
  · rw [g8 _ _ (by omega)]; exact h6
  · rw [g8 _ _ (by omega)]; exact h7
  · rw [g7 _ (by omega)]; exact h8 i hi
  · rw [g8 _ _ (by omega)]; exact h9
  · rw [g8 _ _ (by omega)]; exact h10
  · rw [g7 _ (by omega), g7 _ (by omega)]; exact h11 i hi
def eKeep (s : St) (x : Int32) : St := if 0 ≤ x.toInt ∧ x.toInt ≤ 1 then (s.1, (0, sH s), ((fun i => if i = x.toInt.toNat then true else sKe s i), (fun i => if i = x.toInt.toNat then sSh s else sIm s i), fun i => if i = x.toInt.toNat then sSd s else sIs s i), s.2.2.2) else s
def oKeep (x : Int32) : Int32 := if 0 ≤ x.toInt ∧ x.toInt ≤ 1 then 1 else -1000000001
theorem eKeep_ok (hk : StOK s) (x : Int32) : StOK (eKeep s x) := by
  unfold eKeep
  split
  · obtain ⟨h1, h2, h3, h4, h5⟩ := hk
    refine ⟨h1, ⟨Nat.zero_le _, fun j hj => absurd hj (Nat.not_lt_zero j)⟩, fun i hi q => ?_, h4, h5⟩
    show ShOK (if i = x.toInt.toNat then sSh s else sIm s i) ∧ (if i = x.toInt.toNat then sSd s else sIs s i) < 2147483648
    have q : (if i = x.toInt.toNat then true else sKe s i) = true := q
    by_cases z : i = x.toInt.toNat
    · rw [if_pos z, if_pos z]; exact ⟨h1, h4⟩
    · rw [if_neg z] at q ⊢
      rw [if_neg z]
      exact h3 i hi q
  · exact hk
theorem M_keep (h : RF A m s) (hk : StOK s) (x : Int32) : ∃ r, fX12_keep A (some m) x = some r ∧ r.1 = oKeep x ∧ RF r.2 m (eKeep s x) ∧ Mm m A r.2 := by
  unfold fX12_keep oKeep eKeep
  rw [h.1.rc, bs, M_in, bs, Int32.toInt_toInt64, show (0 : Int64).toInt = 0 from rfl, show (1 : Int64).toInt = 1 from rfl]
  by_cases q : 0 ≤ x.toInt ∧ x.toInt ≤ 1
  rotate_left
  · rw [if_pos (bI0.mpr q), if_neg q, if_neg q]; exact ⟨_, rfl, rfl, h, Mm.rf⟩
  obtain ⟨k, k1, k2⟩ : ∃ k : Nat, k ≤ 1 ∧ x.toInt = k := ⟨x.toInt.toNat, by omega, by omega⟩
  have hx : x = I (k : Int) := lit_eq k2
  have y : (109 : Int32) + 109 * I (k : Int) = I ((109 + 109 * k : Nat) : Int) := by
    rw [show (109 : Int32) = I 109 from rfl, I_mul, I_add]; congr 1
  obtain ⟨C, c1, c2, c3, c4⟩ := M_copy h.1 (a := 0) (b := 109 + 109 * k) (by omega) (by omega) (by omega)
  have c1 : fX12_copy A (some m) 0 (I ((109 + 109 * k : Nat) : Int)) = some C := c1
  have hC := h.1.mw c2
  have e388 : Hi C 388 m = I (sSd s) := by rw [c3]; exact h.2.2.2.2.1
  rw [if_neg (fun z => bI0.mp z q), if_pos q, if_pos q, k2, Int.toNat_natCast, hx, y, c1, bs, hC.is, bs, gI_ok hC.k, bs, e388, hC.is_s (by omega) (by omega), bs, (hC.se).ik, bs, (hC.se).ik_s (Or.inr rfl) (by omega) (by omega), bs, pI_ok ((hC.se).se).k, bs, Int.toNat_natCast]
  refine ⟨_, rfl, rfl, ?_, ((c2.mm.tr (Mm.se (j := 2) (by omega))).tr (Mm.se (j := 3) (by omega))).tr Mm.si⟩
  obtain ⟨h1, h2, ⟨h3, h4⟩, h5, h6, ⟨h7, h8⟩, h9, h10, h11⟩ := h
  have g7 := c2.2.2.2.2.2.2.1
  dsimp only
  have hw : ∀ a, a ≠ m + 2 → a ≠ m + 3 → He (si (se (se C (m + 2) k (I (sSd s))) (m + 3) k 1) 387 m 0) a = He C a := fun a z1 z2 => by rw [he_si, he_se_ne z2, he_se_ne z1]
  have hi' : ∀ f, f ≠ 387 → Hi (si (se (se C (m + 2) k (I (sSd s))) (m + 3) k 1) 387 m 0) f m = Hi A f m := fun f z => by rw [hi_si_ne z, hi_se, hi_se, c3]
  have hw1 := hw (m + 1) (by omega) (by omega)
  refine ⟨hC, ?_, ⟨hi_si, fun j hj => absurd hj (Nat.not_lt_zero j)⟩, fun i hi => ?_, ?_, ⟨?_, fun i hi => ?_⟩, ?_, ?_, fun i hi => ?_⟩
  · exact h2.cp hk.1 (fun j hj => by rw [hw1, c4, if_neg (by omega)])
  · show _ = bI ((if i = k then true else sKe s i) = true) ∧ ((if i = k then true else sKe s i) = true → BK _ m (109 + 109 * i) (if i = k then sSh s else sIm s i) ∧ _ = I ((if i = k then sSd s else sIs s i : Nat) : Int))
    have e3 : He (si (se (se C (m + 2) k (I (sSd s))) (m + 3) k 1) 387 m 0) (m + 3) i = if i = k then 1 else He A (m + 3) i := by
      rw [he_si, he_se]
      by_cases z : i = k
      · rw [if_pos z, if_pos z]
      · rw [if_neg z, if_neg z, he_se_ne (by omega), g7 _ (by omega)]
    have e2 : He (si (se (se C (m + 2) k (I (sSd s))) (m + 3) k 1) 387 m 0) (m + 2) i = if i = k then I (sSd s) else He A (m + 2) i := by
      rw [he_si, he_se_ne (by omega), he_se]
      by_cases z : i = k
      · rw [if_pos z, if_pos z]
      · rw [if_neg z, if_neg z, g7 _ (by omega)]
    rw [e3, e2]
    by_cases z : i = k
    · rw [if_pos z, if_pos z, if_pos z, if_pos z, if_pos z]
      exact ⟨rfl, fun _ => ⟨h2.cp hk.1 (fun j hj => by rw [hw1, c4, if_pos (by omega)]; congr 1; omega), rfl⟩⟩
    · rw [if_neg z, if_neg z, if_neg z, if_neg z, if_neg z]
      exact ⟨(h5 i hi).1, fun q => ⟨((h5 i hi).2 q).1.cp (hk.2.2.1 i hi q).1 (fun j hj => by rw [hw1, c4, if_neg (by omega)]), ((h5 i hi).2 q).2⟩⟩
  · rw [hi' _ (by decide)]; exact h6
  · rw [hi' _ (by decide)]; exact h7
  · rw [hw _ (by omega) (by omega), g7 _ (by omega)]; exact h8 i hi
  · rw [hi' _ (by decide)]; exact h9
  · rw [hi' _ (by decide)]; exact h10
  · rw [hw _ (by omega) (by omega), hw _ (by omega) (by omega), g7 _ (by omega), g7 _ (by omega)]; exact h11 i hi
end DD
