/-! deeds of the reference: goBack, one word more, signs, draw -/
section DD
variable {A : AH} {m t n : Nat} {s : St} {D : Nat → Nat}
def eBack (s : St) (x : Int32) : St := if (0 ≤ x.toInt ∧ x.toInt ≤ 1) ∧ sKe s x.toInt.toNat = true then (sIm s x.toInt.toNat, (0, sH s), s.2.2.1, sIs s x.toInt.toNat, s.2.2.2.2) else s
def oBack (s : St) (x : Int32) : Int32 := if 0 ≤ x.toInt ∧ x.toInt ≤ 1 then (if sKe s x.toInt.toNat = true then 1 else -1000000003) else -1000000001
theorem eBack_ok (hk : StOK s) (x : Int32) : StOK (eBack s x) := by
  unfold eBack
  split
  · rename_i q
    obtain ⟨h1, h2, h3, h4, h5⟩ := hk
    have := h3 x.toInt.toNat (by omega) q.2
    exact ⟨this.1, ⟨Nat.zero_le _, fun j hj => absurd hj (Nat.not_lt_zero j)⟩, h3, this.2, h5⟩
  · exact hk
theorem M_goBack (h : RF A m s) (hk : StOK s) (x : Int32) : ∃ r, fX12_goBack A (some m) x = some r ∧ r.1 = oBack s x ∧ RF r.2 m (eBack s x) ∧ Mm m A r.2 := by
  unfold fX12_goBack oBack eBack
  rw [h.1.rc, bs, M_in, bs, Int32.toInt_toInt64, show (0 : Int64).toInt = 0 from rfl, show (1 : Int64).toInt = 1 from rfl]
  by_cases q : 0 ≤ x.toInt ∧ x.toInt ≤ 1
  rotate_left
  · rw [if_pos (bI0.mpr q), if_neg q, if_neg (fun z => q z.1)]; exact ⟨_, rfl, rfl, h, Mm.rf⟩
  obtain ⟨k, k1, k2⟩ : ∃ k : Nat, k ≤ 1 ∧ x.toInt = k := ⟨x.toInt.toNat, by omega, by omega⟩
  have hx : x = I (k : Int) := lit_eq k2
  have hke := (h.2.2.2.1 k (by omega)).1
  rw [if_neg (fun z => bI0.mp z q), if_pos q, k2, Int.toNat_natCast, hx, h.1.ik, bs, h.1.ik_l (by omega) (by omega), bs, Int.toNat_natCast, hke]
  by_cases q2 : sKe s k = true
  rotate_left
  · rw [if_pos (bI0.mpr q2), if_neg q2, if_neg (fun z => q2 z.2)]; exact ⟨_, rfl, rfl, h, Mm.rf⟩
  have y : (109 : Int32) + 109 * I (k : Int) = I ((109 + 109 * k : Nat) : Int) := by
    rw [show (109 : Int32) = I 109 from rfl, I_mul, I_add]; congr 1
  obtain ⟨C, c1, c2, c3, c4⟩ := M_copy h.1 (a := 109 + 109 * k) (b := 0) (by omega) (by omega) (by omega)
  have c1 : fX12_copy A (some m) (I ((109 + 109 * k : Nat) : Int)) 0 = some C := c1
  have hC := h.1.mw c2
  have g7 := c2.2.2.2.2.2.2.1
  obtain ⟨hb, his⟩ := (h.2.2.2.1 k (by omega)).2 q2
  rw [if_neg (fun z => bI0.mp z q2), if_pos q2, if_pos ⟨by omega, q2⟩, y, c1, bs, hC.is, bs, hC.is_l (by omega) (by omega), bs, Int.toNat_natCast, g7 _ (by omega), his, pI_ok hC.k, bs, pI_ok (hC.si).k, bs]
  refine ⟨_, rfl, rfl, ?_, (c2.mm.tr Mm.si).tr Mm.si⟩
  obtain ⟨h1, h2, ⟨h3, h4⟩, h5, h6, ⟨h7, h8⟩, h9, h10, h11⟩ := h
  dsimp only
  have hw : He (si (si C 388 m (I (sIs s k))) 387 m 0) = He C := rfl
  have hi' : ∀ f, f ≠ 387 → f ≠ 388 → Hi (si (si C 388 m (I (sIs s k))) 387 m 0) f m = Hi A f m := fun f z z2 => by rw [hi_si_ne z, hi_si_ne z2, c3]
  have hl : ∀ j, 109 ≤ j → He C (m + 1) j = He A (m + 1) j := fun j hj => by rw [c4, if_neg (by omega)]
  refine ⟨hC, ?_, ⟨hi_si, fun j hj => absurd hj (Nat.not_lt_zero j)⟩, fun i hi => ?_, ?_, ⟨?_, fun i hi => ?_⟩, ?_, ?_, fun i hi => ?_⟩
  · exact hb.cp (hk.2.2.1 k (by omega) q2).1 (fun j hj => by rw [hw, c4, if_pos (by omega)]; congr 1; omega)
  · rw [hw, g7 _ (by omega), g7 _ (by omega)]
    exact ⟨(h5 i hi).1, fun q => ⟨((h5 i hi).2 q).1.cp (hk.2.2.1 i hi q).1 (fun j hj => by rw [hw, hl _ (by omega)]), ((h5 i hi).2 q).2⟩⟩
  · rw [hi_si_ne (by decide), hi_si]; rfl
  · rw [hi' _ (by decide) (by decide)]; exact h7
  · rw [hw, g7 _ (by omega)]; exact h8 i hi
  · rw [hi' _ (by decide) (by decide)]; exact h9
  · rw [hi' _ (by decide) (by decide)]; exact h10
  · rw [hw, g7 _ (by omega), g7 _ (by omega)]; exact h11 i hi
theorem M_laysMore (h : RF A m s) (hk : StOK s) (h6 : (sSh s).1 < 6) (hn : n ≤ 16) (he : n % 2 = 0) (hc : Hi A 396 m = I n) (hD : MdS A m n D) (hb : ∀ k, k < n → D k < 1000) : ∃ r, fX12_laysMore A (some m) = some r ∧ r.1 = I (sSh s).1 ∧ RF r.2 m (addW s (wMade D n)) ∧ Mw m A r.2 := by
  obtain ⟨r, r1, r2, r3, r4, r5, r6, r7, r8⟩ := M_lays h.1 (t := (sSh s).1) h6 hn hc hD hb
  have hM' := h.1.mw r3
  have k0 : aI r.2 14 (some (m + 1)) 0 = some (I (sSh s).1) := by
    rw [L_0, hM'.w_l (by omega) (by omega), show (0 : Int).toNat = 0 from rfl, r8 0 (by omega), h.2.1.1]
  unfold fX12_laysMore
  rw [h.1.rc, bs, h.1.w, bs, h.k0, bs, r1, bs, hM'.w, bs, k0, bs]
  have s0 : sI r.2 14 (some (m + 1)) 0 (I ((sSh s).1 : Int) + 1) = some (se r.2 (m + 1) 0 (I (((sSh s).1 + 1 : Nat) : Int))) := by
    rw [L_0, hM'.w_s (by omega) (by omega), L_1, I_add, ← cst]; rfl
  have k1 : aI (se r.2 (m + 1) 0 (I (((sSh s).1 + 1 : Nat) : Int))) 14 (some (m + 1)) 0 = some (I (((sSh s).1 + 1 : Nat) : Int)) := by
    rw [L_0, (hM'.se).w_l (by omega) (by omega), show (0 : Int).toNat = 0 from rfl, he_se, if_pos rfl]
  rw [s0, bs, (hM'.se).w, bs, k1, bs]
  have gw : Mw m A (se r.2 (m + 1) 0 (I (((sSh s).1 + 1 : Nat) : Int))) := r3.tr Mw.se
  refine ⟨_, rfl, ?_, ?_, gw⟩
  · dsimp only
    rw [L_1, I_sub]
    congr 1
    omega
  · refine h.sh hk gw (by rw [hi_se, r4]) (fun j hj => ?_) ⟨?_, fun u hu => ?_⟩
    · rw [he_se, if_neg (by omega), r8 j (by omega)]
    · rw [he_se, if_pos rfl]; rfl
    · show SLt (se r.2 (m + 1) 0 (I (((sSh s).1 + 1 : Nat) : Int))) m (0 + 1 + 18 * u) (if u = s.1.1 then wMade D n else s.1.2 u)
      have hu' : u < s.1.1 + 1 := hu
      split
      · rename_i q
        subst q
        rw [Nat.zero_add]
        refine ⟨?_, ?_, fun i hi => ?_⟩
        · rw [he_se, if_neg (by omega)]; exact r5
        · rw [he_se, if_neg (by omega)]; exact r6
        · rw [he_se, if_neg (by omega)]; exact r7 i (by have : i < 2 * (n / 2) := hi; omega)
      · rename_i q
        have hu2 : u < (sSh s).1 := by show u < s.1.1; omega
        refine (h.2.1.2 u hu2).cp (hk.1.2 u hu2).1.1 (fun j j1 j2 => ?_)
        rw [he_se, if_neg (by omega)]
        refine r8 j ?_
        have : u < s.1.1 := hu2
        show ¬ (1 + 18 * s.1.1 ≤ j ∧ j < 19 + 18 * s.1.1)
        omega
/-- signs of word t are set -/
theorem RF.sgs (h : RF A m s) (hk : StOK s) (ht : t < (sSh s).1) {v : Nat} : RF (se A (m + 1) (1 + 18 * t + 1) (I v)) m (setW s t (((sSh s).2 t).1, ((sSh s).2 t).2.1, v)) := by
  have hK := hk.1.1
  refine h.sh hk Mw.se rfl (fun j hj => ?_) ⟨?_, fun u hu => ?_⟩
  · rw [he_se, if_neg (by omega)]
  · rw [he_se, if_neg (by omega)]; exact h.2.1.1
  · show SLt _ m (0 + 1 + 18 * u) (if u = t then (((sSh s).2 t).1, ((sSh s).2 t).2.1, v) else s.1.2 u)
    have hu2 : u < (sSh s).1 := hu
    split
    · rename_i q
      subst q
      obtain ⟨a1, a2, a3⟩ := h.2.1.2 u hu2
      refine ⟨?_, ?_, fun i hi => ?_⟩
      · rw [he_se, if_neg (by omega)]; exact a1
      · rw [he_se, if_pos (by omega)]
      · rw [he_se, if_neg (by omega)]; exact a3 i hi
    · rename_i q
      refine (h.2.1.2 u hu2).cp (hk.1.2 u hu2).1.1 (fun j j1 j2 => ?_)
      rw [he_se, if_neg (by omega)]
end DD
