/-! deeds of the reference: slide -/
def pl (w : Wrd) (c b : Nat) : Nat := if b = 0 then wP w c else wQ w c
abbrev slP (w : Wrd) (c d e h : Nat) : Prop := bsd w.1 (pl w c (h / 4)) (pl w d (h / 2 % 2)) ∧ bsd w.1 (pl w d (1 - h / 2 % 2)) (pl w e (h % 2)) ∧ bsd w.1 (pl w e (1 - h % 2)) (pl w c (1 - h / 4))
def wSl (w : Wrd) (c d e : Nat) : Int := frst (fun h => decide (slP w c d e h)) 8
def swp (L : Nat → Nat) (i j k : Nat) : Nat := if k = j then L i else if k = i then L j else L k
def slL (w : Wrd) (c d e h : Nat) : Nat → Nat := swp (swp (swp w.2.1 (pl w c (h / 4)) (pl w d (h / 2 % 2))) (pl w d (1 - h / 2 % 2)) (pl w e (h % 2))) (pl w e (1 - h % 2)) (pl w c (1 - h / 4))
def swx (i j k : Nat) : Nat := if k = j then i else if k = i then j else k
theorem swp_eq (L : Nat → Nat) (i j : Nat) : swp L i j = fun k => L (swx i j k) := by
  funext k
  unfold swp swx
  split
  · rfl
  · split <;> rfl
theorem swx_inv (i j k : Nat) : swx i j (swx i j k) = k := by
  unfold swx
  split <;> split <;> (try split) <;> omega
theorem swx_lt {i j k n : Nat} (hi : i < n) (hj : j < n) (hk : k < n) : swx i j k < n := by
  unfold swx
  split
  · exact hi
  · split
    · exact hj
    · exact hk
theorem VW_perm {N : Nat} {L P Q : Nat → Nat} (hV : VW N L P Q) (σ τ : Nat → Nat) (h1 : ∀ j, j < 2 * N → σ j < 2 * N ∧ τ (σ j) = j) (h2 : ∀ j, j < 2 * N → τ j < 2 * N ∧ σ (τ j) = j) (sg : Nat) : VW N (fun j => L (σ j)) (wP (N, (fun j => L (σ j)), sg)) (wQ (N, (fun j => L (σ j)), sg)) := by
  refine VW_mk hV.1 (fun i hi => (hV.2.2 _ (h1 i hi).1).1) (fun c hc => ?_) sg
  obtain ⟨a1, a2, a3, a4⟩ := hV.2.1 c hc
  have b1 := h2 (P c) (by omega)
  have b2 := h2 (Q c) a2
  have hne : τ (P c) ≠ τ (Q c) := fun e => by
    have := congrArg σ e
    rw [b1.2, b2.2] at this
    omega
  have hu : ∀ i, i < 2 * N → L (σ i) = c → i = τ (P c) ∨ i = τ (Q c) := fun i hi e => by
    have hj' := h1 i hi
    rcases (hV.2.2 (σ i) hj'.1).2 with z | z
    · left; rw [← e, ← z]; exact hj'.2.symm
    · right; rw [← e, ← z]; exact hj'.2.symm
  have v1 : L (σ (τ (P c))) = c := by rw [b1.2]; exact a3
  have v2 : L (σ (τ (Q c))) = c := by rw [b2.2]; exact a4
  rcases Nat.lt_or_gt_of_ne hne with z | z
  · exact ⟨_, _, z, b2.1, v1, v2, hu⟩
  · exact ⟨_, _, z, b1.1, v2, v1, fun i hi e => (hu i hi e).symm⟩
theorem WOK_swp {w : Wrd} (hw : WOK w) {i j : Nat} (hi : i < 2 * w.1) (hj : j < 2 * w.1) : WOK (w.1, swp w.2.1 i j, w.2.2) := by
  rw [swp_eq]
  exact ⟨VW_perm hw.1 (swx i j) (swx i j) (fun k hk => ⟨swx_lt hi hj hk, swx_inv i j k⟩) (fun k hk => ⟨swx_lt hi hj hk, swx_inv i j k⟩) _, hw.2⟩
theorem pl_lt {w : Wrd} (hw : WOK w) {c : Nat} (hc : c < w.1) (b : Nat) : pl w c b < 2 * w.1 := by
  obtain ⟨a1, a2, a3, a4⟩ := hw.1.2.1 c hc
  unfold pl
  split <;> omega
theorem slL_ok {w : Wrd} (hw : WOK w) {c d e : Nat} (hc : c < w.1) (hd : d < w.1) (he : e < w.1) (h : Nat) : WOK (w.1, slL w c d e h, w.2.2) :=
  WOK_swp (w := (w.1, swp (swp w.2.1 (pl w c (h / 4)) (pl w d (h / 2 % 2))) (pl w d (1 - h / 2 % 2)) (pl w e (h % 2)), w.2.2)) (WOK_swp (w := (w.1, swp w.2.1 (pl w c (h / 4)) (pl w d (h / 2 % 2)), w.2.2)) (WOK_swp hw (pl_lt hw hc _) (pl_lt hw hd _)) (pl_lt hw hd _) (pl_lt hw he _)) (pl_lt hw he _) (pl_lt hw hc _)
abbrev isLt (s : St) (x y : Int32) : Prop := 0 ≤ y.toInt ∧ y.toInt < ((sSh s).2 x.toInt.toNat).1
abbrev uSl (s : St) (x y z v : Int32) : Prop := (0 ≤ x.toInt ∧ x.toInt < (sSh s).1) ∧ isLt s x y ∧ isLt s x z ∧ isLt s x v ∧ y.toInt ≠ z.toInt ∧ y.toInt ≠ v.toInt ∧ z.toInt ≠ v.toInt
def xSl (s : St) (x y z v : Int32) : Int := wSl ((sSh s).2 x.toInt.toNat) y.toInt.toNat z.toInt.toNat v.toInt.toNat
def eSl (s : St) (x y z v : Int32) : St := if uSl s x y z v ∧ xSl s x y z v ≠ -1 then reW s x.toInt.toNat (tD ((sSh s).2 x.toInt.toNat).1 (slL ((sSh s).2 x.toInt.toNat) y.toInt.toNat z.toInt.toNat v.toInt.toNat (xSl s x y z v).toNat) 0) (2 * ((sSh s).2 x.toInt.toNat).1) else s
def oSl (s : St) (x y z v : Int32) : Int32 := if uSl s x y z v then (if xSl s x y z v = -1 then -1000000003 else I (xSl s x y z v)) else -1000000001
section DD
variable {A : AH} {m t n : Nat} {s : St} {l : List Nat}
theorem eSl_ok (hk : StOK s) (x y z v : Int32) : StOK (eSl s x y z v) := by
  unfold eSl
  split
  · rename_i q
    obtain ⟨⟨q1, q2, q3, q4, -⟩, -⟩ := q
    have hw := hk.1.2 x.toInt.toNat (by omega)
    have h2 := hw.1.1
    have h3 := slL_ok hw (c := y.toInt.toNat) (d := z.toInt.toNat) (e := v.toInt.toNat) (by omega) (by omega) (by omega) (xSl s x y z v).toNat
    refine reW_ok hk (by omega) ?_
    by_cases h0 : ((sSh s).2 x.toInt.toNat).1 = 0
    · rw [h0]; intro i hi; omega
    · exact tD_dbl h3.1 (by show 0 < 4 * ((sSh s).2 x.toInt.toNat).1; omega)
  · exact hk
theorem setW_2 (s : St) (t : Nat) (v w : Wrd) : setW (setW s t v) t w = setW s t w := by
  unfold setW
  dsimp only
  congr 2
  funext u
  split <;> rfl
theorem setW_g (s : St) (t : Nat) (w : Wrd) : (sSh (setW s t w)).2 t = w := if_pos rfl
theorem M_swaps (h : RF A m s) (hk : StOK s) (ht : t < (sSh s).1) {i j : Nat} (hi : i < 2 * ((sSh s).2 t).1) (hj : j < 2 * ((sSh s).2 t).1) : ∃ A', fX12_swaps A (some m) (I t) (I i) (I j) = some A' ∧ RF A' m (setW s t (((sSh s).2 t).1, swp ((sSh s).2 t).2.1 i j, ((sSh s).2 t).2.2)) ∧ Mm m A A' := by
  have hK := hk.1.1
  have hN := (hk.vw ht).1
  have hM := h.1
  obtain ⟨a1, a2, a3⟩ := h.2.1.2 t ht
  have x1 : (1 : Int32) + 18 * I (t : Int) + 2 = I ((1 + 18 * t + 2 : Nat) : Int) := by rw [L_1, L_2, show (18 : Int32) = I 18 from rfl, I_mul, I_add, I_add]; congr 1
  have v1 : He A (m + 1) (1 + 18 * t + 2 + i) = I (((sSh s).2 t).2.1 i) := by have := a3 i hi; rw [show 0 + 1 + 18 * t + 2 + i = 1 + 18 * t + 2 + i by omega] at this; exact this
  have v2 : He A (m + 1) (1 + 18 * t + 2 + j) = I (((sSh s).2 t).2.1 j) := by have := a3 j hj; rw [show 0 + 1 + 18 * t + 2 + j = 1 + 18 * t + 2 + j by omega] at this; exact this
  unfold fX12_swaps
  rw [hM.rc, bs, hM.w, bs, x1, I_add, I_add, hM.w_l (by omega) (by omega), bs, bs, bs, hM.w_l (by omega) (by omega), bs, hM.w_s (by omega) (by omega), bs, (hM.se).w, bs, (hM.se).w_s (by omega) (by omega), bs]
  rw [show (((1 + 18 * t + 2 : Nat) : Int) + (i : Int)).toNat = 1 + 18 * t + 2 + i by omega, show (((1 + 18 * t + 2 : Nat) : Int) + (j : Int)).toNat = 1 + 18 * t + 2 + j by omega, v1, v2]
  refine ⟨_, rfl, ?_, (Mm.se (j := 1) (by omega)).tr (Mm.se (j := 1) (by omega))⟩
  refine h.sh hk (Mw.se.tr Mw.se) rfl (fun k hk => ?_) ⟨?_, fun u hu => ?_⟩
  · rw [he_se, if_neg (by omega), he_se, if_neg (by omega)]
  · rw [he_se, if_neg (by omega), he_se, if_neg (by omega)]; exact h.2.1.1
  · have hu2 : u < (sSh s).1 := hu
    show SLt _ m (0 + 1 + 18 * u) (if u = t then (((sSh s).2 t).1, swp ((sSh s).2 t).2.1 i j, ((sSh s).2 t).2.2) else s.1.2 u)
    split
    · rename_i q
      subst q
      refine ⟨?_, ?_, fun k hk => ?_⟩
      · rw [he_se, if_neg (by omega), he_se, if_neg (by omega)]; exact a1
      · rw [he_se, if_neg (by omega), he_se, if_neg (by omega)]; exact a2
      · rw [he_se, he_se]
        show _ = I ((swp ((sSh s).2 u).2.1 i j k : Nat) : Int)
        unfold swp
        by_cases z1 : k = j
        · rw [if_pos (by omega), if_pos z1]
        · rw [if_neg (by omega), if_neg z1]
          by_cases z2 : k = i
          · rw [if_pos (by omega), if_pos z2]
          · rw [if_neg (by omega), if_neg z2]; exact a3 k hk
    · rename_i q
      refine (h.2.1.2 u hu2).cp (hk.1.2 u hu2).1.1 (fun k k1 k2 => ?_)
      rw [he_se, if_neg (by omega), he_se, if_neg (by omega)]
theorem M_pl (h : RF A m s) (hk : StOK s) (ht : t < (sSh s).1) {c b : Nat} (hc : c < ((sSh s).2 t).1) (hb : b < 2) : fX12_place A (some m) (I t) (I c) (I b) = some (I (pl ((sSh s).2 t) c b)) := by
  unfold pl
  by_cases q : b = 0
  · subst q; rw [if_pos rfl]; exact M_pl0 h.1 (h.we hk ht) (hk.vw ht) hc
  · have : b = 1 := by omega
    subst this; rw [if_neg q]; exact M_pl1 h.1 (h.we hk ht) (hk.vw ht) hc
theorem M_slid (h : RF A m s) (hk : StOK s) (ht : t < (sSh s).1) {c d e w : Nat} (hc : c < ((sSh s).2 t).1) (hd : d < ((sSh s).2 t).1) (he : e < ((sSh s).2 t).1) : ∃ r, ((fX12_minds A (some m)).bind fun r22 => (fX12_swaps r22 (some m) (I t) (I (pl ((sSh s).2 t) c (w / 4))) (I (pl ((sSh s).2 t) d (w / 2 % 2)))).bind fun r23 => (fX12_swaps r23 (some m) (I t) (I (pl ((sSh s).2 t) d (1 - w / 2 % 2))) (I (pl ((sSh s).2 t) e (w % 2)))).bind fun r24 => (fX12_swaps r24 (some m) (I t) (I (pl ((sSh s).2 t) e (1 - w % 2))) (I (pl ((sSh s).2 t) c (1 - w / 4)))).bind fun r25 => (fX12_turned r25 (some m) (I t) 0 0).bind fun r26 => (fX12_lays r26 (some m) (I t)).bind fun r27 => (some (.inr (.inr (I w, r27.2))) : Option ((Int32 × AH) ⊕ (AH ⊕ (Int32 × AH))))) = some (.inr (.inr (I w, r))) ∧ RF r m (reW s t (tD ((sSh s).2 t).1 (slL ((sSh s).2 t) c d e w) 0) (2 * ((sSh s).2 t).1)) ∧ Mm m A r := by
  have hw := hk.1.2 t ht
  have hN := hw.1.1
  obtain ⟨B, b1, b2, b3⟩ := M_minds h hk
  have hk1 := stMind_ok hk
  obtain ⟨C, c1, c2, c3⟩ := M_swaps b2 hk1 (t := t) ht (i := pl ((sSh s).2 t) c (w / 4)) (j := pl ((sSh s).2 t) d (w / 2 % 2)) (pl_lt hw hc _) (pl_lt hw hd _)
  have w1 := WOK_swp hw (pl_lt hw hc (w / 4)) (pl_lt hw hd (w / 2 % 2))
  have hk2 : StOK (setW (stMind s) t (((sSh s).2 t).1, swp ((sSh s).2 t).2.1 (pl ((sSh s).2 t) c (w / 4)) (pl ((sSh s).2 t) d (w / 2 % 2)), ((sSh s).2 t).2.2)) := setW_ok hk1 w1
  obtain ⟨D, d1, d2, d3⟩ := M_swaps c2 hk2 (t := t) ht (i := pl ((sSh s).2 t) d (1 - w / 2 % 2)) (j := pl ((sSh s).2 t) e (w % 2)) (by rw [setW_g]; exact pl_lt hw hd _) (by rw [setW_g]; exact pl_lt hw he _)
  rw [setW_g, setW_2] at d2
  have w2 := WOK_swp w1 (i := pl ((sSh s).2 t) d (1 - w / 2 % 2)) (j := pl ((sSh s).2 t) e (w % 2)) (pl_lt hw hd _) (pl_lt hw he _)
  have hk3 := setW_ok (t := t) hk1 w2
  obtain ⟨E, e1, e2, e3⟩ := M_swaps d2 hk3 (t := t) ht (i := pl ((sSh s).2 t) e (1 - w % 2)) (j := pl ((sSh s).2 t) c (1 - w / 4)) (by rw [setW_g]; exact pl_lt hw he _) (by rw [setW_g]; exact pl_lt hw hc _)
  rw [setW_g, setW_2] at e2
  have e2 : RF E m (setW (stMind s) t (((sSh s).2 t).1, slL ((sSh s).2 t) c d e w, ((sSh s).2 t).2.2)) := e2
  have w3 := slL_ok hw hc hd he w
  have hk4 := setW_ok (t := t) hk1 w3
  have hwe := e2.we hk4 (t := t) ht
  rw [setW_g] at hwe
  obtain ⟨F, f1, f2, f3, f4⟩ := M_turned e2.1 hwe (v := 0) (by show 0 < 4 * ((sSh s).2 t).1; omega)
  have f1 : fX12_turned E (some m) (I t) 0 0 = some F := f1
  have hb : ∀ k, k < 2 * ((sSh s).2 t).1 → tD ((sSh s).2 t).1 (slL ((sSh s).2 t) c d e w) 0 k < 1000 := fun k hk => by
    unfold tD
    rw [if_neg (by decide)]
    have := (w3.1.2.2 ((0 / 2 + k) % (2 * ((sSh s).2 t).1)) (Nat.mod_lt _ (by omega))).1
    have : slL ((sSh s).2 t) c d e w ((0 / 2 + k) % (2 * ((sSh s).2 t).1)) < ((sSh s).2 t).1 := this
    omega
  obtain ⟨r, r1, r2, r3, r4⟩ := M_laysW (e2.ms f2.1) hk4 (t := t) ht (n := 2 * ((sSh s).2 t).1) (by omega) (by omega) f3 f4 hb
  rw [setW_2] at r3
  rw [b1, bs, c1, bs, d1, bs, e1, bs, f1, bs, r1, bs]
  exact ⟨_, rfl, r3, ((((b3.mm.tr c3).tr d3).tr e3).tr f2.1.mm).tr r4.mm⟩
theorem M_slide (h : RF A m s) (hk : StOK s) (x y z v : Int32) : ∃ r, fX12_slide A (some m) x y z v = some r ∧ r.1 = oSl s x y z v ∧ RF r.2 m (eSl s x y z v) ∧ Mm m A r.2 := by
  unfold fX12_slide oSl eSl
  rw [h.1.rc, bs, M_isW h hk x, bs]
  by_cases q : 0 ≤ x.toInt ∧ x.toInt < (sSh s).1
  rotate_left
  · rw [if_pos (bI0.mpr q), if_neg (fun z => q z.1), if_neg (fun z => q z.1.1)]; exact ⟨_, rfl, rfl, h, Mm.rf⟩
  obtain ⟨t, ht, t2⟩ := wz q
  have hx : x = I (t : Int) := lit_eq t2
  have hw := hk.1.2 t ht
  have hV := hk.vw ht
  have hN := hV.1
  have hW := h.we hk ht
  unfold uSl isLt xSl
  rw [if_neg (fun z => bI0.mp z q), t2, Int.toNat_natCast, hx, M_isL h hk ht y, bs]
  by_cases q2 : 0 ≤ y.toInt ∧ y.toInt < ((sSh s).2 t).1
  rotate_left
  · rw [if_pos (bI0.mpr q2), if_neg (fun z => q2 z.2.1), if_neg (fun z => q2 z.1.2.1)]; exact ⟨_, rfl, rfl, h, Mm.rf⟩
  rw [if_neg (fun z => bI0.mp z q2), M_isL h hk ht z, bs]
  by_cases q3 : 0 ≤ z.toInt ∧ z.toInt < ((sSh s).2 t).1
  rotate_left
  · rw [if_pos (bI0.mpr q3), if_neg (fun z => q3 z.2.2.1), if_neg (fun z => q3 z.1.2.2.1)]; exact ⟨_, rfl, rfl, h, Mm.rf⟩
  rw [if_neg (fun z => bI0.mp z q3), M_isL h hk ht v, bs]
  by_cases q4 : 0 ≤ v.toInt ∧ v.toInt < ((sSh s).2 t).1
  rotate_left
  · rw [if_pos (bI0.mpr q4), if_neg (fun z => q4 z.2.2.2.1), if_neg (fun z => q4 z.1.2.2.2.1)]; exact ⟨_, rfl, rfl, h, Mm.rf⟩
  rw [if_neg (fun z => bI0.mp z q4)]
  by_cases q5 : y.toInt = z.toInt
  · rw [if_pos (Int32.toInt_inj.mp q5), if_neg (fun z => z.2.2.2.2.1 q5), if_neg (fun z => z.1.2.2.2.2.1 q5)]; exact ⟨_, rfl, rfl, h, Mm.rf⟩
  rw [if_neg (fun e => q5 (by rw [e]))]
  by_cases q6 : y.toInt = v.toInt
  · rw [if_pos (Int32.toInt_inj.mp q6), if_neg (fun z => z.2.2.2.2.2.1 q6), if_neg (fun z => z.1.2.2.2.2.2.1 q6)]; exact ⟨_, rfl, rfl, h, Mm.rf⟩
  rw [if_neg (fun e => q6 (by rw [e]))]
  by_cases q7 : z.toInt = v.toInt
  · rw [if_pos (Int32.toInt_inj.mp q7), if_neg (fun z => z.2.2.2.2.2.2 q7), if_neg (fun z => z.1.2.2.2.2.2.2 q7)]; exact ⟨_, rfl, rfl, h, Mm.rf⟩
  rw [if_neg (fun e => q7 (by rw [e]))]
  obtain ⟨c, hc, c2⟩ := wz q2
  have hy : y = I (c : Int) := lit_eq c2
  obtain ⟨d, hd, d2⟩ := wz q3
  have hz : z = I (d : Int) := lit_eq d2
  obtain ⟨e, he, e2⟩ := wz q4
  have hv : v = I (e : Int) := lit_eq e2
  rw [c2, d2, e2, Int.toNat_natCast, Int.toNat_natCast, Int.toNat_natCast, hy, hz, hv]
  have q8 : (0 ≤ (t : Int) ∧ (t : Int) < (sSh s).1) ∧ (0 ≤ (c : Int) ∧ (c : Int) < ((sSh s).2 t).1) ∧ (0 ≤ (d : Int) ∧ (d : Int) < ((sSh s).2 t).1) ∧ (0 ≤ (e : Int) ∧ (e : Int) < ((sSh s).2 t).1) ∧ (c : Int) ≠ (d : Int) ∧ (c : Int) ≠ (e : Int) ∧ (d : Int) ≠ (e : Int) := ⟨by omega, by omega, by omega, by omega, by omega, by omega, by omega⟩
  rw [if_pos q8]
  refine srch_eb 8 (fun j u => u = (I (j : Int), A) ∧ anyB (fun g => decide (slP ((sSh s).2 t) c d e g)) j = false) (fun u => (u = .inl A ∧ wSl ((sSh s).2 t) c d e = -1) ∨ ∃ (g : Nat) (r : AH), u = .inr (I g, r) ∧ wSl ((sSh s).2 t) c d e = g ∧ RF r m (reW s t (tD ((sSh s).2 t).1 (slL ((sSh s).2 t) c d e g) 0) (2 * ((sSh s).2 t).1)) ∧ Mm m A r) ⟨rfl, rfl⟩ ?_ ?_ ?_
  · rintro j ⟨u1, u2⟩ hj ⟨eu, g1⟩
    obtain ⟨rfl, rfl⟩ : I (j : Int) = u1 ∧ A = u2 := by injection eu with a b; exact ⟨a.symm, b.symm⟩
    dsimp only
    have n4 : dvI (I (j : Int)) 4 = some (I ((j / 4 : Nat) : Int)) := by rw [L_4, I_div (by omega) (by omega) (by omega) (by omega)]; rfl
    have n2 : dvI (I (j : Int)) 2 = some (I ((j / 2 : Nat) : Int)) := by rw [L_2, I_div (by omega) (by omega) (by omega) (by omega)]; rfl
    have o1 : ∀ b : Nat, b < 2 → (1 : Int32) - I (b : Int) = I ((1 - b : Nat) : Int) := fun b hb => by rw [L_1, I_sub]; congr 1; omega
    have hj4 : j / 4 < 2 := by omega
    have hj2 : j / 2 % 2 < 2 := by omega
    have hj1 : j % 2 < 2 := by omega
    rw [if_neg (show ¬ (8 : Int32) ≤ I (j : Int) from le_n (a := 8) (by omega)), n4, bs, n2, bs, I_m2 (by omega), bs, I_m2 (by omega), bs, M_pl h hk ht hc hj4, bs, M_pl h hk ht hd hj2, bs, o1 _ hj2, M_pl h hk ht hd (by omega), bs, M_pl h hk ht he hj1, bs, o1 _ hj1, M_pl h hk ht he (by omega), bs, o1 _ hj4, M_pl h hk ht hc (by omega), bs]
    rw [M_areBeside h.1 hW (pl_lt hw hc _) (pl_lt hw hd _), bs, jp_eq]
    have no : ¬ slP ((sSh s).2 t) c d e j → ∃ s', (some (.inl (I (j : Int) + 1, A)) : Option ((Int32 × AH) ⊕ (AH ⊕ (Int32 × AH)))) = some (.inl s') ∧ s' = (I ((j + 1 : Nat) : Int), A) ∧ anyB (fun g => decide (slP ((sSh s).2 t) c d e g)) (j + 1) = false := fun hn => by
      refine ⟨_, rfl, by rw [L_1, I_add, ← cst], ?_⟩
      show (anyB (fun g => decide (slP ((sSh s).2 t) c d e g)) j || decide (slP ((sSh s).2 t) c d e j)) = false
      rw [g1, decide_eq_false hn]; rfl
    by_cases f1 : bsd ((sSh s).2 t).1 (pl ((sSh s).2 t) c (j / 4)) (pl ((sSh s).2 t) d (j / 2 % 2))
    rotate_left
    · rw [if_pos (bI0.mpr f1)]; exact Or.inl (no (fun z => f1 z.1))
    rw [if_neg (fun z => bI0.mp z f1), M_areBeside h.1 hW (pl_lt hw hd _) (pl_lt hw he _), bs]
    by_cases f2 : bsd ((sSh s).2 t).1 (pl ((sSh s).2 t) d (1 - j / 2 % 2)) (pl ((sSh s).2 t) e (j % 2))
    rotate_left
    · rw [if_pos (bI0.mpr f2)]; exact Or.inl (no (fun z => f2 z.2.1))
    rw [if_neg (fun z => bI0.mp z f2), M_areBeside h.1 hW (pl_lt hw he _) (pl_lt hw hc _), bs]
    by_cases f3 : bsd ((sSh s).2 t).1 (pl ((sSh s).2 t) e (1 - j % 2)) (pl ((sSh s).2 t) c (1 - j / 4))
    rotate_left
    · rw [if_pos (bI0.mpr f3)]; exact Or.inl (no (fun z => f3 z.2.2))
    right
    obtain ⟨r, r1, r2, r3⟩ := M_slid h hk ht hc hd he (w := j)
    rw [if_neg (fun z => bI0.mp z f3), r1]
    have hfr := frst_y (f := fun g => decide (slP ((sSh s).2 t) c d e g)) (e := j) g1 (decide_eq_true ⟨f1, f2, f3⟩) (8 - (j + 1))
    rw [show j + 1 + (8 - (j + 1)) = 8 by omega] at hfr
    exact ⟨_, rfl, Or.inr ⟨j, r, rfl, hfr, r2, r3⟩⟩
  · rintro ⟨u1, u2⟩ ⟨eu, g1⟩
    obtain ⟨rfl, rfl⟩ : I ((8 : Nat) : Int) = u1 ∧ A = u2 := by injection eu with a b; exact ⟨a.symm, b.symm⟩
    exact ⟨.inl A, rfl, Or.inl ⟨rfl, frst_n g1⟩⟩
  · rintro u (⟨rfl, h1⟩ | ⟨g, r, rfl, h1, h2, h3⟩)
    · refine ⟨_, rfl, ?_, ?_, Mm.rf⟩
      · rw [if_pos h1]
      · rw [if_neg (fun z => z.2 h1)]; exact h
    · refine ⟨_, rfl, ?_, ?_, h3⟩
      · rw [h1, if_neg (by omega)]
      · rw [h1, if_pos ⟨q8, by omega⟩, Int.toNat_natCast]; exact h2
end DD
