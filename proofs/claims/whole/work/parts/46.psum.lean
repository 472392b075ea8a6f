/-! deeds of the reference: sum -/
def apx (l : List Nat) (f : Nat → Nat) : Nat → List Nat
  | 0 => l
  | i + 1 => apx l f i ++ [f i]
theorem apx_len (l : List Nat) (f : Nat → Nat) : ∀ i, (apx l f i).length = l.length + i
  | 0 => rfl
  | i + 1 => by
    show (apx l f i ++ [f i]).length = _
    rw [List.length_append, apx_len l f i]; show _ + 1 = _; omega
theorem apx_oc (l : List Nat) (f : Nat → Nat) (v : Nat) : ∀ i, oc (apx l f i) v = oc l v + occ f v i
  | 0 => rfl
  | i + 1 => by
    show oc (apx l f i ++ [f i]) v = oc l v + (occ f v i + (if f i = v then 1 else 0))
    rw [oc_app, apx_oc l f v i]; omega
theorem apx_b {l : List Nat} {f : Nat → Nat} {K : Nat} (hl : ∀ v ∈ l, v < K) : ∀ {n : Nat}, (∀ i, i < n → f i < K) → ∀ v ∈ apx l f n, v < K
  | 0, _, v, hv => hl v hv
  | n + 1, h, v, hv => by
    have hv : v ∈ apx l f n ++ [f n] := hv
    rcases List.mem_append.mp hv with z | z
    · exact apx_b hl (fun i hi => h i (by omega)) v z
    · rw [List.mem_singleton] at z
      rw [z]
      exact h n (by omega)
theorem occ_sh (f : Nat → Nat) (k v : Nat) : ∀ n, occ (fun i => k + f i) v n = if k ≤ v then occ f (v - k) n else 0
  | 0 => by show 0 = _; split <;> rfl
  | n + 1 => by
    show occ (fun i => k + f i) v n + (if k + f n = v then 1 else 0) = if k ≤ v then occ f (v - k) n + (if f n = v - k then 1 else 0) else 0
    rw [occ_sh f k v n]
    by_cases q : k ≤ v
    · rw [if_pos q, if_pos q]
      by_cases z : k + f n = v
      · rw [if_pos z, if_pos (by omega)]
      · rw [if_neg z, if_neg (by omega)]
    · rw [if_neg q, if_neg q, if_neg (by omega)]
def smL (v w : Wrd) : List Nat := apx (apx [] v.2.1 (2 * v.1)) (fun i => 20 + w.2.1 i) (2 * w.1)
theorem smL_len (v w : Wrd) : (smL v w).length = 2 * v.1 + 2 * w.1 := by
  unfold smL
  rw [apx_len, apx_len]; simp
theorem smL_dbl {v w : Wrd} (hv : WOK v) (hw : WOK w) : Dbl (lD (smL v w)) (smL v w).length :=
  Dbl_oc fun c => by
    unfold smL
    have := hv.1.1
    have := hw.1.1
    rw [apx_oc, apx_oc, oc_nil, VW_occ hv.1, occ_sh, VW_occ hw.1]
    split <;> split <;> (try split) <;> omega
abbrev wIn (s : St) (x : Int32) : Prop := 0 ≤ x.toInt ∧ x.toInt < (sSh s).1
abbrev sW (s : St) (x : Int32) : Wrd := (sSh s).2 x.toInt.toNat
def eSum (s : St) (x y : Int32) : St := if (wIn s x ∧ wIn s y) ∧ ¬ (8 < (sW s x).1 + (sW s y).1 ∨ (sSh s).1 = 6) then addW (stMind s) (wMade (lD (smL (sW s x) (sW s y))) (smL (sW s x) (sW s y)).length) else s
def oSum (s : St) (x y : Int32) : Int32 := if wIn s x ∧ wIn s y then (if 8 < (sW s x).1 + (sW s y).1 ∨ (sSh s).1 = 6 then -1000000004 else I (sSh s).1) else -1000000001
section DD
variable {A : AH} {m t n : Nat} {s : St} {l : List Nat}
theorem eSum_ok (hk : StOK s) (x y : Int32) : StOK (eSum s x y) := by
  unfold eSum
  split
  · rename_i q
    have h1 := hk.1.2 x.toInt.toNat (by have := q.1.1; omega)
    have h2 := hk.1.2 y.toInt.toNat (by have := q.1.2; omega)
    have h3 := hk.1.1
    refine addW_ok (stMind_ok hk) (wMade_ok ?_ (smL_dbl h1 h2)) (by rw [stMind_sh]; omega)
    rw [smL_len]
    have : ¬ 8 < ((sSh s).2 x.toInt.toNat).1 + ((sSh s).2 y.toInt.toNat).1 := fun z => q.2 (Or.inl z)
    show 2 * ((sSh s).2 x.toInt.toNat).1 + 2 * ((sSh s).2 y.toInt.toNat).1 ≤ 16
    omega
  · exact hk
theorem M_sum (h : RF A m s) (hk : StOK s) (x y : Int32) : ∃ r, fX12_sum A (some m) x y = some r ∧ r.1 = oSum s x y ∧ RF r.2 m (eSum s x y) ∧ Mm m A r.2 := by
  unfold fX12_sum oSum eSum
  rw [h.1.rc, bs, M_isW h hk x, bs]
  by_cases q : 0 ≤ x.toInt ∧ x.toInt < (sSh s).1
  rotate_left
  · rw [if_pos (bI0.mpr q), if_neg (fun z => q z.1), if_neg (fun z => q z.1.1)]; exact ⟨_, rfl, rfl, h, Mm.rf⟩
  rw [if_neg (fun z => bI0.mp z q), M_isW h hk y, bs]
  by_cases q2 : 0 ≤ y.toInt ∧ y.toInt < (sSh s).1
  rotate_left
  · rw [if_pos (bI0.mpr q2), if_neg (fun z => q2 z.2), if_neg (fun z => q2 z.1.2)]; exact ⟨_, rfl, rfl, h, Mm.rf⟩
  have hin : wIn s x ∧ wIn s y := ⟨q, q2⟩
  obtain ⟨t, ht, t2⟩ := wz q
  have hx : x = I (t : Int) := lit_eq t2
  obtain ⟨u, hu, u2⟩ := wz q2
  have hy : y = I (u : Int) := lit_eq u2
  have ex : sW s x = (sSh s).2 t := by unfold sW; rw [t2, Int.toNat_natCast]
  have ey : sW s y = (sSh s).2 u := by unfold sW; rw [u2, Int.toNat_natCast]
  have hVt := hk.vw ht
  have hVu := hk.vw hu
  have hNt := hVt.1
  have hNu := hVu.1
  have hK := hk.1.1
  rw [if_neg (fun z => bI0.mp z q2), if_pos hin, ex, ey, hx, hy, M_size h.1 (h.we hk ht), bs, M_size h.1 (h.we hk hu), bs, I_add]
  by_cases q3 : 8 < ((sSh s).2 t).1 + ((sSh s).2 u).1
  · rw [if_pos (show (8 : Int32) < _ from lt_y (a := 8) (by omega)), if_pos (Or.inl q3), if_neg (fun z => z.2 (Or.inl q3))]; exact ⟨_, rfl, rfl, h, Mm.rf⟩
  rw [if_neg (show ¬ (8 : Int32) < _ from lt_n (a := 8) (by omega)), h.1.w, bs, h.k0, bs]
  by_cases q4 : (sSh s).1 = 6
  · rw [if_pos (by rw [q4]; rfl), if_pos (Or.inr q4), if_neg (fun z => z.2 (Or.inr q4))]; exact ⟨_, rfl, rfl, h, Mm.rf⟩
  have q5 : ¬ (8 < ((sSh s).2 t).1 + ((sSh s).2 u).1 ∨ (sSh s).1 = 6) := fun z => z.elim q3 q4
  obtain ⟨B, b1, b2, b3⟩ := M_minds h hk
  have hk' := stMind_ok hk
  have e2 : ∀ w : Wrd, (2 : Int32) * I (w.1 : Int) = I ((2 * w.1 : Nat) : Int) := fun w => by rw [L_2, I_mul]; congr 1
  rw [if_neg (show ¬ I ((sSh s).1 : Int) = 6 from eq_n (b := 6) (by omega)), if_neg q5, if_pos ⟨by rw [← hx, ← hy]; exact hin, q5⟩, b1, bs, pI_ok b2.1.k, bs]
  refine for_eb2 (2 * ((sSh s).2 t).1) (fun i w => w.1 = I i ∧ Ms m B w.2 ∧ MdL w.2 m (apx [] ((sSh s).2 t).2.1 i)) (fun C => Ms m B C ∧ MdL C m (apx [] ((sSh s).2 t).2.1 (2 * ((sSh s).2 t).1))) ⟨rfl, Ms.si (by omega), MdL.nil⟩ ?_ ?_ ?_
  · rintro i ⟨w1, w2⟩ hi ⟨e1, g1, g2⟩
    dsimp only at e1 g1 g2 ⊢
    subst e1
    have h' := b2.ms g1
    have hW := h'.we hk' (t := t) ht
    obtain ⟨C, c1, c2, c3⟩ := M_comesL h'.1 g2 (by rw [apx_len]; simp; omega) (((sSh s).2 t).2.1 i)
    rw [M_size h'.1 hW, bs, e2, if_neg (le_n (by rw [stMind_sh]; omega)), M_letterAt h'.1 hW hi, bs]
    have c1 : fX12_comes w2 (some m) (I (((sSh (stMind s)).2 t).2.1 i)) = some C := c1
    rw [c1, bs]
    exact ⟨_, rfl, _, rfl, by dsimp only; rw [L_1, I_add, ← cst], g1.tr c2.1, c3⟩
  · rintro ⟨w1, w2⟩ ⟨e1, g1, g2⟩
    dsimp only at e1 g1 g2 ⊢
    subst e1
    have h' := b2.ms g1
    exact ⟨w2, by rw [M_size h'.1 (h'.we hk' (t := t) ht), bs, e2, if_pos (le_y (by rw [stMind_sh]; omega))], g1, g2⟩
  · rintro C ⟨g1, g2⟩
    refine for_eb2 (2 * ((sSh s).2 u).1) (fun i w => w.1 = I i ∧ Ms m B w.2 ∧ MdL w.2 m (apx (apx [] ((sSh s).2 t).2.1 (2 * ((sSh s).2 t).1)) (fun i => 20 + ((sSh s).2 u).2.1 i) i)) (fun C => Ms m B C ∧ MdL C m (smL ((sSh s).2 t) ((sSh s).2 u))) ⟨rfl, g1, g2⟩ ?_ ?_ ?_
    · rintro i ⟨w1, w2⟩ hi ⟨e1, g1, g2⟩
      dsimp only at e1 g1 g2 ⊢
      subst e1
      have h' := b2.ms g1
      have hW := h'.we hk' (t := u) hu
      obtain ⟨C, c1, c2, c3⟩ := M_comesL h'.1 g2 (by rw [apx_len, apx_len]; simp; omega) (20 + ((sSh s).2 u).2.1 i)
      rw [M_size h'.1 hW, bs, e2, if_neg (le_n (by rw [stMind_sh]; omega)), M_letterAt h'.1 hW hi, bs]
      have ev : (20 : Int32) + I ((((sSh (stMind s)).2 u).2.1 i : Nat) : Int) = I ((20 + ((sSh s).2 u).2.1 i : Nat) : Int) := by
        rw [L_20, I_add]; congr 1
      rw [ev, c1, bs]
      exact ⟨_, rfl, _, rfl, by dsimp only; rw [L_1, I_add, ← cst], g1.tr c2.1, c3⟩
    · rintro ⟨w1, w2⟩ ⟨e1, g1, g2⟩
      dsimp only at e1 g1 g2 ⊢
      subst e1
      have h' := b2.ms g1
      exact ⟨w2, by rw [M_size h'.1 (h'.we hk' (t := u) hu), bs, e2, if_pos (le_y (by rw [stMind_sh]; omega))], g1, g2⟩
    · rintro C ⟨g1, g2⟩
      have h' := b2.ms g1
      have hd := smL_dbl (hk.1.2 t ht) (hk.1.2 u hu)
      have hlen := smL_len ((sSh s).2 t) ((sSh s).2 u)
      have hb : ∀ v ∈ smL ((sSh s).2 t) ((sSh s).2 u), v < 1000 := apx_b (apx_b (fun v hv => by cases hv) (fun i hi => by have := (hVt.2.2 i hi).1; omega)) (fun i hi => by have := (hVu.2.2 i hi).1; omega)
      obtain ⟨r, r1, r2, r3, r4⟩ := M_laysMore h' hk' (by rw [stMind_sh]; omega) (n := (smL ((sSh s).2 t) ((sSh s).2 u)).length) (by omega) (by omega) g2.1 g2.2 (lD_b hb)
      rw [r1, bs]
      exact ⟨_, rfl, r2, r3, (b3.mm.tr g1.mm).tr r4.mm⟩
end DD
