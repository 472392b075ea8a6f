/-! deeds of the reference: without, untwist -/
def woL (L : Nat → Nat) (c d : Nat) : Nat → List Nat
  | 0 => []
  | i + 1 => if L i = c ∨ L i = d then woL L c d i else woL L c d i ++ [L i]
theorem woL_len (L : Nat → Nat) (c d : Nat) : ∀ i, (woL L c d i).length ≤ i
  | 0 => Nat.le_refl _
  | i + 1 => by
    have := woL_len L c d i
    unfold woL
    split
    · omega
    · rw [List.length_append]; show _ + 1 ≤ _; omega
theorem woL_oc (L : Nat → Nat) (c d v : Nat) : ∀ i, oc (woL L c d i) v = if v = c ∨ v = d then 0 else occ L v i
  | 0 => by show oc [] v = _; rw [oc_nil]; split <;> rfl
  | i + 1 => by
    have ih := woL_oc L c d v i
    show oc (if L i = c ∨ L i = d then woL L c d i else woL L c d i ++ [L i]) v = if v = c ∨ v = d then 0 else occ L v i + (if L i = v then 1 else 0)
    by_cases q : L i = c ∨ L i = d
    · rw [if_pos q, ih]
      by_cases z : v = c ∨ v = d
      · rw [if_pos z, if_pos z]
      · rw [if_neg z, if_neg z, if_neg (fun e => z (by rw [← e]; exact q))]
        rfl
    · rw [if_neg q, oc_app, ih]
      by_cases z : v = c ∨ v = d
      · rw [if_pos z, if_pos z, if_neg (fun e => q (by rw [e]; exact z))]
      · rw [if_neg z, if_neg z]
theorem VW_occ {N : Nat} {L P Q : Nat → Nat} (hV : VW N L P Q) (v : Nat) : occ L v (2 * N) = if v < N then 2 else 0 := by
  by_cases q : v < N
  · obtain ⟨a1, a2, a3, a4⟩ := hV.2.1 v q
    rw [if_pos q, occ_two' (p := P v) (q := Q v) (by omega) a3 a4 (by omega) a2 (fun i hi e => by have := (hV.2.2 i hi).2; rw [e] at this; exact this)]
  · rw [if_neg q]
    have : ∀ n, n ≤ 2 * N → occ L v n = 0 := by
      intro n
      induction n with
      | zero => intro _; rfl
      | succ n ih =>
        intro hn
        show occ L v n + (if L n = v then 1 else 0) = 0
        rw [ih (by omega), if_neg (fun e => q (by rw [← e]; exact (hV.2.2 n (by omega)).1))]
    exact this _ (Nat.le_refl _)
theorem woL_dbl {N : Nat} {L P Q : Nat → Nat} (hV : VW N L P Q) (c d : Nat) : Dbl (lD (woL L c d (2 * N))) (woL L c d (2 * N)).length :=
  Dbl_oc fun v => by
    rw [woL_oc, VW_occ hV]
    split
    · exact Or.inl rfl
    · split
      · exact Or.inr rfl
      · exact Or.inl rfl
theorem lD_b {l : List Nat} {K : Nat} (h : ∀ v ∈ l, v < K) : ∀ k, k < l.length → lD l k < K := fun k hk => by
  unfold lD
  rw [List.getD_eq_getElem?_getD, List.getElem?_eq_getElem hk]
  exact h _ (List.getElem_mem hk)
theorem woL_b {L : Nat → Nat} {c d K : Nat} : ∀ {n : Nat}, (∀ i, i < n → L i < K) → ∀ v ∈ woL L c d n, v < K
  | 0, _, v, hv => by cases hv
  | n + 1, h, v, hv => by
    unfold woL at hv
    split at hv
    · exact woL_b (fun i hi => h i (by omega)) v hv
    · rcases List.mem_append.mp hv with z | z
      · exact woL_b (fun i hi => h i (by omega)) v z
      · rw [List.mem_singleton] at z
        rw [z]
        exact h n (by omega)
section DD
variable {A : AH} {m t n : Nat} {s : St} {l : List Nat}
/-- a made row becomes word t's -/
theorem M_laysL (h : RF A m s) (hk : StOK s) (ht : t < (sSh s).1) (hn : l.length ≤ 16) (hd : Dbl (lD l) l.length) (hl : MdL A m l) (hb : ∀ v ∈ l, v < 1000) : ∃ r, fX12_lays A (some m) (I t) = some r ∧ r.1 = I ((l.length / 2 : Nat) : Int) ∧ RF r.2 m (setW s t (wMade (lD l) l.length)) ∧ Mw m A r.2 :=
  M_laysW h hk ht hn (by have := cn_half hd; omega) hl.1 hl.2 (lD_b hb)
theorem M_without (h : RF A m s) (hk : StOK s) (ht : t < (sSh s).1) {c d : Nat} (hc : c < 1000) (hd : d < 1000) : ∃ r, fX12_without A (some m) (I t) (I c) (I d) = some r ∧ r.1 = I (((woL ((sSh s).2 t).2.1 c d (2 * ((sSh s).2 t).1)).length / 2 : Nat) : Int) ∧ RF r.2 m (setW s t (wMade (lD (woL ((sSh s).2 t).2.1 c d (2 * ((sSh s).2 t).1))) (woL ((sSh s).2 t).2.1 c d (2 * ((sSh s).2 t).1)).length)) ∧ Mm m A r.2 := by
  have hV := hk.vw ht
  have hN := hV.1
  have e2 : (2 : Int32) * I (((sSh s).2 t).1 : Int) = I ((2 * ((sSh s).2 t).1 : Nat) : Int) := by rw [L_2, I_mul]; congr 1
  unfold fX12_without
  rw [h.1.rc, bs, pI_ok h.1.k, bs]
  refine for_eb (2 * ((sSh s).2 t).1) (fun i u => u.1 = I i ∧ Ms m A u.2 ∧ MdL u.2 m (woL ((sSh s).2 t).2.1 c d i)) (fun B => Ms m A B ∧ MdL B m (woL ((sSh s).2 t).2.1 c d (2 * ((sSh s).2 t).1))) ⟨rfl, Ms.si (by omega), MdL.nil⟩ ?_ ?_ ?_
  · rintro i ⟨u1, u2⟩ hi ⟨e1, g1, g2⟩
    dsimp only at e1 g1 g2 ⊢
    subst e1
    have h' := h.ms g1
    have hW := h'.we hk ht
    have hlen := woL_len ((sSh s).2 t).2.1 c d i
    have hLi := (hV.2.2 i hi).1
    have hs : woL ((sSh s).2 t).2.1 c d (i + 1) = if ((sSh s).2 t).2.1 i = c ∨ ((sSh s).2 t).2.1 i = d then woL ((sSh s).2 t).2.1 c d i else woL ((sSh s).2 t).2.1 c d i ++ [((sSh s).2 t).2.1 i] := rfl
    rw [M_size h'.1 hW, bs, e2, if_neg (le_n (by omega)), M_letterAt h'.1 hW hi, bs, jp_eq]
    by_cases q1 : ((sSh s).2 t).2.1 i = c
    · rw [if_pos (by rw [q1])]
      exact ⟨_, rfl, by dsimp only; rw [L_1, I_add, ← cst], g1, by dsimp only; rw [hs, if_pos (Or.inl q1)]; exact g2⟩
    · rw [if_neg (eq_n (by omega)), bs]
      by_cases q2 : ((sSh s).2 t).2.1 i = d
      · rw [if_pos (by rw [q2])]
        exact ⟨_, rfl, by dsimp only; rw [L_1, I_add, ← cst], g1, by dsimp only; rw [hs, if_pos (Or.inr q2)]; exact g2⟩
      · obtain ⟨B, b1, b2, b3⟩ := M_comesL h'.1 g2 (by omega) (((sSh s).2 t).2.1 i)
        rw [if_neg (eq_n (by omega)), bs, b1, bs]
        exact ⟨_, rfl, by dsimp only; rw [L_1, I_add, ← cst], g1.tr b2.1, by dsimp only; rw [hs, if_neg (fun z => z.elim q1 q2)]; exact b3⟩
  · rintro ⟨u1, u2⟩ ⟨e1, g1, g2⟩
    dsimp only at e1 g1 g2 ⊢
    subst e1
    have h' := h.ms g1
    exact ⟨u2, by rw [M_size h'.1 (h'.we hk ht), bs, e2, if_pos (le_y (by omega))], g1, g2⟩
  · rintro B ⟨g1, g2⟩
    have h' := h.ms g1
    have hlen := woL_len ((sSh s).2 t).2.1 c d (2 * ((sSh s).2 t).1)
    obtain ⟨r, r1, r2, r3, r4⟩ := M_laysL h' hk ht (by omega) (woL_dbl hV c d) g2 (woL_b (fun i hi => by have := (hV.2.2 i hi).1; omega))
    rw [r1, bs]
    exact ⟨_, rfl, r2, r3, g1.mm.tr r4.mm⟩
end DD
