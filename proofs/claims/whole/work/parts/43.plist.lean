/-! rows that are made piece by piece -/
def lD (l : List Nat) (i : Nat) : Nat := l.getD i 0
def MdL (A : AH) (m : Nat) (l : List Nat) : Prop := Hi A 396 m = I l.length ∧ MdS A m l.length (lD l)
theorem lD_app {l : List Nat} {v i : Nat} (h : i < l.length + 1) : lD (l ++ [v]) i = if i = l.length then v else lD l i := by
  unfold lD
  by_cases q : i = l.length
  · rw [if_pos q, q, List.getD_eq_getElem?_getD, List.getElem?_append_right (Nat.le_refl _), Nat.sub_self]
    rfl
  · rw [if_neg q, List.getD_eq_getElem?_getD, List.getElem?_append_left (by omega), ← List.getD_eq_getElem?_getD]
theorem occ_c {D E : Nat → Nat} {v : Nat} : ∀ {n : Nat}, (∀ i, i < n → D i = E i) → occ D v n = occ E v n
  | 0, _ => rfl
  | n + 1, h => by
    show occ D v n + (if D n = v then 1 else 0) = occ E v n + (if E n = v then 1 else 0)
    rw [occ_c (fun i hi => h i (by omega)), h n (by omega)]
/-- how often v stands in a row -/
def oc (l : List Nat) (v : Nat) : Nat := occ (lD l) v l.length
theorem oc_nil (v : Nat) : oc [] v = 0 := rfl
theorem oc_app (l : List Nat) (a v : Nat) : oc (l ++ [a]) v = oc l v + (if a = v then 1 else 0) := by
  unfold oc
  rw [List.length_append]
  show occ (lD (l ++ [a])) v l.length + (if lD (l ++ [a]) l.length = v then 1 else 0) = _
  rw [lD_app (by omega), if_pos rfl, occ_c (E := lD l) (fun i hi => by rw [lD_app (by omega), if_neg (by omega)])]
theorem occ_pos {D : Nat → Nat} : ∀ {n i : Nat}, i < n → 0 < occ D (D i) n
  | 0, i, h => by omega
  | n + 1, i, h => by
    show 0 < occ D (D i) n + (if D n = D i then 1 else 0)
    by_cases e : i = n
    · subst e; rw [if_pos rfl]; omega
    · have := occ_pos (D := D) (n := n) (i := i) (by omega); omega
theorem Dbl_oc {l : List Nat} (h : ∀ v, oc l v = 0 ∨ oc l v = 2) : Dbl (lD l) l.length := fun i hi => by
  have h1 := occ_pos (D := lD l) hi
  rcases h (lD l i) with q | q
  · have q : occ (lD l) (lD l i) l.length = 0 := q
    omega
  · exact q
section DD
variable {A : AH} {m t n : Nat} {s : St} {l : List Nat}
theorem M_comesL (hM : MI A m) (hl : MdL A m l) (h32 : l.length < 32) (v : Nat) : ∃ A', fX12_comes A (some m) (I v) = some A' ∧ Mk m A A' ∧ MdL A' m (l ++ [v]) := by
  refine ⟨_, M_comes hM h32 hl.1 _, Mk.se.tr Mk.si, ?_, fun j hj => ?_⟩
  · rw [hi_si, List.length_append]; rfl
  · rw [List.length_append] at hj
    have hj : j < l.length + 1 := hj
    rw [he_si, he_se, lD_app hj]
    by_cases q : j = l.length
    · rw [if_pos q, if_pos q]
    · rw [if_neg q, if_neg q]; exact hl.2 j (by omega)
theorem MdL.nil {A : AH} {m : Nat} : MdL (si A 396 m 0) m [] := ⟨hi_si, fun k hk => absurd hk (Nat.not_lt_zero k)⟩
end DD
