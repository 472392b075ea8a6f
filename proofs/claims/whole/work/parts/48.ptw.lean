/-! deeds of the reference: twist -/
def twA (L : Nat → Nat) (n i : Nat) (l : List Nat) : List Nat := if i < n then l ++ [L i] else l
def twL (L : Nat → Nat) (n k : Nat) : Nat → List Nat
  | 0 => []
  | i + 1 => if i = k then (twA L n i (twL L n k i) ++ [10]) ++ [10] else twA L n i (twL L n k i)
theorem twA_len (L : Nat → Nat) (n i : Nat) (l : List Nat) : (twA L n i l).length = l.length + (if i < n then 1 else 0) := by
  unfold twA
  split
  · rw [List.length_append]; rfl
  · rfl
theorem twL_len (L : Nat → Nat) (n k : Nat) : ∀ i, (twL L n k i).length = min i n + (if k < i then 2 else 0)
  | 0 => by show 0 = _; rw [if_neg (by omega)]; omega
  | i + 1 => by
    have ih := twL_len L n k i
    show (if i = k then (twA L n i (twL L n k i) ++ [10]) ++ [10] else twA L n i (twL L n k i)).length = _
    by_cases q : i = k
    · rw [if_pos q, List.length_append, List.length_append, twA_len, ih, if_neg (by omega : ¬ k < i), if_pos (by omega : k < i + 1)]
      show min i n + 0 + (if i < n then 1 else 0) + 1 + 1 = _
      split <;> omega
    · rw [if_neg q, twA_len, ih]
      have : (k < i + 1) = (k < i) := propext (by omega)
      simp only [this]
      split <;> split <;> omega
theorem twL_oc (L : Nat → Nat) (n k v : Nat) : ∀ i, oc (twL L n k i) v = occ L v (min i n) + (if k < i ∧ v = 10 then 2 else 0)
  | 0 => by show oc [] v = _; rw [oc_nil, if_neg (by omega), show min 0 n = 0 by omega]; rfl
  | i + 1 => by
    have ih := twL_oc L n k v i
    have hA : oc (twA L n i (twL L n k i)) v = occ L v (min (i + 1) n) + (if k < i ∧ v = 10 then 2 else 0) := by
      unfold twA
      by_cases q : i < n
      · rw [if_pos q, oc_app, ih, show min i n = i by omega, show min (i + 1) n = i + 1 by omega]
        show _ = occ L v i + (if L i = v then 1 else 0) + _
        omega
      · rw [if_neg q, ih, show min i n = min (i + 1) n by omega]
    show oc (if i = k then (twA L n i (twL L n k i) ++ [10]) ++ [10] else twA L n i (twL L n k i)) v = _
    by_cases q : i = k
    · rw [if_pos q, oc_app, oc_app, hA, if_neg (by omega : ¬ (k < i ∧ v = 10))]
      by_cases z : v = 10
      · rw [if_pos z.symm, if_pos ⟨by omega, z⟩]
      · rw [if_neg (fun e => z e.symm), if_neg (fun e => z e.2)]
    · rw [if_neg q, hA]
      have : (k < i + 1 ∧ v = 10) = (k < i ∧ v = 10) := propext (by omega)
      simp only [this]
theorem twL_b {L : Nat → Nat} {n k : Nat} (h : ∀ i, i < n → L i < 1000) : ∀ i, ∀ v ∈ twL L n k i, v < 1000
  | 0, v, hv => by cases hv
  | i + 1, v, hv => by
    have hA : ∀ v ∈ twA L n i (twL L n k i), v < 1000 := by
      intro v hv
      unfold twA at hv
      split at hv
      · rename_i q
        rcases List.mem_append.mp hv with z | z
        · exact twL_b h i v z
        · rw [List.mem_singleton] at z; rw [z]; exact h i q
      · exact twL_b h i v hv
    have hv : v ∈ (if i = k then (twA L n i (twL L n k i) ++ [10]) ++ [10] else twA L n i (twL L n k i)) := hv
    split at hv
    · rcases List.mem_append.mp hv with z | z
      · rcases List.mem_append.mp z with z | z
        · exact hA v z
        · rw [List.mem_singleton] at z; omega
      · rw [List.mem_singleton] at z; omega
    · exact hA v hv
def wTw (w : Wrd) (k : Nat) : List Nat := twL w.2.1 (2 * w.1) k (max 1 (2 * w.1))
theorem wTw_len {w : Wrd} {k : Nat} (hk : k < max 1 (2 * w.1)) : (wTw w k).length = 2 * w.1 + 2 := by
  unfold wTw
  rw [twL_len, if_pos hk]
  omega
theorem wTw_dbl {w : Wrd} (hw : WOK w) (k : Nat) : Dbl (lD (wTw w k)) (wTw w k).length :=
  Dbl_oc fun v => by
    unfold wTw
    have := hw.1.1
    rw [twL_oc, show min (max 1 (2 * w.1)) (2 * w.1) = 2 * w.1 by omega, VW_occ hw.1]
    split <;> split <;> omega
abbrev uSt (s : St) (x y : Int32) : Prop := (0 ≤ x.toInt ∧ x.toInt < (sSh s).1) ∧ (0 ≤ y.toInt ∧ y.toInt < ((max 1 (2 * ((sSh s).2 x.toInt.toNat).1) : Nat) : Int))
def eTw (s : St) (x y : Int32) : St := if uSt s x y ∧ ((sSh s).2 x.toInt.toNat).1 ≠ 8 then reW s x.toInt.toNat (lD (wTw ((sSh s).2 x.toInt.toNat) y.toInt.toNat)) (wTw ((sSh s).2 x.toInt.toNat) y.toInt.toNat).length else s
def oTw (s : St) (x y : Int32) : Int32 := if uSt s x y then (if ((sSh s).2 x.toInt.toNat).1 = 8 then -1000000004 else I (((wTw ((sSh s).2 x.toInt.toNat) y.toInt.toNat).length / 2 : Nat) : Int)) else -1000000001
