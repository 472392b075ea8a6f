/-! the laws that are broken; what a word may be asked; codes -/
section
variable {A : AH} {m t N : Nat} {L P Q : Nat → Nat} {sg : Nat}
/-- a search for the first that fits -/
theorem find_b {T : Type} {b : Int32 → Option (Int32 ⊕ (Unit ⊕ T))} (f : Nat → Bool) (v : T) (n : Nat) (hs : ∀ i, i < n → b (I (i : Int)) = if f i = true then some (.inr (.inr v)) else some (.inl (I ((i + 1 : Nat) : Int)))) (he : b (I (n : Int)) = some (.inr (.inl ()))) : iter b 0 = some (if anyB f n = true then .inr v else .inl ()) := by
  have key : ∀ k i, i + k = n → (∀ j, j < i → f j = false) → itN b (k + 1) (I (i : Int)) = some (if anyB f n = true then .inr v else .inl ()) := by
    intro k
    induction k with
    | zero =>
      intro i hi hb
      have e : i = n := by omega
      subst e
      unfold itN
      rw [he]
      dsimp only
      rw [if_neg]
      intro q
      obtain ⟨j, j1, j2⟩ := anyB_iff.mp q
      rw [hb j j1] at j2
      cases j2
    | succ k ih =>
      intro i hi hb
      have hi' : i < n := by omega
      unfold itN
      rw [hs i hi']
      cases hf : f i with
      | true =>
        rw [if_pos rfl, if_pos (anyB_to hi' hf)]
      | false =>
        rw [if_neg (by decide)]
        refine ih (i + 1) (by omega) (fun j hj => ?_)
        by_cases ej : j = i
        · subst ej; exact hf
        · exact hb j (by omega)
  exact iter_eq (key n 0 (by omega) (fun j hj => by omega))
theorem find_bb {T R : Type} {b : Int32 → Option (Int32 ⊕ (Unit ⊕ T))} {k : Unit ⊕ T → Option R} {r : R} (f : Nat → Bool) (v : T) (n : Nat) (hs : ∀ i, i < n → b (I (i : Int)) = if f i = true then some (.inr (.inr v)) else some (.inl (I ((i + 1 : Nat) : Int)))) (he : b (I (n : Int)) = some (.inr (.inl ()))) (hk : k (if anyB f n = true then .inr v else .inl ()) = some r) : (iter b 0).bind k = some r := by
  rw [find_b f v n hs he]
  exact hk
theorem sm_ite {T R : Type} {c : Bool} {v : T} {f : Unit → Option R} {g : T → Option R} : sm (if c = true then Sum.inr v else Sum.inl ()) f g = if c = true then g v else f () := by
  cases c <;> rfl
theorem M_broken (hM : MI A m) (hW : WE A m t N L) (hV : VW N L P Q) : fX12_broken A (some m) (I t) = some (I (brk P Q N)) := by
  have hN := hV.1
  have h2 := p2_lt hN
  unfold fX12_broken
  rw [hM.rc, bs]
  refine find_bb (fun c => decide (cnt (bset P Q c N) 16 % 2 = 1)) 1 N (fun c hc => ?_) ?_ ?_
  · rw [M_size hM hW, bs, if_neg (le_n (by omega)), M_betweenSet hM hW hV hc, bs, M_ones A (bset_l hN), bs, I_m2 (by have := cnt_le (bset P Q c N) 16; omega), bs]
    by_cases q : cnt (bset P Q c N) 16 % 2 = 1
    · rw [if_pos (by rw [q]; rfl), if_pos (decide_eq_true q)]
    · rw [if_neg (by rw [L_1, I_eq (by omega) (by omega)]; omega), if_neg (by rw [decide_eq_true_iff]; exact q), L_1, I_add, ← cst]
  · rw [M_size hM hW, bs, if_pos (le_y (by omega))]
  rw [sm_ite, show anyB (fun c => decide (cnt (bset P Q c N) 16 % 2 = 1)) N = br1 P Q N N from rfl]
  unfold brk
  by_cases e1 : br1 P Q N N = true
  · rw [if_pos e1, if_pos e1]; rfl
  rw [if_neg e1, if_neg e1]
  refine find_bb (fun c => br2i P Q N c c) 2 N (fun c hc => ?_) ?_ ?_
  · rw [M_size hM hW, bs, if_neg (le_n (by omega))]
    have e : (if br2i P Q N c c = true then some (Sum.inr (Sum.inr (2 : Int32))) else some (.inl (I ((c + 1 : Nat) : Int))) : Option (Int32 ⊕ (Unit ⊕ Int32))) = some (if br2i P Q N c c = true then Sum.inr (Sum.inr (2 : Int32)) else .inl (I ((c + 1 : Nat) : Int))) := by split <;> rfl
    rw [e]
    refine find_bb (fun d => decide (¬ Btw P Q c d ∧ shr P Q N c d % 2 = 1)) 2 c (fun d hd => ?_) ?_ ?_
    · rw [if_neg (le_n (by omega)), M_isBetween hM hW hV hc (by omega), bs, jp_eq]
      by_cases hb : Btw P Q c d
      · rw [if_neg (fun q => bI0.mp q hb), if_neg (by rw [decide_eq_true_iff]; exact fun q => q.1 hb), L_1, I_add, ← cst]
      · rw [if_pos (bI0.mpr hb), M_betweenSet hM hW hV hc, bs, M_betweenSet hM hW hV (by omega), bs, I_and, M_ones A (by have := Nat.and_le_left (n := bset P Q c N) (m := bset P Q d N); have := bset_l (P := P) (Q := Q) (c := c) hN; omega), bs, I_m2 (by have := cnt_le (bset P Q c N &&& bset P Q d N) 16; omega), bs]
        by_cases q : shr P Q N c d % 2 = 1
        · rw [if_pos (by rw [show cnt (bset P Q c N &&& bset P Q d N) 16 % 2 = 1 from q]; rfl), if_pos (decide_eq_true ⟨hb, q⟩)]
        · rw [if_neg (by rw [L_1, I_eq (by omega) (by omega)]; intro z; apply q; show cnt (bset P Q c N &&& bset P Q d N) 16 % 2 = 1; omega), if_neg (by rw [decide_eq_true_iff]; exact fun z => q z.2), L_1, I_add, ← cst]
    · rw [if_pos (le_y (by omega))]
    · rw [sm_ite, show anyB (fun d => decide (¬ Btw P Q c d ∧ shr P Q N c d % 2 = 1)) c = br2i P Q N c c from rfl]
      by_cases e3 : br2i P Q N c c = true
      · rw [if_pos e3, if_pos e3]
      · rw [if_neg e3, if_neg e3, L_1, I_add, ← cst]
  · rw [M_size hM hW, bs, if_pos (le_y (by omega))]
  rw [sm_ite, show anyB (fun c => br2i P Q N c c) N = br2 P Q N N from rfl]
  by_cases e2 : br2 P Q N N = true
  · rw [if_pos e2, if_pos e2]; rfl
  rw [if_neg e2, if_neg e2]
  refine find_bb (fun s => !badO P Q N s N) 0 (2 ^ N) (fun s hs => ?_) ?_ ?_
  · rw [M_size hM hW, bs, I_shl1 (by omega), if_neg (le_n (by omega)), M_areSides hM hW hV (by omega), bs]
    cases e : badO P Q N s N with
    | true => rw [if_pos (bI0.mpr (by decide)), L_1, I_add, ← cst]; rfl
    | false => rw [if_neg (fun q => bI0.mp q rfl)]; rfl
  · rw [M_size hM hW, bs, I_shl1 (by omega)]
    generalize 2 ^ N = K at h2 ⊢
    rw [if_pos (le_y (by omega))]
  rw [sm_ite, show anyB (fun s => !badO P Q N s N) (2 ^ N) = br3 P Q N (2 ^ N) from rfl]
  by_cases e3 : br3 P Q N (2 ^ N) = true
  · rw [if_pos e3, if_pos e3]; rfl
  · rw [if_neg e3, if_neg e3]; rfl
end
