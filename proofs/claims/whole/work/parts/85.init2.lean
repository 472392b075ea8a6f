/-! both objects, as they are made: the empty state -/
abbrev wd0 : Wrd := (0, fun _ => 0, 0)
abbrev sh0 : Sh := (0, fun _ => wd0)
def st0 : St := (sh0, (0, fun _ => sh0), (fun _ => false, fun _ => sh0, fun _ => 0), 0, (0, fun _ => 0), -1, (0, fun _ => 0, fun _ => 0))
theorem st0_ok : StOK st0 := ⟨⟨Nat.zero_le _, fun t ht => absurd ht (Nat.not_lt_zero t)⟩, ⟨Nat.zero_le _, fun t ht => absurd ht (Nat.not_lt_zero t)⟩, fun i _ q => absurd q (by show ¬ (false = true); decide), (by show 0 < 2147483648; decide), ⟨Nat.zero_le _, fun t ht => absurd ht (Nat.not_lt_zero t)⟩, (by show (-1 : Int) ≤ -1 ∧ (-1 : Int) ≤ 20; decide), Nat.zero_le _, fun t ht => absurd ht (Nat.not_lt_zero t)⟩
section
variable {A : AH} {b : Nat}
theorem sg_v (h : Sg b 34 Kc2 Rc2 Vc2 Qc2 A) {i f : Nat} {v : Int32} (hm : (i, f, v) ∈ Vc2) : Hi A f (b + i) = v := h.2.2.2.1 _ hm
theorem sg_0 (h : Sg b 34 Kc2 Rc2 Vc2 Qc2 A) {i f : Nat} (hm : ∀ q ∈ Vc2, ¬ (f = q.2.1 ∧ i = q.1)) : Hi A f (b + i) = 0 := h.2.2.2.2.1 f (b + i) (fun q hq y => hm q hq ⟨y.1, by have := y.2; omega⟩)
theorem sg_ci (h : Sg b 34 Kc2 Rc2 Vc2 Qc2 A) : CI A b := by
  have k1 : ∀ q ∈ ciT, q ∈ Rc2 := by decide
  have k2 : ∀ q ∈ ciK, q ∈ Kc2 := by decide
  exact ⟨fun q hq => h.2.2.1 q (k1 q hq), fun q hq => (h.2.1 q (k2 q hq)).2, by rw [h.1]; exact Nat.le_refl _⟩
theorem sg_mi (h : Sg b 34 Kc2 Rc2 Vc2 Qc2 A) : MI A (b + 22) := by
  have k1 : ∀ q ∈ miT, (22, q.1, 22 + q.2.1) ∈ Rc2 ∧ (22 + q.2.1, q.2.2.1, q.2.2.2) ∈ Kc2 := by decide
  refine ⟨h.k 22 13 0 (by decide), fun q hq => ?_⟩
  have e1 := h.2.2.1 _ (k1 q hq).1
  have e2 := h.2.1 _ (k1 q hq).2
  rw [Nat.add_assoc]
  exact ⟨e1, e2.2⟩
theorem sg_iv (h : Sg b 34 Kc2 Rc2 Vc2 Qc2 A) : IV A b (fun _ => (0, fun _ => 0)) := by
  have hs := h.1
  exact ⟨sg_ci h, h.2.2.2.2.2.2.2.2, fun r q => by have := q.1; have := q.2.1; omega, fun r q => by have := q.1; have := q.2.1; omega⟩
theorem sg_cf (h : Sg b 34 Kc2 Rc2 Vc2 Qc2 A) : CF A b (fun _ => (0, fun _ => 0)) st0 := by
  refine ⟨sg_iv h, ⟨sg_v h (v := 0) (by decide), fun t ht => absurd ht (Nat.not_lt_zero t)⟩, ⟨0, by decide, sg_v h (v := 0) (by decide), sg_v h (v := 0) (by decide), fun k hk => Or.inl ?_, fun k k' y hk hk' q1 q2 => ?_, fun t ht => absurd ht (Nat.not_lt_zero t)⟩, fun i hi => ?_, ⟨sg_v h (v := 0) (by decide), fun t ht => absurd ht (Nat.not_lt_zero t), sg_v h (v := -1) (by decide)⟩, ⟨sg_v h (v := 0) (by decide), fun t ht => absurd ht (Nat.not_lt_zero t)⟩, sg_v h (v := 0) (by decide)⟩
  · have k1 : ∀ q ∈ Qc2, 9 ≠ q.1 := by decide
    exact h.2.2.2.2.2.2.1 (b + 9) (fun q hq y => k1 q hq (by omega)) k
  · have k1 : ∀ q ∈ Qc2, 9 ≠ q.1 := by decide
    have := h.2.2.2.2.2.2.1 (b + 9) (fun q hq y => k1 q hq (by omega)) k
    rw [this] at q1
    cases q1
  · have z : i = 0 ∨ i = 1 := by omega
    have e : bI (sKe st0 i = true) = 0 := bI0.mpr (by show ¬ (false = true); decide)
    rw [e]
    rcases z with z | z
    · rw [z]
      exact ⟨h.2.2.2.2.2.1 (10, 0, 11) (by decide), sg_v h (i := 11) (v := 0) (by decide), fun q => absurd q (by show ¬ (false = true); decide)⟩
    · rw [z]
      exact ⟨h.2.2.2.2.2.1 (10, 1, 14) (by decide), sg_v h (i := 14) (v := 0) (by decide), fun q => absurd q (by show ¬ (false = true); decide)⟩
theorem sg_rf (h : Sg b 34 Kc2 Rc2 Vc2 Qc2 A) : RF A (b + 22) st0 := by
  have he := h.2.2.2.2.2.2.2.1
  refine ⟨sg_mi h, ⟨he _ _, fun t ht => absurd ht (Nat.not_lt_zero t)⟩, ⟨sg_0 h (by decide), fun t ht => absurd ht (Nat.not_lt_zero t)⟩, fun i hi => ⟨?_, fun q => absurd q (by show ¬ (false = true); decide)⟩, sg_0 h (by decide), ⟨sg_0 h (by decide), fun t ht => absurd ht (Nat.not_lt_zero t)⟩, sg_v h (v := -1) (by decide), sg_0 h (by decide), fun t ht => absurd ht (Nat.not_lt_zero t)⟩
  rw [he]
  exact (bI0.mpr (by show ¬ (false = true); decide)).symm
end
theorem inits (b : Nat) : INIT b (Rl b) := by
  obtain ⟨A, a1, a2⟩ := init_c b
  obtain ⟨B, b1, b2⟩ := init_m b a2
  exact ⟨A, B, a1, a2.1, b1, _, st0, sg_cf b2, sg_rf b2, st0_ok⟩
