/-! both objects, as they are made -/
def Sg (b n : Nat) (K R : List (Nat × Nat × Nat)) (V : List (Nat × Nat × Int32)) (Q : List (Nat × Nat × Nat)) (A : AH) : Prop := Hs A = b + n ∧ (∀ q ∈ K, q.1 < n ∧ Hk A (b + q.1) = q.2.1 ∧ Hn A (b + q.1) = q.2.2) ∧ (∀ q ∈ R, Hr A q.2.1 (b + q.1) = some (b + q.2.2)) ∧ (∀ q ∈ V, Hi A q.2.1 (b + q.1) = q.2.2) ∧ (∀ f a, (∀ q ∈ V, ¬ (f = q.2.1 ∧ a = b + q.1)) → Hi A f a = 0) ∧ (∀ q ∈ Q, Hq A (b + q.1) q.2.1 = some (b + q.2.2)) ∧ (∀ a, (∀ q ∈ Q, a ≠ b + q.1) → ∀ i, Hq A a i = none) ∧ (∀ a i, He A a i = 0) ∧ Cl A
section
variable {A : AH} {b n n' : Nat} {K R Q : List (Nat × Nat × Nat)} {V : List (Nat × Nat × Int32)}
theorem Sg.k (h : Sg b n K R V Q A) (i kd len : Nat) (hm : (i, kd, len) ∈ K) : Hk A (b + i) = kd := (h.2.1 _ hm).2.1
theorem Sg.lt (h : Sg b n K R V Q A) {i kd len : Nat} (hm : (i, kd, len) ∈ K) : i < n := (h.2.1 _ hm).1
theorem Sg.nw (h : Sg b n K R V Q A) (kd len : Nat) (hn : n' = n + 1) : Sg b n' ((n, kd, len) :: K) R V Q (nw A kd len) := by
  obtain ⟨h1, h2, h3, h4, h5, h6, h7, h8, h9⟩ := h
  refine ⟨by show Hs A + 1 = _; omega, fun q hq => ?_, h3, h4, h5, h6, h7, h8, fun a ha => h9 a (by have : Hs A + 1 ≤ a := ha; omega)⟩
  rcases List.mem_cons.mp hq with z | z
  · rw [z]
    exact ⟨by show n < n'; omega, if_pos h1.symm, if_pos h1.symm⟩
  · have := h2 q z
    exact ⟨by omega, (if_neg (by omega)).trans this.2.1, (if_neg (by omega)).trans this.2.2⟩
theorem Sg.sr (h : Sg b n K R V Q A) (f i j : Nat) (hi : i < n) (hf : ∀ q ∈ R, ¬ (f = q.2.1 ∧ i = q.1)) : Sg b n K ((i, f, j) :: R) V Q (sr A f (b + i) (some (b + j))) := by
  obtain ⟨h1, h2, h3, h4, h5, h6, h7, h8, h9⟩ := h
  refine ⟨h1, h2, fun q hq => ?_, h4, h5, h6, h7, h8, fun a ha => ?_⟩
  · rcases List.mem_cons.mp hq with z | z
    · rw [z]; exact up2_eq
    · exact (up2_ne (fun y => hf q z ⟨y.1.symm, by have := y.2; omega⟩)).trans (h3 q z)
  · obtain ⟨g1, g2, g3, g4, g5⟩ := h9 a ha
    have ha : Hs A ≤ a := ha
    exact ⟨g1, g2, fun g => (up2_ne (fun y => by have := y.2; omega)).trans (g3 g), g4, g5⟩
theorem Sg.si (h : Sg b n K R V Q A) (f i : Nat) (v : Int32) (hi : i < n) (hf : ∀ q ∈ V, ¬ (f = q.2.1 ∧ i = q.1)) : Sg b n K R ((i, f, v) :: V) Q (si A f (b + i) v) := by
  obtain ⟨h1, h2, h3, h4, h5, h6, h7, h8, h9⟩ := h
  refine ⟨h1, h2, h3, fun q hq => ?_, fun g a ha => ?_, h6, h7, h8, fun a ha => ?_⟩
  · rcases List.mem_cons.mp hq with z | z
    · rw [z]; exact up2_eq
    · exact (up2_ne (fun y => hf q z ⟨y.1.symm, by have := y.2; omega⟩)).trans (h4 q z)
  · have hd := ha _ List.mem_cons_self
    exact (up2_ne (fun y => hd y)).trans (h5 g a (fun q hq => ha q (List.mem_cons_of_mem _ hq)))
  · obtain ⟨g1, g2, g3, g4, g5⟩ := h9 a ha
    have ha : Hs A ≤ a := ha
    exact ⟨fun g => (up2_ne (fun y => by have := y.2; omega)).trans (g1 g), g2, g3, g4, g5⟩
theorem Sg.sq (h : Sg b n K R V Q A) (i k j : Nat) (hi : i < n) (hf : ∀ q ∈ Q, ¬ (i = q.1 ∧ k = q.2.1)) : Sg b n K R V ((i, k, j) :: Q) (sq A (b + i) k (some (b + j))) := by
  obtain ⟨h1, h2, h3, h4, h5, h6, h7, h8, h9⟩ := h
  refine ⟨h1, h2, h3, h4, h5, fun q hq => ?_, fun a ha c => ?_, h8, fun a ha => ?_⟩
  · rcases List.mem_cons.mp hq with z | z
    · rw [z]; exact up2_eq
    · exact (up2_ne (fun y => hf q z ⟨by have := y.1; omega, y.2.symm⟩)).trans (h6 q z)
  · have hd := ha _ List.mem_cons_self
    exact (up2_ne (fun y => hd y.1)).trans (h7 a (fun q hq => ha q (List.mem_cons_of_mem _ hq)) c)
  · obtain ⟨g1, g2, g3, g4, g5⟩ := h9 a ha
    have ha : Hs A ≤ a := ha
    exact ⟨g1, g2, g3, g4, fun c => (up2_ne (fun y => by have := y.1; omega)).trans (g5 c)⟩
variable {β : Type} {F : AH → Option β} {P : β → Prop}
theorem cR (h : Sg b n K R V Q A) (a f i j kd : Nat) (ha : a = b + i) (hm : (i, kd, 0) ∈ K) (hf : ∀ q ∈ R, ¬ (f = q.2.1 ∧ i = q.1)) (hc : ∀ B, Sg b n K ((i, f, j) :: R) V Q B → ∃ r, F B = some r ∧ P r) : ∃ r, (pR A kd f (some a) (some (b + j))).bind F = some r ∧ P r := by
  subst ha
  rw [pR_ok (h.k i kd 0 hm), bs]
  exact hc _ (h.sr f i j (h.lt hm) hf)
theorem cI (h : Sg b n K R V Q A) (a f i kd : Nat) (v : Int32) (ha : a = b + i) (hm : (i, kd, 0) ∈ K) (hf : ∀ q ∈ V, ¬ (f = q.2.1 ∧ i = q.1)) (hc : ∀ B, Sg b n K R ((i, f, v) :: V) Q B → ∃ r, F B = some r ∧ P r) : ∃ r, (pI A kd f (some a) v).bind F = some r ∧ P r := by
  subst ha
  rw [pI_ok (h.k i kd 0 hm), bs]
  exact hc _ (h.si f i v (h.lt hm) hf)
theorem cZ (h : Sg b n K R V Q A) (a f i kd : Nat) (ha : a = b + i) (hm : (i, kd, 0) ∈ K) (hf : ∀ q ∈ V, ¬ (f = q.2.1 ∧ i = q.1)) (hc : ∀ B, Sg b n K R ((i, f, 0) :: V) Q B → ∃ r, F B = some r ∧ P r) : ∃ r, (pZ A kd f (some a) 0).bind F = some r ∧ P r := by
  subst ha
  rw [pZ_0 (h.k i kd 0 hm), bs]
  exact hc _ (h.si f i 0 (h.lt hm) hf)
theorem cN (h : Sg b n K R V Q A) (kd len : Nat) (v : Int32) (hv : v = I len) (hl : len < 2147483648) (hn : n' = n + 1) (hc : ∀ B, Sg b n' ((n, kd, len) :: K) R V Q B → ∃ r, F B = some r ∧ P r) : ∃ r, (nA A kd v len).bind F = some r ∧ P r := by
  subst hv
  rw [nA_ok (by omega) (by omega) hl, bs, Int.toNat_natCast]
  exact hc _ (h.nw kd len hn)
theorem cQ (h : Sg b n K R V Q A) (i k j kd len ek : Nat) (v : Int32) (hv : v = I k) (hm : (i, kd, len) ∈ K) (he : (j, ek, 0) ∈ K) (hk : k < len) (hl : len < 2147483648) (hf : ∀ q ∈ Q, ¬ (i = q.1 ∧ k = q.2.1)) (hc : ∀ B, Sg b n K R V ((i, k, j) :: Q) B → ∃ r, F B = some r ∧ P r) : ∃ r, (sR A kd ek (some (b + i)) v (some (b + j))).bind F = some r ∧ P r := by
  subst hv
  have e : Hn A (b + i) = len := (h.2.1 _ hm).2.2
  have ok : okR A ek (some (b + j)) = true := decide_eq_true (h.k j ek 0 he)
  rw [sR_ok ok (h.k i kd len hm) (by omega) (by rw [e]; omega) (by rw [e]; exact hl), bs, Int.toNat_natCast]
  exact hc _ (h.sq i k j (h.lt hm) hf)
theorem cW (h : Sg b n K R V Q A) (kd : Nat) (hn : n' = n + 1) : ∃ B, nw A kd 0 = B ∧ Sg b n' ((n, kd, 0) :: K) R V Q B := ⟨_, rfl, h.nw kd 0 hn⟩
end
theorem Sg0 (b : Nat) : Sg b 0 [] [] [] [] (A00 b) := ⟨rfl, fun q hq => (List.not_mem_nil hq).elim, fun q hq => (List.not_mem_nil hq).elim, fun q hq => (List.not_mem_nil hq).elim, fun _ _ _ => rfl, fun q hq => (List.not_mem_nil hq).elim, fun _ _ _ => rfl, fun _ _ => rfl, fun _ _ => ⟨fun _ => rfl, fun _ => rfl, fun _ => rfl, fun _ => rfl, fun _ => rfl⟩⟩
def Kc1 : List (Nat × Nat × Nat) := [(21, 14, 32), (20, 5, 0), (19, 14, 16), (18, 2, 0), (17, 3, 0), (16, 18, 6), (15, 9, 0), (14, 7, 0), (13, 18, 6), (12, 9, 0), (11, 7, 0), (10, 16, 2), (9, 17, 16), (8, 6, 0), (7, 14, 20), (6, 14, 20), (5, 1, 0), (4, 14, 20), (3, 10, 0), (2, 18, 6), (1, 9, 0), (0, 12, 0)]
def Rc1 : List (Nat × Nat × Nat) := [(0, 359, 20), (20, 128, 21), (0, 358, 18), (18, 32, 19), (0, 357, 17), (0, 356, 10), (14, 192, 15), (15, 256, 16), (11, 192, 12), (12, 256, 13), (0, 355, 8), (8, 160, 9), (0, 354, 5), (5, 1, 7), (5, 0, 6), (0, 353, 3), (3, 288, 4), (0, 352, 1), (1, 256, 2)]
def Vc1 : List (Nat × Nat × Int32) := [(20, 130, 0), (20, 129, 0), (18, 33, 0), (17, 64, 0), (14, 194, 0), (14, 193, 0), (15, 257, 0), (11, 194, 0), (11, 193, 0), (12, 257, 0), (8, 162, 0), (8, 161, 0), (5, 2, 0), (3, 290, -1), (3, 289, 0), (1, 257, 0)]
def Qc1 : List (Nat × Nat × Nat) := [(10, 1, 14), (10, 0, 11)]
set_option maxRecDepth 4000 in
theorem init_c (b : Nat) : ∃ A, fX11_init (nw (A00 b) 12 0) (some b) = some A ∧ Sg b 22 Kc1 Rc1 Vc1 Qc1 A := by
  have h0 := Sg0 b
  unfold fX11_init fX6_init fX8_init fX9_init fX0_init fX5_init fX2_init fX1_init fX4_init
  obtain ⟨B1, e, h1⟩ := cW (n' := 1) h0 12 rfl
  rw [e]
  clear e
  rw [rcv_ok (show Hk _ b = 12 from h1.k 0 12 0 (by decide)), bs]
  obtain ⟨B2, e, h2⟩ := cW (n' := 2) h1 9 rfl
  rw [e, h1.1]
  clear e h1
  rw [rcv_ok (show Hk _ (b + 1) = 9 from h2.k 1 9 0 (by decide)), bs]
  rw [h2.1]
  repeat rw [Option.bind_assoc]
  refine cN (n' := 3) h2 18 6 _ rfl (by decide) rfl (fun B3 h3 => ?_)
  clear h2
  repeat rw [Option.bind_assoc]
  refine cR h3 _ 256 1 2 9 rfl (by decide) (by decide) (fun B4 h4 => ?_)
  clear h3
  repeat rw [Option.bind_assoc]
  refine cI h4 _ 257 1 9 _ rfl (by decide) (by decide) (fun B5 h5 => ?_)
  clear h4
  rw [bs]
  refine cR h5 _ 352 0 1 12 rfl (by decide) (by decide) (fun B6 h6 => ?_)
  clear h5
  obtain ⟨B7, e, h7⟩ := cW (n' := 4) h6 10 rfl
  rw [e, h6.1]
  clear e h6
  rw [rcv_ok (show Hk _ (b + 3) = 10 from h7.k 3 10 0 (by decide)), bs]
  rw [h7.1]
  repeat rw [Option.bind_assoc]
  refine cN (n' := 5) h7 14 20 _ rfl (by decide) rfl (fun B8 h8 => ?_)
  clear h7
  repeat rw [Option.bind_assoc]
  refine cR h8 _ 288 3 4 10 rfl (by decide) (by decide) (fun B9 h9 => ?_)
  clear h8
  repeat rw [Option.bind_assoc]
  refine cI h9 _ 289 3 10 _ rfl (by decide) (by decide) (fun B10 h10 => ?_)
  clear h9
  repeat rw [Option.bind_assoc]
  refine cI h10 _ 290 3 10 _ rfl (by decide) (by decide) (fun B11 h11 => ?_)
  clear h10
  rw [bs]
  refine cR h11 _ 353 0 3 12 rfl (by decide) (by decide) (fun B12 h12 => ?_)
  clear h11
  obtain ⟨B13, e, h13⟩ := cW (n' := 6) h12 1 rfl
  rw [e, h12.1]
  clear e h12
  rw [rcv_ok (show Hk _ (b + 5) = 1 from h13.k 5 1 0 (by decide)), bs]
  rw [h13.1]
  repeat rw [Option.bind_assoc]
  refine cN (n' := 7) h13 14 20 _ rfl (by decide) rfl (fun B14 h14 => ?_)
  clear h13
  repeat rw [Option.bind_assoc]
  refine cR h14 _ 0 5 6 1 rfl (by decide) (by decide) (fun B15 h15 => ?_)
  clear h14
  rw [h15.1]
  repeat rw [Option.bind_assoc]
  refine cN (n' := 8) h15 14 20 _ rfl (by decide) rfl (fun B16 h16 => ?_)
  clear h15
  repeat rw [Option.bind_assoc]
  refine cR h16 _ 1 5 7 1 rfl (by decide) (by decide) (fun B17 h17 => ?_)
  clear h16
  repeat rw [Option.bind_assoc]
  refine cI h17 _ 2 5 1 _ rfl (by decide) (by decide) (fun B18 h18 => ?_)
  clear h17
  rw [bs]
  refine cR h18 _ 354 0 5 12 rfl (by decide) (by decide) (fun B19 h19 => ?_)
  clear h18
  obtain ⟨B20, e, h20⟩ := cW (n' := 9) h19 6 rfl
  rw [e, h19.1]
  clear e h19
  rw [rcv_ok (show Hk _ (b + 8) = 6 from h20.k 8 6 0 (by decide)), bs]
  rw [h20.1]
  repeat rw [Option.bind_assoc]
  refine cN (n' := 10) h20 17 16 _ rfl (by decide) rfl (fun B21 h21 => ?_)
  clear h20
  repeat rw [Option.bind_assoc]
  refine cR h21 _ 160 8 9 6 rfl (by decide) (by decide) (fun B22 h22 => ?_)
  clear h21
  repeat rw [Option.bind_assoc]
  refine cI h22 _ 161 8 6 _ rfl (by decide) (by decide) (fun B23 h23 => ?_)
  clear h22
  repeat rw [Option.bind_assoc]
  refine cI h23 _ 162 8 6 _ rfl (by decide) (by decide) (fun B24 h24 => ?_)
  clear h23
  rw [bs]
  refine cR h24 _ 355 0 8 12 rfl (by decide) (by decide) (fun B25 h25 => ?_)
  clear h24
  rw [h25.1]
  refine cN (n' := 11) h25 16 2 _ rfl (by decide) rfl (fun B26 h26 => ?_)
  clear h25
  obtain ⟨B27, e, h27⟩ := cW (n' := 12) h26 7 rfl
  rw [e, h26.1]
  clear e h26
  rw [rcv_ok (show Hk _ (b + 11) = 7 from h27.k 11 7 0 (by decide)), bs]
  obtain ⟨B28, e, h28⟩ := cW (n' := 13) h27 9 rfl
  rw [e, h27.1]
  clear e h27
  rw [rcv_ok (show Hk _ (b + 12) = 9 from h28.k 12 9 0 (by decide)), bs]
  rw [h28.1]
  repeat rw [Option.bind_assoc]
  refine cN (n' := 14) h28 18 6 _ rfl (by decide) rfl (fun B29 h29 => ?_)
  clear h28
  repeat rw [Option.bind_assoc]
  refine cR h29 _ 256 12 13 9 rfl (by decide) (by decide) (fun B30 h30 => ?_)
  clear h29
  repeat rw [Option.bind_assoc]
  refine cI h30 _ 257 12 9 _ rfl (by decide) (by decide) (fun B31 h31 => ?_)
  clear h30
  rw [bs]
  repeat rw [Option.bind_assoc]
  refine cR h31 _ 192 11 12 7 rfl (by decide) (by decide) (fun B32 h32 => ?_)
  clear h31
  repeat rw [Option.bind_assoc]
  refine cI h32 _ 193 11 7 _ rfl (by decide) (by decide) (fun B33 h33 => ?_)
  clear h32
  repeat rw [Option.bind_assoc]
  refine cZ h33 _ 194 11 7 rfl (by decide) (by decide) (fun B34 h34 => ?_)
  clear h33
  rw [bs]
  refine cQ h34 10 0 11 16 2 7 _ rfl (by decide) (by decide) (by decide) (by decide) (by decide) (fun B35 h35 => ?_)
  clear h34
  obtain ⟨B36, e, h36⟩ := cW (n' := 15) h35 7 rfl
  rw [e, h35.1]
  clear e h35
  rw [rcv_ok (show Hk _ (b + 14) = 7 from h36.k 14 7 0 (by decide)), bs]
  obtain ⟨B37, e, h37⟩ := cW (n' := 16) h36 9 rfl
  rw [e, h36.1]
  clear e h36
  rw [rcv_ok (show Hk _ (b + 15) = 9 from h37.k 15 9 0 (by decide)), bs]
  rw [h37.1]
  repeat rw [Option.bind_assoc]
  refine cN (n' := 17) h37 18 6 _ rfl (by decide) rfl (fun B38 h38 => ?_)
  clear h37
  repeat rw [Option.bind_assoc]
  refine cR h38 _ 256 15 16 9 rfl (by decide) (by decide) (fun B39 h39 => ?_)
  clear h38
  repeat rw [Option.bind_assoc]
  refine cI h39 _ 257 15 9 _ rfl (by decide) (by decide) (fun B40 h40 => ?_)
  clear h39
  rw [bs]
  repeat rw [Option.bind_assoc]
  refine cR h40 _ 192 14 15 7 rfl (by decide) (by decide) (fun B41 h41 => ?_)
  clear h40
  repeat rw [Option.bind_assoc]
  refine cI h41 _ 193 14 7 _ rfl (by decide) (by decide) (fun B42 h42 => ?_)
  clear h41
  repeat rw [Option.bind_assoc]
  refine cZ h42 _ 194 14 7 rfl (by decide) (by decide) (fun B43 h43 => ?_)
  clear h42
  rw [bs]
  refine cQ h43 10 1 14 16 2 7 _ rfl (by decide) (by decide) (by decide) (by decide) (by decide) (fun B44 h44 => ?_)
  clear h43
  refine cR h44 _ 356 0 10 12 rfl (by decide) (by decide) (fun B45 h45 => ?_)
  clear h44
  obtain ⟨B46, e, h46⟩ := cW (n' := 18) h45 3 rfl
  rw [e, h45.1]
  clear e h45
  rw [rcv_ok (show Hk _ (b + 17) = 3 from h46.k 17 3 0 (by decide)), bs]
  repeat rw [Option.bind_assoc]
  refine cI h46 _ 64 17 3 _ rfl (by decide) (by decide) (fun B47 h47 => ?_)
  clear h46
  rw [bs]
  refine cR h47 _ 357 0 17 12 rfl (by decide) (by decide) (fun B48 h48 => ?_)
  clear h47
  obtain ⟨B49, e, h49⟩ := cW (n' := 19) h48 2 rfl
  rw [e, h48.1]
  clear e h48
  rw [rcv_ok (show Hk _ (b + 18) = 2 from h49.k 18 2 0 (by decide)), bs]
  rw [h49.1]
  repeat rw [Option.bind_assoc]
  refine cN (n' := 20) h49 14 16 _ rfl (by decide) rfl (fun B50 h50 => ?_)
  clear h49
  repeat rw [Option.bind_assoc]
  refine cR h50 _ 32 18 19 2 rfl (by decide) (by decide) (fun B51 h51 => ?_)
  clear h50
  repeat rw [Option.bind_assoc]
  refine cI h51 _ 33 18 2 _ rfl (by decide) (by decide) (fun B52 h52 => ?_)
  clear h51
  rw [bs]
  refine cR h52 _ 358 0 18 12 rfl (by decide) (by decide) (fun B53 h53 => ?_)
  clear h52
  obtain ⟨B54, e, h54⟩ := cW (n' := 21) h53 5 rfl
  rw [e, h53.1]
  clear e h53
  rw [rcv_ok (show Hk _ (b + 20) = 5 from h54.k 20 5 0 (by decide)), bs]
  rw [h54.1]
  repeat rw [Option.bind_assoc]
  refine cN (n' := 22) h54 14 32 _ rfl (by decide) rfl (fun B55 h55 => ?_)
  clear h54
  repeat rw [Option.bind_assoc]
  refine cR h55 _ 128 20 21 5 rfl (by decide) (by decide) (fun B56 h56 => ?_)
  clear h55
  repeat rw [Option.bind_assoc]
  refine cI h56 _ 129 20 5 _ rfl (by decide) (by decide) (fun B57 h57 => ?_)
  clear h56
  repeat rw [Option.bind_assoc]
  refine cI h57 _ 130 20 5 _ rfl (by decide) (by decide) (fun B58 h58 => ?_)
  clear h57
  rw [bs]
  refine cR h58 _ 359 0 20 12 rfl (by decide) (by decide) (fun B59 h59 => ?_)
  clear h58
  exact ⟨_, rfl, h59⟩
def Kc2 : List (Nat × Nat × Nat) := [(33, 14, 10), (32, 15, 10), (31, 14, 10), (30, 14, 32), (29, 14, 32), (28, 14, 20), (27, 14, 20), (26, 14, 20), (25, 15, 2), (24, 14, 2), (23, 14, 2071), (22, 13, 0), (21, 14, 32), (20, 5, 0), (19, 14, 16), (18, 2, 0), (17, 3, 0), (16, 18, 6), (15, 9, 0), (14, 7, 0), (13, 18, 6), (12, 9, 0), (11, 7, 0), (10, 16, 2), (9, 17, 16), (8, 6, 0), (7, 14, 20), (6, 14, 20), (5, 1, 0), (4, 14, 20), (3, 10, 0), (2, 18, 6), (1, 9, 0), (0, 12, 0)]
def Rc2 : List (Nat × Nat × Nat) := [(22, 402, 33), (22, 401, 32), (22, 400, 31), (22, 397, 30), (22, 395, 29), (22, 394, 28), (22, 393, 27), (22, 389, 26), (22, 386, 25), (22, 385, 24), (22, 384, 23), (0, 359, 20), (20, 128, 21), (0, 358, 18), (18, 32, 19), (0, 357, 17), (0, 356, 10), (14, 192, 15), (15, 256, 16), (11, 192, 12), (12, 256, 13), (0, 355, 8), (8, 160, 9), (0, 354, 5), (5, 1, 7), (5, 0, 6), (0, 353, 3), (3, 288, 4), (0, 352, 1), (1, 256, 2)]
def Vc2 : List (Nat × Nat × Int32) := [(22, 391, -1), (20, 130, 0), (20, 129, 0), (18, 33, 0), (17, 64, 0), (14, 194, 0), (14, 193, 0), (15, 257, 0), (11, 194, 0), (11, 193, 0), (12, 257, 0), (8, 162, 0), (8, 161, 0), (5, 2, 0), (3, 290, -1), (3, 289, 0), (1, 257, 0)]
def Qc2 : List (Nat × Nat × Nat) := [(10, 1, 14), (10, 0, 11)]
set_option maxRecDepth 4000 in
theorem init_m {A : AH} (b : Nat) (h0 : Sg b 22 Kc1 Rc1 Vc1 Qc1 A) : ∃ B, fX12_init (nw A 13 0) (some (b + 22)) = some B ∧ Sg b 34 Kc2 Rc2 Vc2 Qc2 B := by
  unfold Kc1 Rc1 Vc1 Qc1 at h0
  unfold fX12_init
  obtain ⟨B1, e, h1⟩ := cW (n' := 23) h0 13 rfl
  rw [e]
  clear e
  rw [rcv_ok (show Hk _ (b + 22) = 13 from h1.k 22 13 0 (by decide)), bs]
  rw [h1.1]
  refine cN (n' := 24) h1 14 2071 _ rfl (by decide) rfl (fun B2 h2 => ?_)
  clear h1
  refine cR h2 _ 384 22 23 13 rfl (by decide) (by decide) (fun B3 h3 => ?_)
  clear h2
  rw [h3.1]
  refine cN (n' := 25) h3 14 2 _ rfl (by decide) rfl (fun B4 h4 => ?_)
  clear h3
  refine cR h4 _ 385 22 24 13 rfl (by decide) (by decide) (fun B5 h5 => ?_)
  clear h4
  rw [h5.1]
  refine cN (n' := 26) h5 15 2 _ rfl (by decide) rfl (fun B6 h6 => ?_)
  clear h5
  refine cR h6 _ 386 22 25 13 rfl (by decide) (by decide) (fun B7 h7 => ?_)
  clear h6
  rw [h7.1]
  refine cN (n' := 27) h7 14 20 _ rfl (by decide) rfl (fun B8 h8 => ?_)
  clear h7
  refine cR h8 _ 389 22 26 13 rfl (by decide) (by decide) (fun B9 h9 => ?_)
  clear h8
  refine cI h9 _ 391 22 13 _ rfl (by decide) (by decide) (fun B10 h10 => ?_)
  clear h9
  rw [h10.1]
  refine cN (n' := 28) h10 14 20 _ rfl (by decide) rfl (fun B11 h11 => ?_)
  clear h10
  refine cR h11 _ 393 22 27 13 rfl (by decide) (by decide) (fun B12 h12 => ?_)
  clear h11
  rw [h12.1]
  refine cN (n' := 29) h12 14 20 _ rfl (by decide) rfl (fun B13 h13 => ?_)
  clear h12
  refine cR h13 _ 394 22 28 13 rfl (by decide) (by decide) (fun B14 h14 => ?_)
  clear h13
  rw [h14.1]
  refine cN (n' := 30) h14 14 32 _ rfl (by decide) rfl (fun B15 h15 => ?_)
  clear h14
  refine cR h15 _ 395 22 29 13 rfl (by decide) (by decide) (fun B16 h16 => ?_)
  clear h15
  rw [h16.1]
  refine cN (n' := 31) h16 14 32 _ rfl (by decide) rfl (fun B17 h17 => ?_)
  clear h16
  refine cR h17 _ 397 22 30 13 rfl (by decide) (by decide) (fun B18 h18 => ?_)
  clear h17
  rw [h18.1]
  refine cN (n' := 32) h18 14 10 _ rfl (by decide) rfl (fun B19 h19 => ?_)
  clear h18
  refine cR h19 _ 400 22 31 13 rfl (by decide) (by decide) (fun B20 h20 => ?_)
  clear h19
  rw [h20.1]
  refine cN (n' := 33) h20 15 10 _ rfl (by decide) rfl (fun B21 h21 => ?_)
  clear h20
  refine cR h21 _ 401 22 32 13 rfl (by decide) (by decide) (fun B22 h22 => ?_)
  clear h21
  rw [h22.1]
  refine cN (n' := 34) h22 14 10 _ rfl (by decide) rfl (fun B23 h23 => ?_)
  clear h22
  refine cR h23 _ 402 22 33 13 rfl (by decide) (by decide) (fun B24 h24 => ?_)
  clear h23
  exact ⟨_, rfl, h24⟩
