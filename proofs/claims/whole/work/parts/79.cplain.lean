/-! the class: book, seed, text fed, images, undo -/
theorem flm (A : AH) {k : Nat} (hk : k < 33) : fJ9_floorMod_7cf53 A (I ((k : Int) - 16)) 16 = some (I ((k % 16 : Nat) : Int)) := by
  unfold fJ9_floorMod_7cf53
  have key : ∀ k : Fin 33, ((rmI (I ((k.val : Int) - 16)) 16).bind fun v1 => if 0 ≤ ((I ((k.val : Int) - 16)) ^^^ (16 : Int32)) then some v1 else if v1 = 0 then some v1 else some ((v1 + 16))) = some (I ((k.val % 16 : Nat) : Int)) := by decide
  exact key ⟨k, hk⟩
section
variable {A B C : AH} {x r w a b f : Nat} {G G' : Gm} {wd : Wrd} {s : St} {l : List Nat} {T : Nat → Prop}
theorem HO.re {lt u : Nat} {H : Nat → Sh} (h4 : ∀ k, k < 16 → Hq A (x + 9) k = none ∨ ∃ h, Hq A (x + 9) k = some h ∧ x + 34 ≤ h ∧ ShL A h) (h5 : ∀ k k' h, k < 16 → k' < 16 → Hq A (x + 9) k = some h → Hq A (x + 9) k' = some h → k = k') (h6 : ∀ j, j < u → ∃ h, Hq A (x + 9) ((lt + 17 + j - u) % 16) = some h ∧ SHo A x G h (H j)) (hlt : lt < 16) (e1 : Hi B 161 (x + 8) = I lt) (e2 : Hi B 162 (x + 8) = I u) (hC : CI A x) (g : Fr T A B) (hT : okT A x T) (h9 : ¬ T (x + 9)) (hd : ∀ a, x + 34 ≤ a → ¬ T a) : HO B x G u H := by
  have hs := hC.2.2
  have e9 := (g.2.2.2.1 (x + 9) (Or.inl ⟨by omega, h9⟩)).2.2.2.2
  refine ⟨lt, hlt, e1, e2, fun k hk => ?_, fun k k' hh hk hk' q1 q2 => h5 k k' hh hk hk' (by rw [e9] at q1; exact q1) (by rw [e9] at q2; exact q2), fun j hj => ?_⟩
  · rw [e9]
    rcases h4 k hk with q | ⟨hh, q1, q2, q3⟩
    · exact Or.inl q
    · exact Or.inr ⟨hh, q1, q2, q3.fr g⟩
  · obtain ⟨hh, q1, q2⟩ := h6 j hj
    refine ⟨hh, by rw [e9]; exact q1, ?_⟩
    rcases h4 _ (Nat.mod_lt _ (by decide)) with q | ⟨h', q3, q4, q5⟩
    · rw [q] at q1; cases q1
    · rw [q3] at q1
      have := Option.some.inj q1
      subst this
      exact q2.fr q5 g hT (hd _ q4) (hd _ (by omega))
theorem W_tear (h : CF A x G s) : ∃ u G', fX11_tear A (some x) = some u ∧ u.1 = I (sEn s) ∧ CF u.2 x G' (dTear s) ∧ Kp x A u.2 := by
  have hC := h.1.1
  have hxs := hC.2.2
  unfold fX11_tear fX0_clear
  rw [rcv_ok h.c0, bs, hC.bk, bs, rcv_ok hC.k5, bs, gI_ok hC.k5, bs, pI_ok hC.k5, bs, bs, h.2.2.2.2.2.1.1]
  have g : Fr (fun a => a = x + 5) A (si A 2 (x + 5) 0) := Fr.rf.wI (Or.inl rfl) (by omega)
  have hT : okT A x (fun a => a = x + 5) := fun a q _ => Or.inl (by omega)
  refine ⟨_, G, rfl, rfl, ⟨h.1.fr g hT, h.2.1.fr hC.s1 g hT (by omega) (by omega), h.2.2.1.fr hC g hT (by omega) (by omega) (fun a ha => by omega), h.2.2.2.1.fr hC g hT (fun a a1 a2 => by omega), h.2.2.2.2.1.fr hC g (by omega) (by omega), ⟨hi_si, fun i hi => absurd hi (Nat.not_lt_zero i)⟩, ?_⟩, g.kp hC (fun a a1 a2 => by omega)⟩
  rw [(g.2.2.2.1 (x + 17) (Or.inl ⟨by omega, by omega⟩)).1]; exact h.2.2.2.2.2.2
theorem CF.sd (h : CF A x G s) {v : Nat} : CF (si A 64 (x + 17) (I v)) x G (dSeed s v) ∧ Kp x A (si A 64 (x + 17) (I v)) := by
  have hC := h.1.1
  have hxs := hC.2.2
  have g : Fr (fun a => a = x + 17) A (si A 64 (x + 17) (I v)) := Fr.rf.wI (Or.inl rfl) (by omega)
  have hT : okT A x (fun a => a = x + 17) := fun a q _ => Or.inl (by omega)
  exact ⟨⟨h.1.fr g hT, h.2.1.fr hC.s1 g hT (by omega) (by omega), h.2.2.1.fr hC g hT (by omega) (by omega) (fun a ha => by omega), h.2.2.2.1.fr hC g hT (fun a a1 a2 => by omega), h.2.2.2.2.1.fr hC g (by omega) (by omega), h.2.2.2.2.2.1.fr hC g (by omega) (by omega) (by omega), hi_si⟩, g.kp hC (fun a a1 a2 => by omega)⟩
theorem W_seed (h : CF A x G s) (v : Int32) : ∃ u G', fX11_seed A (some x) v = some u ∧ u.1 = (if 0 ≤ v.toInt then I (sSd s) else -1000000002) ∧ CF u.2 x G' (if 0 ≤ v.toInt then dSeed s v.toInt.toNat else s) ∧ Kp x A u.2 := by
  have hC := h.1.1
  unfold fX11_seed fX2_current fX2_restart
  rw [rcv_ok h.c0, bs]
  by_cases q : 0 ≤ v.toInt
  · have hx : v = I ((v.toInt.toNat : Nat) : Int) := lit_eq (by omega)
    rw [if_pos (show (0 : Int32) ≤ v by rw [hx]; exact le_y (a := 0) (by have := Bd_of v; omega)), if_pos q, if_pos q, hC.dw, bs, rcv_ok hC.k17, bs, gI_ok hC.k17, bs, bs, bs, rcv_ok hC.k17, bs, pI_ok hC.k17, bs, bs]
    have e := h.sd (v := v.toInt.toNat)
    rw [← hx] at e
    exact ⟨_, G, rfl, h.2.2.2.2.2.2, e.1, e.2⟩
  · rw [if_neg (show ¬ (0 : Int32) ≤ v by rw [I_of v]; exact le_n (a := 0) (by have := Bd_of v; omega)), if_neg q, if_neg q]
    exact ⟨_, G, rfl, rfl, h, Kp.rf⟩
theorem W_feed (h : CF A x G s) (hk : StOK s) (v : Int32) : ∃ u G', fX11_feed A (some x) v = some u ∧ u.1 = oFeed s v ∧ CF u.2 x G' (eFeed s v) ∧ Kp x A u.2 := by
  have hC := h.1.1
  have hxs := hC.2.2
  have hb := Bd_of v
  have t20 := hk.2.2.2.2.1.1
  obtain ⟨t1, t2, t3⟩ := h.2.2.2.2.1
  unfold fX11_feed fX9_put fX9_length oFeed eFeed
  rw [rcv_ok h.c0, bs]
  by_cases q0 : v.toInt < 0
  · rw [if_pos (show v < (0 : Int32) by rw [I_of v]; exact lt_y (b := 0) (by omega)), if_neg (by omega), if_neg (by omega)]
    exact ⟨_, G, rfl, rfl, h, Kp.rf⟩
  rw [if_neg (show ¬ v < (0 : Int32) by rw [I_of v]; exact lt_n (b := 0) (by omega))]
  by_cases q1 : v.toInt ≤ 255
  rotate_left
  · rw [if_neg (show ¬ v ≤ (255 : Int32) by rw [I_of v]; exact le_n (b := 255) (by omega)), if_neg (by omega), if_neg (by omega)]
    exact ⟨_, G, rfl, rfl, h, Kp.rf⟩
  rw [if_pos (show v ≤ (255 : Int32) by rw [I_of v]; exact le_y (b := 255) (by omega)), if_pos (by omega), hC.tx, bs, rcv_ok hC.k3, bs, gI_ok hC.k3, bs, hC.tx2, bs, aL_at hC.k4, bs, t1]
  by_cases q2 : sTn s = 20
  · rw [if_neg (lt_n (by omega)), if_pos q2, if_neg (fun z => z.2 q2), bs, if_pos rfl]
    exact ⟨_, G, rfl, rfl, h, Kp.rf⟩
  have hx : v = I ((v.toInt.toNat : Nat) : Int) := lit_eq (by omega)
  obtain ⟨B, hB⟩ : ∃ B, B = se A (x + 4) (sTn s) v := ⟨_, rfl⟩
  have kB : Hk B = Hk A := by rw [hB]; rfl
  have k3 : Hk B (x + 3) = 10 := by rw [kB]; exact hC.k3
  have iB : Hi B = Hi A := by rw [hB]; rfl
  rw [if_pos (lt_y (by omega)), if_neg q2, if_pos (show (0 ≤ v.toInt ∧ v.toInt ≤ 255) ∧ sTn s ≠ 20 from ⟨by omega, q2⟩), bs, bs, sI_at hC.k4 (by omega) (by omega), bs, ← hB, gI_ok k3, bs, pI_ok k3, bs, bs, if_neg (show ¬ (1 : Int32) = 0 by decide)]
  have g : Fr (fun a => a = x + 3 ∨ a = x + 4) A (si B 289 (x + 3) (Hi B 289 (x + 3) + 1)) := by
    rw [hB]
    exact (Fr.rf.wE (Or.inl (Or.inr rfl)) (by omega)).wI (Or.inl (Or.inl rfl)) (by show x + 3 < Hs A; omega)
  have hT : okT A x (fun a => a = x + 3 ∨ a = x + 4) := fun a q _ => Or.inl (by omega)
  have hC' := hC.fr g
  have e1 : Hi B 289 (x + 3) + 1 = I ((sTn s + 1 : Nat) : Int) := by rw [iB, t1, L_1, I_add, ← cst]
  rw [hC'.tx, bs, rcv_ok hC'.k3, bs, gI_ok hC'.k3, bs, bs, hi_si]
  refine ⟨_, G, rfl, e1, ⟨h.1.fr g hT, h.2.1.fr hC.s1 g hT (by omega) (by omega), h.2.2.1.fr hC g hT (by omega) (by omega) (fun a ha => by omega), h.2.2.2.1.fr hC g hT (fun a a1 a2 => by omega), ⟨?_, fun i hi => ?_, ?_⟩, h.2.2.2.2.2.1.fr hC g (by omega) (by omega) (by omega), ?_⟩, g.kp hC (fun a a1 a2 => by omega)⟩
  · dsimp only; rw [hi_si, e1]; rfl
  · have hi' : i < sTn s + 1 := hi
    show He B (x + 4) i = I ((if i = sTn s then v.toInt.toNat else sT s i : Nat) : Int)
    rw [hB, he_se]
    by_cases z : i = sTn s
    · rw [if_pos z, if_pos z]; exact hx
    · rw [if_neg z, if_neg z]; exact t2 i (by omega)
  · dsimp only; rw [hi_si_ne (by decide), iB]; exact t3
  · rw [(g.2.2.2.1 (x + 17) (Or.inl ⟨by omega, by omega⟩)).1]; exact h.2.2.2.2.2.2
theorem W_write (h : CF A x G s) (hk : StOK s) (v y : Int32) : ∃ u G', fX11_write A (some x) v y = some u ∧ u.1 = oWrite s v ∧ CF u.2 x G' (eWrite s v y) ∧ Kp x A u.2 := by
  have hC := h.1.1
  have hxs := hC.2.2
  have e20 := hk.2.2.2.2.2.2.1
  obtain ⟨t1, t2⟩ := h.2.2.2.2.2.1
  unfold fX11_write fX0_put fX0_count oWrite eWrite
  rw [rcv_ok h.c0, bs, hC.sh, bs]
  rcases W_get h hk v with ⟨q, w, w1, w2⟩ | ⟨q, w1⟩
  rotate_left
  · rw [w1, bs, if_pos rfl, if_neg q, if_neg (fun z => q z.1)]
    exact ⟨_, G, rfl, rfl, h, Kp.rf⟩
  rw [w1, bs, if_neg some_ne, if_pos q, hC.bk, bs, rcv_ok hC.k5, bs, gI_ok hC.k5, bs, t1]
  by_cases q2 : sEn s = 20
  · rw [if_neg (show ¬ I (sEn s : Int) < (20 : Int32) from lt_n (b := 20) (by omega)), if_pos q2, if_neg (fun z => z.2 q2), bs, if_pos rfl]
    exact ⟨_, G, rfl, rfl, h, Kp.rf⟩
  have hx : v = I ((v.toInt.toNat : Nat) : Int) := lit_eq (by have := q.1; omega)
  obtain ⟨B, hB⟩ : ∃ B, B = se A (x + 6) (sEn s) v := ⟨_, rfl⟩
  have gB : Fr (fun a => a = x + 5 ∨ a = x + 6 ∨ a = x + 7) A B := by rw [hB]; exact Fr.rf.wE (Or.inl (Or.inr (Or.inl rfl))) (by omega)
  have hCB := hC.fr gB
  have iB : Hi B = Hi A := by rw [hB]; rfl
  obtain ⟨C, hCe⟩ : ∃ C, C = se B (x + 7) (sEn s) y := ⟨_, rfl⟩
  have gC : Fr (fun a => a = x + 5 ∨ a = x + 6 ∨ a = x + 7) A C := by rw [hCe]; exact gB.wE (Or.inl (Or.inr (Or.inr rfl))) (by have := gB.1; omega)
  have hCC := hC.fr gC
  have iC : Hi C = Hi A := by rw [hCe]; exact iB
  have e1 : Hi C 2 (x + 5) + 1 = I ((sEn s + 1 : Nat) : Int) := by rw [iC, t1, L_1, I_add, ← cst]
  have g : Fr (fun a => a = x + 5 ∨ a = x + 6 ∨ a = x + 7) A (si C 2 (x + 5) (I ((sEn s + 1 : Nat) : Int))) := gC.wI (Or.inl (Or.inl rfl)) (by have := gC.1; omega)
  have hT : okT A x (fun a => a = x + 5 ∨ a = x + 6 ∨ a = x + 7) := fun a q _ => Or.inl (by omega)
  have hC' := hC.fr g
  rw [if_pos (show I (sEn s : Int) < (20 : Int32) from lt_y (b := 20) (by omega)), if_neg q2, if_pos ⟨q, q2⟩, hC.bk2, bs, bs, sI_at hC.k6 (by omega) (by omega), bs, ← hB, hCB.bk3, bs, gI_ok hCB.k5, bs, iB, t1, sI_at hCB.k7 (by omega) (by omega), bs, ← hCe, gI_ok hCC.k5, bs, e1, pI_ok hCC.k5, bs, bs, if_neg (show ¬ (1 : Int32) = 0 by decide), hC'.bk, bs, rcv_ok hC'.k5, bs, gI_ok hC'.k5, bs, bs, hi_si]
  refine ⟨_, G, rfl, rfl, ⟨h.1.fr g hT, h.2.1.fr hC.s1 g hT (by omega) (by omega), h.2.2.1.fr hC g hT (by omega) (by omega) (fun a ha => by omega), h.2.2.2.1.fr hC g hT (fun a a1 a2 => by omega), h.2.2.2.2.1.fr hC g (by omega) (by omega), ⟨?_, fun i hi => ?_⟩, ?_⟩, g.kp hC (fun a a1 a2 => by omega)⟩
  · dsimp only; rw [hi_si]; rfl
  · have hi' : i < sEn s + 1 := hi
    show He C (x + 6) i = I ((if i = sEn s then v.toInt.toNat else sBw s i : Nat) : Int) ∧ He C (x + 7) i = (if i = sEn s then y else sBm s i)
    rw [hCe, he_se_ne (by omega), he_se, hB, he_se, he_se_ne (by omega)]
    by_cases z : i = sEn s
    · rw [if_pos z, if_pos z, if_pos z, if_pos z]; exact ⟨hx, rfl⟩
    · rw [if_neg z, if_neg z, if_neg z, if_neg z]; exact t2 i (by omega)
  · rw [(g.2.2.2.1 (x + 17) (Or.inl ⟨by omega, by omega⟩)).1]; exact h.2.2.2.2.2.2
end
