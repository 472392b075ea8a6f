/-! both together: what one does, the other leaves alone; the laws -/
section
variable {A B : AH} {x : Nat} {G : Gm} {s : St}
theorem MI.kp (h : MI A (x + 22)) (g : Kp x A B) : MI B (x + 22) := by
  refine ⟨by rw [(g (x + 22) (by omega) (by omega)).2.1]; exact h.1, fun q hq => ?_⟩
  have hb : ∀ q ∈ miT, q.2.1 ≤ 11 := by decide
  have e := g (x + 22 + q.2.1) (by omega) (by have := hb q hq; omega)
  rw [(g (x + 22) (by omega) (by omega)).1.2.2.1, e.2.1, e.2.2]
  exact h.2 q hq
theorem RF.kp (h : RF A (x + 22) s) (g : Kp x A B) : RF B (x + 22) s := by
  obtain ⟨h1, h2, ⟨h3, h4⟩, h5, h6, ⟨h7, h8⟩, h9, h10, h11⟩ := h
  have g0 := g (x + 22) (by omega) (by omega)
  have e1 := (g (x + 22 + 1) (by omega) (by omega)).1.2.2.2.1
  have e2 := (g (x + 22 + 2) (by omega) (by omega)).1.2.2.2.1
  have e3 := (g (x + 22 + 3) (by omega) (by omega)).1.2.2.2.1
  have e4 := (g (x + 22 + 4) (by omega) (by omega)).1.2.2.2.1
  have e5 := (g (x + 22 + 5) (by omega) (by omega)).1.2.2.2.1
  have e6 := (g (x + 22 + 6) (by omega) (by omega)).1.2.2.2.1
  refine ⟨MI.kp h1 g, h2.he e1, ⟨by rw [g0.1.1]; exact h3, fun j hj => (h4 j hj).he e1⟩, fun i hi => ?_, by rw [g0.1.1]; exact h6, ⟨by rw [g0.1.1]; exact h7, fun i hi => by rw [e4]; exact h8 i hi⟩, by rw [g0.1.1]; exact h9, by rw [g0.1.1]; exact h10, fun i hi => by rw [e5, e6]; exact h11 i hi⟩
  rw [e2, e3]
  exact ⟨(h5 i hi).1, fun q => ⟨((h5 i hi).2 q).1.he e1, ((h5 i hi).2 q).2⟩⟩
theorem CF.mm (h : CF A x G s) (m : Mm (x + 22) A B) : CF B x G s := by
  have hC := h.1.1
  have hxs := hC.2.2
  obtain ⟨m1, m2, m3, m4, m5, m6, m7, m8⟩ := m
  have g : Fr (fun a => x + 22 ≤ a ∧ a ≤ x + 33) A B := ⟨by omega, fun a _ => ⟨by rw [m1], by rw [m4]⟩, fun f a _ _ => by rw [m3], fun a ha => ⟨fun f => m8 f a (by omega), fun f => by rw [m2], fun f => by rw [m3], m7 a (by omega), by rw [m5]⟩, fun a a1 a2 => by omega⟩
  have hT : okT A x (fun a => x + 22 ≤ a ∧ a ≤ x + 33) := fun a q _ => Or.inl (by omega)
  refine ⟨h.1.fr g hT, h.2.1.fr hC.s1 g hT (by omega) (by omega), h.2.2.1.fr hC g hT (by omega) (by omega) (fun a ha => by omega), h.2.2.2.1.fr hC g hT (fun a a1 a2 => by omega), h.2.2.2.2.1.fr hC g (by omega) (by omega), h.2.2.2.2.2.1.fr hC g (by omega) (by omega) (by omega), ?_⟩
  rw [m8 _ _ (by omega)]; exact h.2.2.2.2.2.2
end
def Rl (x : Nat) (A : AH) : Prop := ∃ G s, CF A x G s ∧ RF A (x + 22) s ∧ StOK s
theorem P_feed (x : Nat) : OP_feed x (x + 22) (Rl x) := by
  intro A hA v1
  obtain ⟨G, s, h, hR, hk⟩ := hA
  obtain ⟨u, G', u1, u2, u3, u4⟩ := W_feed h hk v1
  have hR := hR.kp u4
  obtain ⟨r, r1, r2, r3, r4⟩ := M_feed hR hk v1
  exact ⟨u, r, u1, r1, by rw [u2, r2], G', _, u3.mm r4, r3, eFeed_ok hk v1⟩
theorem P_tell (x : Nat) : OP_tell x (x + 22) (Rl x) := by
  intro A hA
  obtain ⟨G, s, h, hR, hk⟩ := hA
  obtain ⟨u, G', u1, u2, u3, u4⟩ := W_tell h hk
  have hR := hR.kp u4
  obtain ⟨r, r1, r2, r3, r4⟩ := M_tell hR hk
  exact ⟨u, r, u1, r1, by rw [u2, r2], G', _, u3.mm r4, r3, eTell_ok hk⟩
theorem P_signs (x : Nat) : OP_signs x (x + 22) (Rl x) := by
  intro A hA v1 v2
  obtain ⟨G, s, h, hR, hk⟩ := hA
  obtain ⟨u, G', u1, u2, u3, u4⟩ := W_signs h hk v1 v2
  have hR := hR.kp u4
  obtain ⟨r, r1, r2, r3, r4⟩ := M_signs hR hk v1 v2
  exact ⟨u, r, u1, r1, by rw [u2, r2], G', _, u3.mm r4, r3, eSigns_ok hk v1 v2⟩
theorem P_draw (x : Nat) : OP_draw x (x + 22) (Rl x) := by
  intro A hA v1
  obtain ⟨G, s, h, hR, hk⟩ := hA
  obtain ⟨u, G', u1, u2, u3, u4⟩ := W_draw h hk v1
  have hR := hR.kp u4
  obtain ⟨r, r1, r2, r3, r4⟩ := M_draw hR hk v1
  exact ⟨u, r, u1, r1, by rw [u2, r2], G', _, u3.mm r4, r3, eDraw_ok hk v1⟩
theorem P_turn (x : Nat) : OP_turn x (x + 22) (Rl x) := by
  intro A hA v1 v2 v3 hz
  obtain ⟨G, s, h, hR, hk⟩ := hA
  obtain ⟨u, G', u1, u2, u3, u4⟩ := W_turn h hk v1 v2 v3 hz
  have hR := hR.kp u4
  obtain ⟨r, r1, r2, r3, r4⟩ := M_turn hR hk v1 v2 v3 hz
  exact ⟨u, r, u1, r1, by rw [u2, r2], G', _, u3.mm r4, r3, eTurn_ok hk v1 v2 v3⟩
theorem P_twist (x : Nat) : OP_twist x (x + 22) (Rl x) := by
  intro A hA v1 v2
  obtain ⟨G, s, h, hR, hk⟩ := hA
  obtain ⟨u, G', u1, u2, u3, u4⟩ := W_twist h hk v1 v2
  have hR := hR.kp u4
  obtain ⟨r, r1, r2, r3, r4⟩ := M_twist hR hk v1 v2
  exact ⟨u, r, u1, r1, by rw [u2, r2], G', _, u3.mm r4, r3, eTw_ok hk v1 v2⟩
theorem P_untwist (x : Nat) : OP_untwist x (x + 22) (Rl x) := by
  intro A hA v1 v2
  obtain ⟨G, s, h, hR, hk⟩ := hA
  obtain ⟨u, G', u1, u2, u3, u4⟩ := W_untwist h hk v1 v2
  have hR := hR.kp u4
  obtain ⟨r, r1, r2, r3, r4⟩ := M_untwist hR hk v1 v2
  exact ⟨u, r, u1, r1, by rw [u2, r2], G', _, u3.mm r4, r3, eUntw_ok hk v1 v2⟩
theorem P_poke (x : Nat) : OP_poke x (x + 22) (Rl x) := by
  intro A hA v1 v2 v3 v4
  obtain ⟨G, s, h, hR, hk⟩ := hA
  obtain ⟨u, G', u1, u2, u3, u4⟩ := W_poke h hk v1 v2 v3 v4
  have hR := hR.kp u4
  obtain ⟨r, r1, r2, r3, r4⟩ := M_poke hR hk v1 v2 v3 v4
  exact ⟨u, r, u1, r1, by rw [u2, r2], G', _, u3.mm r4, r3, ePk_ok hk v1 v2 v3 v4⟩
theorem P_unpoke (x : Nat) : OP_unpoke x (x + 22) (Rl x) := by
  intro A hA v1 v2 v3
  obtain ⟨G, s, h, hR, hk⟩ := hA
  obtain ⟨u, G', u1, u2, u3, u4⟩ := W_unpoke h hk v1 v2 v3
  have hR := hR.kp u4
  obtain ⟨r, r1, r2, r3, r4⟩ := M_unpoke hR hk v1 v2 v3
  exact ⟨u, r, u1, r1, by rw [u2, r2], G', _, u3.mm r4, r3, eUnpk_ok hk v1 v2 v3⟩
theorem P_slide (x : Nat) : OP_slide x (x + 22) (Rl x) := by
  intro A hA v1 v2 v3 v4
  obtain ⟨G, s, h, hR, hk⟩ := hA
  obtain ⟨u, G', u1, u2, u3, u4⟩ := W_slide h hk v1 v2 v3 v4
  have hR := hR.kp u4
  obtain ⟨r, r1, r2, r3, r4⟩ := M_slide hR hk v1 v2 v3 v4
  exact ⟨u, r, u1, r1, by rw [u2, r2], G', _, u3.mm r4, r3, eSl_ok hk v1 v2 v3 v4⟩
theorem P_smooth (x : Nat) : OP_smooth x (x + 22) (Rl x) := by
  intro A hA v1 v2
  obtain ⟨G, s, h, hR, hk⟩ := hA
  obtain ⟨u, G', u1, u2, u3, u4⟩ := W_smooth h hk v1 v2
  have hR := hR.kp u4
  obtain ⟨r, r1, r2, r3, r4⟩ := M_smooth hR hk v1 v2
  exact ⟨u, r, u1, r1, by rw [u2, r2], G', _, u3.mm r4, r3, eSmo_ok hk v1 v2⟩
theorem P_sum (x : Nat) : OP_sum x (x + 22) (Rl x) := by
  intro A hA v1 v2
  obtain ⟨G, s, h, hR, hk⟩ := hA
  obtain ⟨u, G', u1, u2, u3, u4⟩ := W_sum h hk v1 v2
  have hR := hR.kp u4
  obtain ⟨r, r1, r2, r3, r4⟩ := M_sum hR hk v1 v2
  exact ⟨u, r, u1, r1, by rw [u2, r2], G', _, u3.mm r4, r3, eSum_ok hk v1 v2⟩
theorem P_take (x : Nat) : OP_take x (x + 22) (Rl x) := by
  intro A hA v1
  obtain ⟨G, s, h, hR, hk⟩ := hA
  obtain ⟨u, G', u1, u2, u3, u4⟩ := W_take h hk v1
  have hR := hR.kp u4
  obtain ⟨r, r1, r2, r3, r4⟩ := M_take hR hk v1
  exact ⟨u, r, u1, r1, by rw [u2, r2], G', _, u3.mm r4, r3, eTake_ok hk v1⟩
theorem P_drift (x : Nat) : OP_drift x (x + 22) (Rl x) := by
  intro A hA v1
  obtain ⟨G, s, h, hR, hk⟩ := hA
  obtain ⟨u, G', u1, u2, u3, u4⟩ := W_drift h hk v1
  have hR := hR.kp u4
  obtain ⟨r, r1, r2, r3, r4⟩ := M_drift hR hk v1
  exact ⟨u, r, u1, r1, by rw [u2, r2], G', _, u3.mm r4, r3, eDrift_ok hk v1⟩
theorem P_undo (x : Nat) : OP_undo x (x + 22) (Rl x) := by
  intro A hA v1
  obtain ⟨G, s, h, hR, hk⟩ := hA
  obtain ⟨u, G', u1, u2, u3, u4⟩ := W_undo h hk v1
  have hR := hR.kp u4
  obtain ⟨r, r1, r2, r3, r4⟩ := M_undo hR hk v1
  exact ⟨u, r, u1, r1, by rw [u2, r2], G', _, u3.mm r4, r3, eUndo_ok hk v1⟩
theorem P_write (x : Nat) : OP_write x (x + 22) (Rl x) := by
  intro A hA v1 v2
  obtain ⟨G, s, h, hR, hk⟩ := hA
  obtain ⟨u, G', u1, u2, u3, u4⟩ := W_write h hk v1 v2
  have hR := hR.kp u4
  obtain ⟨r, r1, r2, r3, r4⟩ := M_write hR hk v1 v2
  exact ⟨u, r, u1, r1, by rw [u2, r2], G', _, u3.mm r4, r3, eWrite_ok hk v1 v2⟩
theorem P_tear (x : Nat) : OP_tear x (x + 22) (Rl x) := by
  intro A hA
  obtain ⟨G, s, h, hR, hk⟩ := hA
  obtain ⟨u, G', u1, u2, u3, u4⟩ := W_tear h
  have hR := hR.kp u4
  obtain ⟨r, r1, r2, r3, r4⟩ := M_tear hR
  exact ⟨u, r, u1, r1, by rw [u2, r2], G', _, u3.mm r4, r3, dTear_ok hk⟩
theorem P_keep (x : Nat) : OP_keep x (x + 22) (Rl x) := by
  intro A hA v1
  obtain ⟨G, s, h, hR, hk⟩ := hA
  obtain ⟨u, G', u1, u2, u3, u4⟩ := W_keep h hk v1
  have hR := hR.kp u4
  obtain ⟨r, r1, r2, r3, r4⟩ := M_keep hR hk v1
  exact ⟨u, r, u1, r1, by rw [u2, r2], G', _, u3.mm r4, r3, eKeep_ok hk v1⟩
theorem P_goBack (x : Nat) : OP_goBack x (x + 22) (Rl x) := by
  intro A hA v1
  obtain ⟨G, s, h, hR, hk⟩ := hA
  obtain ⟨u, G', u1, u2, u3, u4⟩ := W_goBack h hk v1
  have hR := hR.kp u4
  obtain ⟨r, r1, r2, r3, r4⟩ := M_goBack hR hk v1
  exact ⟨u, r, u1, r1, by rw [u2, r2], G', _, u3.mm r4, r3, eBack_ok hk v1⟩
theorem P_seed (x : Nat) : OP_seed x (x + 22) (Rl x) := by
  intro A hA v1
  obtain ⟨G, s, h, hR, hk⟩ := hA
  obtain ⟨u, G', u1, u2, u3, u4⟩ := W_seed h v1
  have hR := hR.kp u4
  obtain ⟨r, r1, r2, r3, r4⟩ := M_seed hR v1
  refine ⟨u, r, u1, r1, by rw [u2, r2], G', _, u3.mm r4, r3, ?_⟩
  split
  · exact dSeed_ok hk (by have := Bd_of v1; omega)
  · exact hk
theorem P_fault (x : Nat) : OP_fault x (x + 22) (Rl x) := by
  intro A hA
  obtain ⟨G, s, h, hR, hk⟩ := hA
  have e : fX12_fault A (some (x + 22)) = some (I (sFt s)) := by
    unfold fX12_fault
    rw [hR.1.rc, bs, gI_ok hR.1.k, bs, hR.2.2.2.2.2.2.1]
  exact ⟨_, _, W_fault h, e, rfl, G, s, h, hR, hk⟩
theorem P_at (x : Nat) : OP_at x (x + 22) (Rl x) := by
  intro A hA v1 v2
  obtain ⟨G, s, h, hR, hk⟩ := hA
  exact ⟨_, _, W_at h hk v1 v2, M_at hR hk v1 v2, rfl, G, s, h, hR, hk⟩
theorem P_told (x : Nat) : OP_told x (x + 22) (Rl x) := by
  intro A hA v1
  obtain ⟨G, s, h, hR, hk⟩ := hA
  obtain ⟨u, u1, u2, u3, u4⟩ := W_told h hk v1
  have hR := hR.kp u4
  obtain ⟨r, r1, r2, r3⟩ := M_told hR hk v1
  exact ⟨u, r, u1, r1, by rw [u2, r2], G, s, u3.mm r3.mm, hR.ms r3, hk⟩
theorem P_word (x : Nat) : OP_word x (x + 22) (Rl x) := by
  intro A hA v1 v2
  obtain ⟨G, s, h, hR, hk⟩ := hA
  obtain ⟨u, u1, u2, u3, u4⟩ := W_word h hk v1 v2
  have hR := hR.kp u4
  obtain ⟨r, r1, r2, r3⟩ := M_word hR hk v1 v2
  exact ⟨u, r, u1, r1, by rw [u2, r2], G, s, u3.mm r3.mm, hR.ms r3, hk⟩
theorem P_code (x : Nat) : OP_code x (x + 22) (Rl x) := by
  intro A hA v1
  obtain ⟨G, s, h, hR, hk⟩ := hA
  obtain ⟨u, u1, u2, u3, u4⟩ := W_code h hk v1
  have hR := hR.kp u4
  obtain ⟨r, r1, r2, r3⟩ := M_code hR hk v1
  exact ⟨u, r, u1, r1, by rw [u2, r2], G, s, u3.mm r3.mm, hR.ms r3, hk⟩
theorem P_face (x : Nat) : OP_face x (x + 22) (Rl x) := by
  intro A hA v1 v2 v3
  obtain ⟨G, s, h, hR, hk⟩ := hA
  obtain ⟨u, u1, u2, u3, u4⟩ := W_face h hk v1 v2 v3
  have hR := hR.kp u4
  obtain ⟨r, r1, r2, r3⟩ := M_face hR hk v1 v2 v3
  exact ⟨u, r, u1, r1, by rw [u2, r2], G, s, u3.mm r3.mm, hR.ms r3, hk⟩
theorem P_rings (x : Nat) : OP_rings x (x + 22) (Rl x) := by
  intro A hA v1 v2
  obtain ⟨G, s, h, hR, hk⟩ := hA
  obtain ⟨u, u1, u2, u3, u4⟩ := W_rings h hk v1 v2
  have hR := hR.kp u4
  obtain ⟨r, r1, r2, r3⟩ := M_rings hR hk v1 v2
  exact ⟨u, r, u1, r1, by rw [u2, r2], G, s, u3.mm r3.mm, hR.ms r3, hk⟩
theorem P_states (x : Nat) : OP_states x (x + 22) (Rl x) := by
  intro A hA v1 v2
  obtain ⟨G, s, h, hR, hk⟩ := hA
  obtain ⟨u, u1, u2, u3, u4⟩ := W_states h hk v1 v2
  have hR := hR.kp u4
  obtain ⟨r, r1, r2, r3⟩ := M_states hR hk v1 v2
  exact ⟨u, r, u1, r1, by rw [u2, r2], G, s, u3.mm r3.mm, hR.ms r3, hk⟩
theorem P_same (x : Nat) : OP_same x (x + 22) (Rl x) := by
  intro A hA v1 v2
  obtain ⟨G, s, h, hR, hk⟩ := hA
  obtain ⟨u, u1, u2, u3, u4⟩ := W_same h hk v1 v2
  have hR := hR.kp u4
  obtain ⟨r, r1, r2, r3⟩ := M_same hR hk v1 v2
  exact ⟨u, r, u1, r1, by rw [u2, r2], G, s, u3.mm r3.mm, hR.ms r3, hk⟩
theorem P_letter (hF : ∀ w, WOK w → wFc w ≤ 10) (x : Nat) : OP_letter x (x + 22) (Rl x) := by
  intro A hA v1 v2 v3
  obtain ⟨G, s, h, hR, hk⟩ := hA
  obtain ⟨u, u1, u2, u3, u4⟩ := W_letter h hk v1 v2 v3
  have hR := hR.kp u4
  obtain ⟨r, r1, r2, r3⟩ := M_letter hR hk (fun t ht => hF _ (hk.1.2 t ht)) v1 v2 v3
  exact ⟨u, r, u1, r1, by rw [u2, r2], G, s, u3.mm r3.mm, hR.ms r3, hk⟩
theorem laws (hF : ∀ w, WOK w → wFc w ≤ 10) (x : Nat) : LAWOK x (x + 22) (Rl x) := ⟨P_feed x, P_tell x, P_fault x, P_told x, P_word x, P_code x, P_at x, P_letter hF x, P_face x, P_rings x, P_states x, P_same x, P_signs x, P_draw x, P_turn x, P_twist x, P_untwist x, P_poke x, P_unpoke x, P_slide x, P_smooth x, P_sum x, P_take x, P_drift x, P_undo x, P_write x, P_tear x, P_seed x, P_keep x, P_goBack x⟩
