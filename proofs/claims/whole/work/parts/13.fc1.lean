noncomputable def fX8_init (A0 : AH) (o0 : Option Nat) : Option (AH) :=
  (rcv A0 9 o0).bind fun o0 =>
  (nA A0 18 6 6).bind fun A1 =>
  (pR A1 9 256 ((some o0)) ((some (Hs A0)))).bind fun A2 =>
  (pI A2 9 257 ((some o0)) 0).bind fun A3 =>
  some A3
set_option maxRecDepth 100000 in
set_option maxHeartbeats 4000000 in
theorem kX8_init (l : Launch) {A0 : AH} {o0 : Option Nat} {r : AH} (h : fX8_init A0 o0 = some r) : (∃ a, o0 = some a ∧ Hk A0 a = 9) ∧ Cn l yX8_init cX8_init 1 none 1 20 1 6 [vR o0] A0 none r := by
  unfold fX8_init at h
  replace h := bnd_e h
  obtain ⟨o1, e1, h⟩ := h
  obtain ⟨rfl, hk0⟩ := rcv_e e1
  refine ⟨⟨o1, rfl, hk0⟩, ?_⟩
  refine Cn.of (pad := 0) (lv0 := [some (vR (some o1))]) (by decide +kernel) (Nat.le_of_ble_eq_true rfl) rfl ?_
  intro p e s m below meth c base D cy E
  generalize (List.map toV [vR (some o1)]).toArray = ar at E ⊢
  have E : EN p s m ar meth c D cy RX8 cX8_init 1 none "<init>" := E
  refine v_aload_n E dX8_init_0 rfl ?_
  refine v_objInit E q114 q107 q108 ⟨_, rfl⟩ dX8_init_1 (Nat.le_of_ble_eq_true rfl) (Nat.le_of_ble_eq_true rfl) ?_
  refine v_aload_n E dX8_init_4 rfl ?_
  refine v_bipush (v := 6) E dX8_init_5 (by decide) ?_
  replace h := bnd_e h
  obtain ⟨A1, eA1, h⟩ := h
  refine na8_9 E eA1 (Nat.le_of_ble_eq_true rfl) (Nat.le_of_ble_eq_true rfl) (by decide) dX8_init_7 ?_
  replace h := bnd_e h
  obtain ⟨A2, eA2, h⟩ := h
  refine p8_11 E eA2 dX8_init_10 ?_
  refine v_aload_n E dX8_init_13 rfl ?_
  refine v_iconst (v := 0) E dX8_init_14 (by decide) ?_
  replace h := bnd_e h
  obtain ⟨A3, eA3, h⟩ := h
  refine p8_17 E eA3 dX8_init_15 ?_
  replace h := Option.some.inj h
  subst h
  refine v_widen (k' := 1) (n' := 6) (Nat.le_of_ble_eq_true rfl) (Nat.le_of_ble_eq_true rfl) ?_
  exact v_vret E dX8_init_18
noncomputable def fX9_init (A0 : AH) (o0 : Option Nat) : Option (AH) :=
  (rcv A0 10 o0).bind fun o0 =>
  (nA A0 14 20 20).bind fun A1 =>
  (pR A1 10 288 ((some o0)) ((some (Hs A0)))).bind fun A2 =>
  (pI A2 10 289 ((some o0)) 0).bind fun A3 =>
  (pI A3 10 290 ((some o0)) ((-1))).bind fun A4 =>
  some A4
set_option maxRecDepth 100000 in
set_option maxHeartbeats 4000000 in
theorem kX9_init (l : Launch) {A0 : AH} {o0 : Option Nat} {r : AH} (h : fX9_init A0 o0 = some r) : (∃ a, o0 = some a ∧ Hk A0 a = 10) ∧ Cn l yX9_init cX9_init 1 none 1 20 1 20 [vR o0] A0 none r := by
  unfold fX9_init at h
  replace h := bnd_e h
  obtain ⟨o1, e1, h⟩ := h
  obtain ⟨rfl, hk0⟩ := rcv_e e1
  refine ⟨⟨o1, rfl, hk0⟩, ?_⟩
  refine Cn.of (pad := 0) (lv0 := [some (vR (some o1))]) (by decide +kernel) (Nat.le_of_ble_eq_true rfl) rfl ?_
  intro p e s m below meth c base D cy E
  generalize (List.map toV [vR (some o1)]).toArray = ar at E ⊢
  have E : EN p s m ar meth c D cy RX9 cX9_init 1 none "<init>" := E
  refine v_aload_n E dX9_init_0 rfl ?_
  refine v_objInit E q129 q107 q108 ⟨_, rfl⟩ dX9_init_1 (Nat.le_of_ble_eq_true rfl) (Nat.le_of_ble_eq_true rfl) ?_
  refine v_aload_n E dX9_init_4 rfl ?_
  refine v_bipush (v := 20) E dX9_init_5 (by decide) ?_
  replace h := bnd_e h
  obtain ⟨A1, eA1, h⟩ := h
  refine v_newi E q140 eA1 (Nat.le_of_ble_eq_true rfl) (Nat.le_of_ble_eq_true rfl) (by decide) dX9_init_7 ?_
  replace h := bnd_e h
  obtain ⟨A2, eA2, h⟩ := h
  refine p9_9 E eA2 dX9_init_9 ?_
  refine v_aload_n E dX9_init_12 rfl ?_
  refine v_iconst (v := 0) E dX9_init_13 (by decide) ?_
  replace h := bnd_e h
  obtain ⟨A3, eA3, h⟩ := h
  refine p9_15 E eA3 dX9_init_14 ?_
  refine v_aload_n E dX9_init_17 rfl ?_
  refine v_iconst (v := (-1)) E dX9_init_18 (by decide) ?_
  replace h := bnd_e h
  obtain ⟨A4, eA4, h⟩ := h
  refine p9_19 E eA4 dX9_init_19 ?_
  replace h := Option.some.inj h
  subst h
  refine v_widen (k' := 1) (n' := 20) (Nat.le_of_ble_eq_true rfl) (Nat.le_of_ble_eq_true rfl) ?_
  exact v_vret E dX9_init_22
noncomputable def fX0_init (A0 : AH) (o0 : Option Nat) : Option (AH) :=
  (rcv A0 1 o0).bind fun o0 =>
  (nA A0 14 20 20).bind fun A1 =>
  (pR A1 1 0 ((some o0)) ((some (Hs A0)))).bind fun A2 =>
  (nA A2 14 20 20).bind fun A3 =>
  (pR A3 1 1 ((some o0)) ((some (Hs A2)))).bind fun A4 =>
  (pI A4 1 2 ((some o0)) 0).bind fun A5 =>
  some A5
set_option maxRecDepth 100000 in
set_option maxHeartbeats 4000000 in
theorem kX0_init (l : Launch) {A0 : AH} {o0 : Option Nat} {r : AH} (h : fX0_init A0 o0 = some r) : (∃ a, o0 = some a ∧ Hk A0 a = 1) ∧ Cn l yX0_init cX0_init 1 none 1 20 2 40 [vR o0] A0 none r := by
  unfold fX0_init at h
  replace h := bnd_e h
  obtain ⟨o1, e1, h⟩ := h
  obtain ⟨rfl, hk0⟩ := rcv_e e1
  refine ⟨⟨o1, rfl, hk0⟩, ?_⟩
  refine Cn.of (pad := 0) (lv0 := [some (vR (some o1))]) (by decide +kernel) (Nat.le_of_ble_eq_true rfl) rfl ?_
  intro p e s m below meth c base D cy E
  generalize (List.map toV [vR (some o1)]).toArray = ar at E ⊢
  have E : EN p s m ar meth c D cy RX0 cX0_init 1 none "<init>" := E
  refine v_aload_n E dX0_init_0 rfl ?_
  refine v_objInit E q146 q107 q108 ⟨_, rfl⟩ dX0_init_1 (Nat.le_of_ble_eq_true rfl) (Nat.le_of_ble_eq_true rfl) ?_
  refine v_aload_n E dX0_init_4 rfl ?_
  refine v_bipush (v := 20) E dX0_init_5 (by decide) ?_
  replace h := bnd_e h
  obtain ⟨A1, eA1, h⟩ := h
  refine v_newi E q140 eA1 (Nat.le_of_ble_eq_true rfl) (Nat.le_of_ble_eq_true rfl) (by decide) dX0_init_7 ?_
  replace h := bnd_e h
  obtain ⟨A2, eA2, h⟩ := h
  refine p0_9 E eA2 dX0_init_9 ?_
  refine v_aload_n E dX0_init_12 rfl ?_
  refine v_bipush (v := 20) E dX0_init_13 (by decide) ?_
  replace h := bnd_e h
  obtain ⟨A3, eA3, h⟩ := h
  refine v_newi E q140 eA3 (Nat.le_of_ble_eq_true rfl) (Nat.le_of_ble_eq_true rfl) (by decide) dX0_init_15 ?_
  replace h := bnd_e h
  obtain ⟨A4, eA4, h⟩ := h
  refine p0_15 E eA4 dX0_init_17 ?_
  refine v_aload_n E dX0_init_20 rfl ?_
  refine v_iconst (v := 0) E dX0_init_21 (by decide) ?_
  replace h := bnd_e h
  obtain ⟨A5, eA5, h⟩ := h
  refine p0_18 E eA5 dX0_init_22 ?_
  replace h := Option.some.inj h
  subst h
  refine v_widen (k' := 2) (n' := 40) (Nat.le_of_ble_eq_true rfl) (Nat.le_of_ble_eq_true rfl) ?_
  exact v_vret E dX0_init_25
noncomputable def fX5_init (A0 : AH) (o0 : Option Nat) : Option (AH) :=
  (rcv A0 6 o0).bind fun o0 =>
  (nA A0 17 16 16).bind fun A1 =>
  (pR A1 6 160 ((some o0)) ((some (Hs A0)))).bind fun A2 =>
  (pI A2 6 161 ((some o0)) 0).bind fun A3 =>
  (pI A3 6 162 ((some o0)) 0).bind fun A4 =>
  some A4
set_option maxRecDepth 100000 in
set_option maxHeartbeats 4000000 in
theorem kX5_init (l : Launch) {A0 : AH} {o0 : Option Nat} {r : AH} (h : fX5_init A0 o0 = some r) : (∃ a, o0 = some a ∧ Hk A0 a = 6) ∧ Cn l yX5_init cX5_init 1 none 1 20 1 16 [vR o0] A0 none r := by
  unfold fX5_init at h
  replace h := bnd_e h
  obtain ⟨o1, e1, h⟩ := h
  obtain ⟨rfl, hk0⟩ := rcv_e e1
  refine ⟨⟨o1, rfl, hk0⟩, ?_⟩
  refine Cn.of (pad := 0) (lv0 := [some (vR (some o1))]) (by decide +kernel) (Nat.le_of_ble_eq_true rfl) rfl ?_
  intro p e s m below meth c base D cy E
  generalize (List.map toV [vR (some o1)]).toArray = ar at E ⊢
  have E : EN p s m ar meth c D cy RX5 cX5_init 1 none "<init>" := E
  refine v_aload_n E dX5_init_0 rfl ?_
  refine v_objInit E q162 q107 q108 ⟨_, rfl⟩ dX5_init_1 (Nat.le_of_ble_eq_true rfl) (Nat.le_of_ble_eq_true rfl) ?_
  refine v_aload_n E dX5_init_4 rfl ?_
  refine v_bipush (v := 16) E dX5_init_5 (by decide) ?_
  replace h := bnd_e h
  obtain ⟨A1, eA1, h⟩ := h
  refine na5_9 E eA1 (Nat.le_of_ble_eq_true rfl) (Nat.le_of_ble_eq_true rfl) (by decide) dX5_init_7 ?_
  replace h := bnd_e h
  obtain ⟨A2, eA2, h⟩ := h
  refine p5_11 E eA2 dX5_init_10 ?_
  refine v_aload_n E dX5_init_13 rfl ?_
  refine v_iconst (v := 0) E dX5_init_14 (by decide) ?_
  replace h := bnd_e h
  obtain ⟨A3, eA3, h⟩ := h
  refine p5_17 E eA3 dX5_init_15 ?_
  refine v_aload_n E dX5_init_18 rfl ?_
  refine v_iconst (v := 0) E dX5_init_19 (by decide) ?_
  replace h := bnd_e h
  obtain ⟨A4, eA4, h⟩ := h
  refine p5_21 E eA4 dX5_init_20 ?_
  replace h := Option.some.inj h
  subst h
  refine v_widen (k' := 1) (n' := 16) (Nat.le_of_ble_eq_true rfl) (Nat.le_of_ble_eq_true rfl) ?_
  exact v_vret E dX5_init_23
noncomputable def fX6_init (A0 : AH) (o0 : Option Nat) : Option (AH) :=
  (rcv A0 7 o0).bind fun o0 =>
  (fX8_init ((nw A0 9 0)) ((some (Hs A0)))).bind fun r1 =>
  (pR r1 7 192 ((some o0)) ((some (Hs A0)))).bind fun A2 =>
  (pI A2 7 193 ((some o0)) 0).bind fun A3 =>
  (pZ A3 7 194 ((some o0)) 0).bind fun A4 =>
  some A4
set_option maxRecDepth 100000 in
set_option maxHeartbeats 4000000 in
theorem kX6_init (l : Launch) {A0 : AH} {o0 : Option Nat} {r : AH} (h : fX6_init A0 o0 = some r) : (∃ a, o0 = some a ∧ Hk A0 a = 7) ∧ Cn l yX6_init cX6_init 1 none 2 40 2 8 [vR o0] A0 none r := by
  unfold fX6_init at h
  replace h := bnd_e h
  obtain ⟨o1, e1, h⟩ := h
  obtain ⟨rfl, hk0⟩ := rcv_e e1
  refine ⟨⟨o1, rfl, hk0⟩, ?_⟩
  refine Cn.of (pad := 0) (lv0 := [some (vR (some o1))]) (by decide +kernel) (Nat.le_of_ble_eq_true rfl) rfl ?_
  intro p e s m below meth c base D cy E
  generalize (List.map toV [vR (some o1)]).toArray = ar at E ⊢
  have E : EN p s m ar meth c D cy RX6 cX6_init 1 none "<init>" := E
  refine v_aload_n E dX6_init_0 rfl ?_
  refine v_objInit E q181 q107 q108 ⟨_, rfl⟩ dX6_init_1 (Nat.le_of_ble_eq_true rfl) (Nat.le_of_ble_eq_true rfl) ?_
  refine v_aload_n E dX6_init_4 rfl ?_
  refine n6_7 E (Nat.le_of_ble_eq_true rfl) (Nat.le_of_ble_eq_true rfl) dX6_init_5 ?_
  refine v_dup E dX6_init_8 rfl ?_
  replace h := bnd_e h
  obtain ⟨r1, er1, h⟩ := h
  refine v_callIN (na := 0) (As := []) (rest := [vR (some (Hs A0)), vR (some o1)]) E gw6_9 gn6_9 q112 q87 rfl (by decide +kernel) (kX8_init l er1).2 (Exists.elim (kX8_init l er1).1 (fun a q => ⟨a, q.1⟩)) rfl rfl dX6_init_9 ⟨Nat.le_of_ble_eq_true rfl, Nat.le_of_ble_eq_true rfl⟩ ⟨(Nat.le_of_ble_eq_true rfl), (Nat.le_of_ble_eq_true rfl)⟩ (Nat.le_of_ble_eq_true rfl) ?_
  refine v_widen (k' := 2) (n' := 8) (Nat.le_of_ble_eq_true rfl) (Nat.le_of_ble_eq_true rfl) ?_
  replace h := bnd_e h
  obtain ⟨A2, eA2, h⟩ := h
  refine p6_10 E eA2 dX6_init_12 ?_
  refine v_aload_n E dX6_init_15 rfl ?_
  refine v_iconst (v := 0) E dX6_init_16 (by decide) ?_
  replace h := bnd_e h
  obtain ⟨A3, eA3, h⟩ := h
  refine p6_16 E eA3 dX6_init_17 ?_
  refine v_aload_n E dX6_init_20 rfl ?_
  refine v_iconst (v := 0) E dX6_init_21 (by decide) ?_
  replace h := bnd_e h
  obtain ⟨A4, eA4, h⟩ := h
  refine p6_20 E eA4 dX6_init_22 ?_
  replace h := Option.some.inj h
  subst h
  refine v_widen (k' := 2) (n' := 8) (Nat.le_of_ble_eq_true rfl) (Nat.le_of_ble_eq_true rfl) ?_
  exact v_vret E dX6_init_25
noncomputable def fX2_init (A0 : AH) (o0 : Option Nat) : Option (AH) :=
  (rcv A0 3 o0).bind fun o0 =>
  (pI A0 3 64 ((some o0)) 0).bind fun A1 =>
  some A1
set_option maxRecDepth 100000 in
set_option maxHeartbeats 4000000 in
theorem kX2_init (l : Launch) {A0 : AH} {o0 : Option Nat} {r : AH} (h : fX2_init A0 o0 = some r) : (∃ a, o0 = some a ∧ Hk A0 a = 3) ∧ Cn l yX2_init cX2_init 1 none 1 20 0 0 [vR o0] A0 none r := by
  unfold fX2_init at h
  replace h := bnd_e h
  obtain ⟨o1, e1, h⟩ := h
  obtain ⟨rfl, hk0⟩ := rcv_e e1
  refine ⟨⟨o1, rfl, hk0⟩, ?_⟩
  refine Cn.of (pad := 0) (lv0 := [some (vR (some o1))]) (by decide +kernel) (Nat.le_of_ble_eq_true rfl) rfl ?_
  intro p e s m below meth c base D cy E
  generalize (List.map toV [vR (some o1)]).toArray = ar at E ⊢
  have E : EN p s m ar meth c D cy RX2 cX2_init 1 none "<init>" := E
  refine v_aload_n E dX2_init_0 rfl ?_
  refine v_objInit E q199 q107 q108 ⟨_, rfl⟩ dX2_init_1 (Nat.le_of_ble_eq_true rfl) (Nat.le_of_ble_eq_true rfl) ?_
  refine v_aload_n E dX2_init_4 rfl ?_
  refine v_iconst (v := 0) E dX2_init_5 (by decide) ?_
  replace h := bnd_e h
  obtain ⟨A1, eA1, h⟩ := h
  refine p2_7 E eA1 dX2_init_6 ?_
  replace h := Option.some.inj h
  subst h
  refine v_widen (k' := 0) (n' := 0) (Nat.le_of_ble_eq_true rfl) (Nat.le_of_ble_eq_true rfl) ?_
  exact v_vret E dX2_init_9
noncomputable def fX1_init (A0 : AH) (o0 : Option Nat) : Option (AH) :=
  (rcv A0 2 o0).bind fun o0 =>
  (nA A0 14 16 16).bind fun A1 =>
  (pR A1 2 32 ((some o0)) ((some (Hs A0)))).bind fun A2 =>
  (pI A2 2 33 ((some o0)) 0).bind fun A3 =>
  some A3
set_option maxRecDepth 100000 in
set_option maxHeartbeats 4000000 in
theorem kX1_init (l : Launch) {A0 : AH} {o0 : Option Nat} {r : AH} (h : fX1_init A0 o0 = some r) : (∃ a, o0 = some a ∧ Hk A0 a = 2) ∧ Cn l yX1_init cX1_init 1 none 1 20 1 16 [vR o0] A0 none r := by
  unfold fX1_init at h
  replace h := bnd_e h
  obtain ⟨o1, e1, h⟩ := h
  obtain ⟨rfl, hk0⟩ := rcv_e e1
  refine ⟨⟨o1, rfl, hk0⟩, ?_⟩
  refine Cn.of (pad := 0) (lv0 := [some (vR (some o1))]) (by decide +kernel) (Nat.le_of_ble_eq_true rfl) rfl ?_
  intro p e s m below meth c base D cy E
  generalize (List.map toV [vR (some o1)]).toArray = ar at E ⊢
  have E : EN p s m ar meth c D cy RX1 cX1_init 1 none "<init>" := E
  refine v_aload_n E dX1_init_0 rfl ?_
  refine v_objInit E q209 q107 q108 ⟨_, rfl⟩ dX1_init_1 (Nat.le_of_ble_eq_true rfl) (Nat.le_of_ble_eq_true rfl) ?_
  refine v_aload_n E dX1_init_4 rfl ?_
  refine v_bipush (v := 16) E dX1_init_5 (by decide) ?_
  replace h := bnd_e h
  obtain ⟨A1, eA1, h⟩ := h
  refine v_newi E q140 eA1 (Nat.le_of_ble_eq_true rfl) (Nat.le_of_ble_eq_true rfl) (by decide) dX1_init_7 ?_
  replace h := bnd_e h
  obtain ⟨A2, eA2, h⟩ := h
  refine p1_9 E eA2 dX1_init_9 ?_
  refine v_aload_n E dX1_init_12 rfl ?_
  refine v_iconst (v := 0) E dX1_init_13 (by decide) ?_
  replace h := bnd_e h
  obtain ⟨A3, eA3, h⟩ := h
  refine p1_15 E eA3 dX1_init_14 ?_
  replace h := Option.some.inj h
  subst h
  refine v_widen (k' := 1) (n' := 16) (Nat.le_of_ble_eq_true rfl) (Nat.le_of_ble_eq_true rfl) ?_
  exact v_vret E dX1_init_17
noncomputable def fX4_init (A0 : AH) (o0 : Option Nat) : Option (AH) :=
  (rcv A0 5 o0).bind fun o0 =>
  (nA A0 14 32 32).bind fun A1 =>
  (pR A1 5 128 ((some o0)) ((some (Hs A0)))).bind fun A2 =>
  (pI A2 5 129 ((some o0)) 0).bind fun A3 =>
  (pI A3 5 130 ((some o0)) 0).bind fun A4 =>
  some A4
set_option maxRecDepth 100000 in
set_option maxHeartbeats 4000000 in
theorem kX4_init (l : Launch) {A0 : AH} {o0 : Option Nat} {r : AH} (h : fX4_init A0 o0 = some r) : (∃ a, o0 = some a ∧ Hk A0 a = 5) ∧ Cn l yX4_init cX4_init 1 none 1 20 1 32 [vR o0] A0 none r := by
  unfold fX4_init at h
  replace h := bnd_e h
  obtain ⟨o1, e1, h⟩ := h
  obtain ⟨rfl, hk0⟩ := rcv_e e1
  refine ⟨⟨o1, rfl, hk0⟩, ?_⟩
  refine Cn.of (pad := 0) (lv0 := [some (vR (some o1))]) (by decide +kernel) (Nat.le_of_ble_eq_true rfl) rfl ?_
  intro p e s m below meth c base D cy E
  generalize (List.map toV [vR (some o1)]).toArray = ar at E ⊢
  have E : EN p s m ar meth c D cy RX4 cX4_init 1 none "<init>" := E
  refine v_aload_n E dX4_init_0 rfl ?_
  refine v_objInit E q222 q107 q108 ⟨_, rfl⟩ dX4_init_1 (Nat.le_of_ble_eq_true rfl) (Nat.le_of_ble_eq_true rfl) ?_
  refine v_aload_n E dX4_init_4 rfl ?_
  refine v_bipush (v := 32) E dX4_init_5 (by decide) ?_
  replace h := bnd_e h
  obtain ⟨A1, eA1, h⟩ := h
  refine v_newi E q140 eA1 (Nat.le_of_ble_eq_true rfl) (Nat.le_of_ble_eq_true rfl) (by decide) dX4_init_7 ?_
  replace h := bnd_e h
  obtain ⟨A2, eA2, h⟩ := h
  refine p4_9 E eA2 dX4_init_9 ?_
  refine v_aload_n E dX4_init_12 rfl ?_
  refine v_iconst (v := 0) E dX4_init_13 (by decide) ?_
  replace h := bnd_e h
  obtain ⟨A3, eA3, h⟩ := h
  refine p4_15 E eA3 dX4_init_14 ?_
  refine v_aload_n E dX4_init_17 rfl ?_
  refine v_iconst (v := 0) E dX4_init_18 (by decide) ?_
  replace h := bnd_e h
  obtain ⟨A4, eA4, h⟩ := h
  refine p4_19 E eA4 dX4_init_19 ?_
  replace h := Option.some.inj h
  subst h
  refine v_widen (k' := 1) (n' := 32) (Nat.le_of_ble_eq_true rfl) (Nat.le_of_ble_eq_true rfl) ?_
  exact v_vret E dX4_init_22
noncomputable def fX11_init (A0 : AH) (o0 : Option Nat) : Option (AH) :=
  (rcv A0 12 o0).bind fun o0 =>
  (fX8_init ((nw A0 9 0)) ((some (Hs A0)))).bind fun r1 =>
  (pR r1 12 352 ((some o0)) ((some (Hs A0)))).bind fun A2 =>
  (fX9_init ((nw A2 10 0)) ((some (Hs A2)))).bind fun r3 =>
  (pR r3 12 353 ((some o0)) ((some (Hs A2)))).bind fun A4 =>
  (fX0_init ((nw A4 1 0)) ((some (Hs A4)))).bind fun r5 =>
  (pR r5 12 354 ((some o0)) ((some (Hs A4)))).bind fun A6 =>
  (fX5_init ((nw A6 6 0)) ((some (Hs A6)))).bind fun r7 =>
  (pR r7 12 355 ((some o0)) ((some (Hs A6)))).bind fun A8 =>
  (nA A8 16 2 2).bind fun A9 =>
  (fX6_init ((nw A9 7 0)) ((some (Hs A9)))).bind fun r10 =>
  (sR r10 16 7 ((some (Hs A8))) 0 ((some (Hs A9)))).bind fun A11 =>
  (fX6_init ((nw A11 7 0)) ((some (Hs A11)))).bind fun r12 =>
  (sR r12 16 7 ((some (Hs A8))) 1 ((some (Hs A11)))).bind fun A13 =>
  (pR A13 12 356 ((some o0)) ((some (Hs A8)))).bind fun A14 =>
  (fX2_init ((nw A14 3 0)) ((some (Hs A14)))).bind fun r15 =>
  (pR r15 12 357 ((some o0)) ((some (Hs A14)))).bind fun A16 =>
  (fX1_init ((nw A16 2 0)) ((some (Hs A16)))).bind fun r17 =>
  (pR r17 12 358 ((some o0)) ((some (Hs A16)))).bind fun A18 =>
  (fX4_init ((nw A18 5 0)) ((some (Hs A18)))).bind fun r19 =>
  (pR r19 12 359 ((some o0)) ((some (Hs A18)))).bind fun A20 =>
  some A20
set_option maxRecDepth 100000 in
set_option maxHeartbeats 4000000 in
theorem kX11_init (l : Launch) {A0 : AH} {o0 : Option Nat} {r : AH} (h : fX11_init A0 o0 = some r) : (∃ a, o0 = some a ∧ Hk A0 a = 12) ∧ Cn l yX11_init cX11_init 1 none 3 60 21 171 [vR o0] A0 none r := by
  unfold fX11_init at h
  replace h := bnd_e h
  obtain ⟨o1, e1, h⟩ := h
  obtain ⟨rfl, hk0⟩ := rcv_e e1
  refine ⟨⟨o1, rfl, hk0⟩, ?_⟩
  refine Cn.of (pad := 0) (lv0 := [some (vR (some o1))]) (by decide +kernel) (Nat.le_of_ble_eq_true rfl) rfl ?_
  intro p e s m below meth c base D cy E
  generalize (List.map toV [vR (some o1)]).toArray = ar at E ⊢
  have E : EN p s m ar meth c D cy RX11 cX11_init 1 none "<init>" := E
  refine v_aload_n E dX11_init_0 rfl ?_
  refine v_objInit E q106 q107 q108 ⟨_, rfl⟩ dX11_init_1 (Nat.le_of_ble_eq_true rfl) (Nat.le_of_ble_eq_true rfl) ?_
  refine v_aload_n E dX11_init_4 rfl ?_
  refine n11_7 E (Nat.le_of_ble_eq_true rfl) (Nat.le_of_ble_eq_true rfl) dX11_init_5 ?_
  refine v_dup E dX11_init_8 rfl ?_
  replace h := bnd_e h
  obtain ⟨r1, er1, h⟩ := h
  refine v_callIN (na := 0) (As := []) (rest := [vR (some (Hs A0)), vR (some o1)]) E gw11_9 gn11_9 q112 q87 rfl (by decide +kernel) (kX8_init l er1).2 (Exists.elim (kX8_init l er1).1 (fun a q => ⟨a, q.1⟩)) rfl rfl dX11_init_9 ⟨Nat.le_of_ble_eq_true rfl, Nat.le_of_ble_eq_true rfl⟩ ⟨(Nat.le_of_ble_eq_true rfl), (Nat.le_of_ble_eq_true rfl)⟩ (Nat.le_of_ble_eq_true rfl) ?_
  refine v_widen (k' := 2) (n' := 8) (Nat.le_of_ble_eq_true rfl) (Nat.le_of_ble_eq_true rfl) ?_
  replace h := bnd_e h
  obtain ⟨A2, eA2, h⟩ := h
  refine p11_10 E eA2 dX11_init_12 ?_
  refine v_aload_n E dX11_init_15 rfl ?_
  refine n11_16 E (Nat.le_of_ble_eq_true rfl) (Nat.le_of_ble_eq_true rfl) dX11_init_16 ?_
  refine v_dup E dX11_init_19 rfl ?_
  replace h := bnd_e h
  obtain ⟨r3, er3, h⟩ := h
  refine v_callIN (na := 0) (As := []) (rest := [vR (some (Hs A2)), vR (some o1)]) E gw11_18 gn11_18 q127 q88 rfl (by decide +kernel) (kX9_init l er3).2 (Exists.elim (kX9_init l er3).1 (fun a q => ⟨a, q.1⟩)) rfl rfl dX11_init_20 ⟨Nat.le_of_ble_eq_true rfl, Nat.le_of_ble_eq_true rfl⟩ ⟨(Nat.le_of_ble_eq_true rfl), (Nat.le_of_ble_eq_true rfl)⟩ (Nat.le_of_ble_eq_true rfl) ?_
  refine v_widen (k' := 4) (n' := 31) (Nat.le_of_ble_eq_true rfl) (Nat.le_of_ble_eq_true rfl) ?_
  replace h := bnd_e h
  obtain ⟨A4, eA4, h⟩ := h
  refine p11_19 E eA4 dX11_init_23 ?_
  refine v_aload_n E dX11_init_26 rfl ?_
  refine n11_23 E (Nat.le_of_ble_eq_true rfl) (Nat.le_of_ble_eq_true rfl) dX11_init_27 ?_
  refine v_dup E dX11_init_30 rfl ?_
  replace h := bnd_e h
  obtain ⟨r5, er5, h⟩ := h
  refine v_callIN (na := 0) (As := []) (rest := [vR (some (Hs A4)), vR (some o1)]) E gw11_25 gn11_25 q144 q89 rfl (by decide +kernel) (kX0_init l er5).2 (Exists.elim (kX0_init l er5).1 (fun a q => ⟨a, q.1⟩)) rfl rfl dX11_init_31 ⟨Nat.le_of_ble_eq_true rfl, Nat.le_of_ble_eq_true rfl⟩ ⟨(Nat.le_of_ble_eq_true rfl), (Nat.le_of_ble_eq_true rfl)⟩ (Nat.le_of_ble_eq_true rfl) ?_
  refine v_widen (k' := 7) (n' := 74) (Nat.le_of_ble_eq_true rfl) (Nat.le_of_ble_eq_true rfl) ?_
  replace h := bnd_e h
  obtain ⟨A6, eA6, h⟩ := h
  refine p11_26 E eA6 dX11_init_34 ?_
  refine v_aload_n E dX11_init_37 rfl ?_
  refine n11_30 E (Nat.le_of_ble_eq_true rfl) (Nat.le_of_ble_eq_true rfl) dX11_init_38 ?_
  refine v_dup E dX11_init_41 rfl ?_
  replace h := bnd_e h
  obtain ⟨r7, er7, h⟩ := h
  refine v_callIN (na := 0) (As := []) (rest := [vR (some (Hs A6)), vR (some o1)]) E gw11_32 gn11_32 q160 q90 rfl (by decide +kernel) (kX5_init l er7).2 (Exists.elim (kX5_init l er7).1 (fun a q => ⟨a, q.1⟩)) rfl rfl dX11_init_42 ⟨Nat.le_of_ble_eq_true rfl, Nat.le_of_ble_eq_true rfl⟩ ⟨(Nat.le_of_ble_eq_true rfl), (Nat.le_of_ble_eq_true rfl)⟩ (Nat.le_of_ble_eq_true rfl) ?_
  refine v_widen (k' := 9) (n' := 93) (Nat.le_of_ble_eq_true rfl) (Nat.le_of_ble_eq_true rfl) ?_
  replace h := bnd_e h
  obtain ⟨A8, eA8, h⟩ := h
  refine p11_33 E eA8 dX11_init_45 ?_
  refine v_aload_n E dX11_init_48 rfl ?_
  refine v_iconst (v := 2) E dX11_init_49 (by decide) ?_
  replace h := bnd_e h
  obtain ⟨A9, eA9, h⟩ := h
  refine na11_37 E eA9 (Nat.le_of_ble_eq_true rfl) (Nat.le_of_ble_eq_true rfl) (by decide) dX11_init_50 ?_
  refine v_dup E dX11_init_53 rfl ?_
  refine v_iconst (v := 0) E dX11_init_54 (by decide) ?_
  refine n11_37 E (Nat.le_of_ble_eq_true rfl) (Nat.le_of_ble_eq_true rfl) dX11_init_55 ?_
  refine v_dup E dX11_init_58 rfl ?_
  replace h := bnd_e h
  obtain ⟨r10, er10, h⟩ := h
  refine v_callIN (na := 0) (As := []) (rest := [vR (some (Hs A9)), vI 0, vR (some (Hs A8)), vR (some (Hs A8)), vR (some o1)]) E gw11_39 gn11_39 q179 q91 rfl (by decide +kernel) (kX6_init l er10).2 (Exists.elim (kX6_init l er10).1 (fun a q => ⟨a, q.1⟩)) rfl rfl dX11_init_59 ⟨Nat.le_of_ble_eq_true rfl, Nat.le_of_ble_eq_true rfl⟩ ⟨(Nat.le_of_ble_eq_true rfl), (Nat.le_of_ble_eq_true rfl)⟩ (Nat.le_of_ble_eq_true rfl) ?_
  refine v_widen (k' := 13) (n' := 106) (Nat.le_of_ble_eq_true rfl) (Nat.le_of_ble_eq_true rfl) ?_
  replace h := bnd_e h
  obtain ⟨A11, eA11, h⟩ := h
  refine v_aastore (kd := 16) (ci := 6) (t0 := 2) E (by decide) (by decide) rfl rfl eA11 dX11_init_62 ?_
  refine v_dup E dX11_init_63 rfl ?_
  refine v_iconst (v := 1) E dX11_init_64 (by decide) ?_
  refine n11_37 E (Nat.le_of_ble_eq_true rfl) (Nat.le_of_ble_eq_true rfl) dX11_init_65 ?_
  refine v_dup E dX11_init_68 rfl ?_
  replace h := bnd_e h
  obtain ⟨r12, er12, h⟩ := h
  refine v_callIN (na := 0) (As := []) (rest := [vR (some (Hs A11)), vI 1, vR (some (Hs A8)), vR (some (Hs A8)), vR (some o1)]) E gw11_39 gn11_39 q179 q91 rfl (by decide +kernel) (kX6_init l er12).2 (Exists.elim (kX6_init l er12).1 (fun a q => ⟨a, q.1⟩)) rfl rfl dX11_init_69 ⟨Nat.le_of_ble_eq_true rfl, Nat.le_of_ble_eq_true rfl⟩ ⟨(Nat.le_of_ble_eq_true rfl), (Nat.le_of_ble_eq_true rfl)⟩ (Nat.le_of_ble_eq_true rfl) ?_
  refine v_widen (k' := 16) (n' := 117) (Nat.le_of_ble_eq_true rfl) (Nat.le_of_ble_eq_true rfl) ?_
  replace h := bnd_e h
  obtain ⟨A13, eA13, h⟩ := h
  refine v_aastore (kd := 16) (ci := 6) (t0 := 2) E (by decide) (by decide) rfl rfl eA13 dX11_init_72 ?_
  replace h := bnd_e h
  obtain ⟨A14, eA14, h⟩ := h
  refine p11_40 E eA14 dX11_init_73 ?_
  refine v_aload_n E dX11_init_76 rfl ?_
  refine n11_44 E (Nat.le_of_ble_eq_true rfl) (Nat.le_of_ble_eq_true rfl) dX11_init_77 ?_
  refine v_dup E dX11_init_80 rfl ?_
  replace h := bnd_e h
  obtain ⟨r15, er15, h⟩ := h
  refine v_callIN (na := 0) (As := []) (rest := [vR (some (Hs A14)), vR (some o1)]) E gw11_46 gn11_46 q197 q92 rfl (by decide +kernel) (kX2_init l er15).2 (Exists.elim (kX2_init l er15).1 (fun a q => ⟨a, q.1⟩)) rfl rfl dX11_init_81 ⟨Nat.le_of_ble_eq_true rfl, Nat.le_of_ble_eq_true rfl⟩ ⟨(Nat.le_of_ble_eq_true rfl), (Nat.le_of_ble_eq_true rfl)⟩ (Nat.le_of_ble_eq_true rfl) ?_
  replace h := bnd_e h
  obtain ⟨A16, eA16, h⟩ := h
  refine p11_47 E eA16 dX11_init_84 ?_
  refine v_aload_n E dX11_init_87 rfl ?_
  refine n11_51 E (Nat.le_of_ble_eq_true rfl) (Nat.le_of_ble_eq_true rfl) dX11_init_88 ?_
  refine v_dup E dX11_init_91 rfl ?_
  replace h := bnd_e h
  obtain ⟨r17, er17, h⟩ := h
  refine v_callIN (na := 0) (As := []) (rest := [vR (some (Hs A16)), vR (some o1)]) E gw11_53 gn11_53 q207 q93 rfl (by decide +kernel) (kX1_init l er17).2 (Exists.elim (kX1_init l er17).1 (fun a q => ⟨a, q.1⟩)) rfl rfl dX11_init_92 ⟨Nat.le_of_ble_eq_true rfl, Nat.le_of_ble_eq_true rfl⟩ ⟨(Nat.le_of_ble_eq_true rfl), (Nat.le_of_ble_eq_true rfl)⟩ (Nat.le_of_ble_eq_true rfl) ?_
  refine v_widen (k' := 19) (n' := 136) (Nat.le_of_ble_eq_true rfl) (Nat.le_of_ble_eq_true rfl) ?_
  replace h := bnd_e h
  obtain ⟨A18, eA18, h⟩ := h
  refine p11_54 E eA18 dX11_init_95 ?_
  refine v_aload_n E dX11_init_98 rfl ?_
  refine n11_58 E (Nat.le_of_ble_eq_true rfl) (Nat.le_of_ble_eq_true rfl) dX11_init_99 ?_
  refine v_dup E dX11_init_102 rfl ?_
  replace h := bnd_e h
  obtain ⟨r19, er19, h⟩ := h
  refine v_callIN (na := 0) (As := []) (rest := [vR (some (Hs A18)), vR (some o1)]) E gw11_60 gn11_60 q220 q94 rfl (by decide +kernel) (kX4_init l er19).2 (Exists.elim (kX4_init l er19).1 (fun a q => ⟨a, q.1⟩)) rfl rfl dX11_init_103 ⟨Nat.le_of_ble_eq_true rfl, Nat.le_of_ble_eq_true rfl⟩ ⟨(Nat.le_of_ble_eq_true rfl), (Nat.le_of_ble_eq_true rfl)⟩ (Nat.le_of_ble_eq_true rfl) ?_
  refine v_widen (k' := 21) (n' := 171) (Nat.le_of_ble_eq_true rfl) (Nat.le_of_ble_eq_true rfl) ?_
  replace h := bnd_e h
  obtain ⟨A20, eA20, h⟩ := h
  refine p11_61 E eA20 dX11_init_106 ?_
  replace h := Option.some.inj h
  subst h
  refine v_widen (k' := 21) (n' := 171) (Nat.le_of_ble_eq_true rfl) (Nat.le_of_ble_eq_true rfl) ?_
  exact v_vret E dX11_init_109
noncomputable def fX9_put (A0 : AH) (o0 : Option Nat) (a1 : Int32) : Option (Int32 × AH) :=
  (rcv A0 10 o0).bind fun o0 =>
  (gI A0 10 289 ((some o0))).bind fun v1 =>
  (gR A0 10 288 ((some o0))).bind fun v2 =>
  (aL A0 14 v2).bind fun v3 =>
  if v1 < v3 then
    (gR A0 10 288 ((some o0))).bind fun v4 =>
    (gI A0 10 289 ((some o0))).bind fun v5 =>
    (sI A0 14 v4 v5 a1).bind fun A6 =>
    (gI A6 10 289 ((some o0))).bind fun v7 =>
    (pI A6 10 289 ((some o0)) ((v7 + 1))).bind fun A8 =>
    some ((1, A8))
  else
    some ((0, A0))
set_option maxRecDepth 100000 in
set_option maxHeartbeats 4000000 in
theorem kX9_put (l : Launch) {A0 : AH} {o0 : Option Nat} {a1 : Int32} {r : Int32 × AH} (h : fX9_put A0 o0 a1 = some r) : (∃ a, o0 = some a ∧ Hk A0 a = 10) ∧ Cn l yX9_put cX9_put 2 (some .boolean) 0 0 0 0 [vR o0, vI a1] A0 (some (vI r.1)) r.2 := by
  unfold fX9_put at h
  replace h := bnd_e h
  obtain ⟨o1, e1, h⟩ := h
  obtain ⟨rfl, hk0⟩ := rcv_e e1
  refine ⟨⟨o1, rfl, hk0⟩, ?_⟩
  refine Cn.of (pad := 0) (lv0 := [some (vR (some o1)), some (vI a1)]) (by decide +kernel) (Nat.le_of_ble_eq_true rfl) rfl ?_
  intro p e s m below meth c base D cy E
  generalize (List.map toV [vR (some o1), vI a1]).toArray = ar at E ⊢
  have E : EN p s m ar meth c D cy RX9 cX9_put 2 (some .boolean) "put" := E
  refine v_aload_n E dX9_put_0 rfl ?_
  replace h := bnd_e h
  obtain ⟨v1, ev1, h⟩ := h
  refine g9_15 E ev1 dX9_put_1 ?_
  refine v_aload_n E dX9_put_4 rfl ?_
  replace h := bnd_e h
  obtain ⟨v2, ev2, h⟩ := h
  refine g9_9 E ev2 dX9_put_5 ?_
  replace h := bnd_e h
  obtain ⟨v3, ev3, h⟩ := h
  refine v_alen (kd := 14) (t0 := 0) E (by decide) rfl ev3 dX9_put_8 ?_
  refine v_icmp_lt (tgt := 14) E dX9_put_9 (by decide) (fun c9 => ?_) (fun c9 => ?_)
  · rw [if_pos c9] at h
    refine v_aload_n E dX9_put_14 rfl ?_
    replace h := bnd_e h
    obtain ⟨v4, ev4, h⟩ := h
    refine g9_9 E ev4 dX9_put_15 ?_
    refine v_aload_n E dX9_put_18 rfl ?_
    replace h := bnd_e h
    obtain ⟨v5, ev5, h⟩ := h
    refine g9_15 E ev5 dX9_put_19 ?_
    refine v_iload_n E dX9_put_22 rfl ?_
    replace h := bnd_e h
    obtain ⟨A6, eA6, h⟩ := h
    refine v_iastore E eA6 dX9_put_23 ?_
    refine v_aload_n E dX9_put_24 rfl ?_
    refine v_dup E dX9_put_25 rfl ?_
    replace h := bnd_e h
    obtain ⟨v7, ev7, h⟩ := h
    refine g9_15 E ev7 dX9_put_26 ?_
    refine v_iconst (v := 1) E dX9_put_29 (by decide) ?_
    refine v_iadd E dX9_put_30 ?_
    replace h := bnd_e h
    obtain ⟨A8, eA8, h⟩ := h
    refine p9_15 E eA8 dX9_put_31 ?_
    refine v_iconst (v := 1) E dX9_put_34 (by decide) ?_
    replace h := Option.some.inj h
    subst h
    refine v_widen (k' := 0) (n' := 0) (Nat.le_of_ble_eq_true rfl) (Nat.le_of_ble_eq_true rfl) ?_
    exact v_zret E (Or.inr rfl) dX9_put_35
  · rw [if_neg c9] at h
    refine v_iconst (v := 0) E dX9_put_12 (by decide) ?_
    replace h := Option.some.inj h
    subst h
    refine v_widen (k' := 0) (n' := 0) (Nat.le_of_ble_eq_true rfl) (Nat.le_of_ble_eq_true rfl) ?_
    exact v_zret E (Or.inl rfl) dX9_put_13
noncomputable def fX9_length (A0 : AH) (o0 : Option Nat) : Option (Int32) :=
  (rcv A0 10 o0).bind fun o0 =>
  (gI A0 10 289 ((some o0))).bind fun v1 =>
  some v1
set_option maxRecDepth 100000 in
set_option maxHeartbeats 4000000 in
theorem kX9_length (l : Launch) {A0 : AH} {o0 : Option Nat} {r : Int32} (h : fX9_length A0 o0 = some r) : (∃ a, o0 = some a ∧ Hk A0 a = 10) ∧ Cn l yX9_length cX9_length 1 (some .int) 0 0 0 0 [vR o0] A0 (some (vI r)) A0 := by
  unfold fX9_length at h
  replace h := bnd_e h
  obtain ⟨o1, e1, h⟩ := h
  obtain ⟨rfl, hk0⟩ := rcv_e e1
  refine ⟨⟨o1, rfl, hk0⟩, ?_⟩
  refine Cn.of (pad := 0) (lv0 := [some (vR (some o1))]) (by decide +kernel) (Nat.le_of_ble_eq_true rfl) rfl ?_
  intro p e s m below meth c base D cy E
  generalize (List.map toV [vR (some o1)]).toArray = ar at E ⊢
  have E : EN p s m ar meth c D cy RX9 cX9_length 1 (some .int) "length" := E
  refine v_aload_n E dX9_length_0 rfl ?_
  replace h := bnd_e h
  obtain ⟨v1, ev1, h⟩ := h
  refine g9_15 E ev1 dX9_length_1 ?_
  replace h := Option.some.inj h
  subst h
  refine v_widen (k' := 0) (n' := 0) (Nat.le_of_ble_eq_true rfl) (Nat.le_of_ble_eq_true rfl) ?_
  exact v_iret E dX9_length_4
noncomputable def fX11_feed (A0 : AH) (o0 : Option Nat) (a1 : Int32) : Option (Int32 × AH) :=
  (rcv A0 12 o0).bind fun o0 =>
  if a1 < 0 then
    some (((-1000000002), A0))
  else
    if a1 ≤ 255 then
      (gR A0 12 353 ((some o0))).bind fun v1 =>
      (fX9_put A0 v1 a1).bind fun r2 =>
      if r2.1 = 0 then
        some (((-1000000004), r2.2))
      else
        (gR r2.2 12 353 ((some o0))).bind fun v3 =>
        (fX9_length r2.2 v3).bind fun r4 =>
        some ((r4, r2.2))
    else
      some (((-1000000002), A0))
set_option maxRecDepth 100000 in
set_option maxHeartbeats 4000000 in
theorem kX11_feed (l : Launch) {A0 : AH} {o0 : Option Nat} {a1 : Int32} {r : Int32 × AH} (h : fX11_feed A0 o0 a1 = some r) : (∃ a, o0 = some a ∧ Hk A0 a = 12) ∧ Cn l yX11_feed cX11_feed 2 (some .int) 1 21 0 0 [vR o0, vI a1] A0 (some (vI r.1)) r.2 := by
  unfold fX11_feed at h
  replace h := bnd_e h
  obtain ⟨o1, e1, h⟩ := h
  obtain ⟨rfl, hk0⟩ := rcv_e e1
  refine ⟨⟨o1, rfl, hk0⟩, ?_⟩
  refine Cn.of (pad := 0) (lv0 := [some (vR (some o1)), some (vI a1)]) (by decide +kernel) (Nat.le_of_ble_eq_true rfl) rfl ?_
  intro p e s m below meth c base D cy E
  generalize (List.map toV [vR (some o1), vI a1]).toArray = ar at E ⊢
  have E : EN p s m ar meth c D cy RX11 cX11_feed 2 (some .int) "feed" := E
  refine v_iload_n E dX11_feed_0 rfl ?_
  refine v_if_lt (tgt := 11) E dX11_feed_1 (by decide) (fun c7 => ?_) (fun c7 => ?_)
  · rw [if_pos c7] at h
    refine v_ldc (v := (-1000000002)) E dX11_feed_11 q262 ?_
    replace h := Option.some.inj h
    subst h
    refine v_widen (k' := 0) (n' := 0) (Nat.le_of_ble_eq_true rfl) (Nat.le_of_ble_eq_true rfl) ?_
    exact v_iret E dX11_feed_13
  · rw [if_neg c7] at h
    refine v_iload_n E dX11_feed_4 rfl ?_
    refine v_sipush (v := 255) E dX11_feed_5 (by decide) ?_
    refine v_icmp_le (tgt := 14) E dX11_feed_8 (by decide) (fun c6 => ?_) (fun c6 => ?_)
    · rw [if_pos c6] at h
      refine v_aload_n E dX11_feed_14 rfl ?_
      replace h := bnd_e h
      obtain ⟨v1, ev1, h⟩ := h
      refine g11_19 E ev1 dX11_feed_15 ?_
      refine v_iload_n E dX11_feed_18 rfl ?_
      replace h := bnd_e h
      obtain ⟨r2, er2, h⟩ := h
      refine v_callV (na := 1) (As := [vI a1]) (rest := []) (ci := 9) (q := (RX9, TX9, 3)) E gw11_66 (by decide +kernel) rfl rfl (by decide) (kX9_put l er2).2 (kX9_put l er2).1 rfl rfl dX11_feed_19 ⟨Nat.le_of_ble_eq_true rfl, Nat.le_of_ble_eq_true rfl⟩ ⟨(Nat.le_of_ble_eq_true rfl), (Nat.le_of_ble_eq_true rfl)⟩ (Nat.le_of_ble_eq_true rfl) ?_
      refine v_if_eq (tgt := 35) E dX11_feed_22 (by decide) (fun c5 => ?_) (fun c5 => ?_)
      · rw [if_pos c5] at h
        refine v_ldc (v := (-1000000004)) E dX11_feed_35 q271 ?_
        replace h := Option.some.inj h
        subst h
        refine v_widen (k' := 0) (n' := 0) (Nat.le_of_ble_eq_true rfl) (Nat.le_of_ble_eq_true rfl) ?_
        exact v_iret E dX11_feed_37
      · rw [if_neg c5] at h
        refine v_aload_n E dX11_feed_25 rfl ?_
        replace h := bnd_e h
        obtain ⟨v3, ev3, h⟩ := h
        refine g11_19 E ev3 dX11_feed_26 ?_
        replace h := bnd_e h
        obtain ⟨r4, er4, h⟩ := h
        refine v_callV (na := 0) (As := []) (rest := []) (ci := 9) (q := (RX9, TX9, 3)) E gw11_70 (by decide +kernel) rfl rfl (by decide) (kX9_length l er4).2 (kX9_length l er4).1 rfl rfl dX11_feed_29 ⟨Nat.le_of_ble_eq_true rfl, Nat.le_of_ble_eq_true rfl⟩ ⟨(Nat.le_of_ble_eq_true rfl), (Nat.le_of_ble_eq_true rfl)⟩ (Nat.le_of_ble_eq_true rfl) ?_
        refine v_goto (tgt := 37) E dX11_feed_32 (by decide) ?_
        replace h := Option.some.inj h
        subst h
        refine v_widen (k' := 0) (n' := 0) (Nat.le_of_ble_eq_true rfl) (Nat.le_of_ble_eq_true rfl) ?_
        exact v_iret E dX11_feed_37
    · rw [if_neg c6] at h
      refine v_ldc (v := (-1000000002)) E dX11_feed_11 q262 ?_
      replace h := Option.some.inj h
      subst h
      refine v_widen (k' := 0) (n' := 0) (Nat.le_of_ble_eq_true rfl) (Nat.le_of_ble_eq_true rfl) ?_
      exact v_iret E dX11_feed_13
noncomputable def fX8_isFull (A0 : AH) (o0 : Option Nat) : Option (Int32) :=
  (rcv A0 9 o0).bind fun o0 =>
  (gI A0 9 257 ((some o0))).bind fun v1 =>
  (gR A0 9 256 ((some o0))).bind fun v2 =>
  (aL A0 18 v2).bind fun v3 =>
  if v1 < v3 then
    some 0
  else
    some 1
set_option maxRecDepth 100000 in
set_option maxHeartbeats 4000000 in
theorem kX8_isFull (l : Launch) {A0 : AH} {o0 : Option Nat} {r : Int32} (h : fX8_isFull A0 o0 = some r) : (∃ a, o0 = some a ∧ Hk A0 a = 9) ∧ Cn l yX8_isFull cX8_isFull 1 (some .boolean) 0 0 0 0 [vR o0] A0 (some (vI r)) A0 := by
  unfold fX8_isFull at h
  replace h := bnd_e h
  obtain ⟨o1, e1, h⟩ := h
  obtain ⟨rfl, hk0⟩ := rcv_e e1
  refine ⟨⟨o1, rfl, hk0⟩, ?_⟩
  refine Cn.of (pad := 0) (lv0 := [some (vR (some o1))]) (by decide +kernel) (Nat.le_of_ble_eq_true rfl) rfl ?_
  intro p e s m below meth c base D cy E
  generalize (List.map toV [vR (some o1)]).toArray = ar at E ⊢
  have E : EN p s m ar meth c D cy RX8 cX8_isFull 1 (some .boolean) "isFull" := E
  refine v_aload_n E dX8_isFull_0 rfl ?_
  replace h := bnd_e h
  obtain ⟨v1, ev1, h⟩ := h
  refine g8_17 E ev1 dX8_isFull_1 ?_
  refine v_aload_n E dX8_isFull_4 rfl ?_
  replace h := bnd_e h
  obtain ⟨v2, ev2, h⟩ := h
  refine g8_11 E ev2 dX8_isFull_5 ?_
  replace h := bnd_e h
  obtain ⟨v3, ev3, h⟩ := h
  refine v_alen (kd := 18) (t0 := 4) E (by decide) rfl ev3 dX8_isFull_8 ?_
  refine v_icmp_lt (tgt := 16) E dX8_isFull_9 (by decide) (fun c4 => ?_) (fun c4 => ?_)
  · rw [if_pos c4] at h
    refine v_iconst (v := 0) E dX8_isFull_16 (by decide) ?_
    replace h := Option.some.inj h
    subst h
    refine v_widen (k' := 0) (n' := 0) (Nat.le_of_ble_eq_true rfl) (Nat.le_of_ble_eq_true rfl) ?_
    exact v_zret E (Or.inl rfl) dX8_isFull_17
  · rw [if_neg c4] at h
    refine v_iconst (v := 1) E dX8_isFull_12 (by decide) ?_
    refine v_goto (tgt := 17) E dX8_isFull_13 (by decide) ?_
    replace h := Option.some.inj h
    subst h
    refine v_widen (k' := 0) (n' := 0) (Nat.le_of_ble_eq_true rfl) (Nat.le_of_ble_eq_true rfl) ?_
    exact v_zret E (Or.inr rfl) dX8_isFull_17
noncomputable def fX9_countOf (A0 : AH) (o0 : Option Nat) (a1 : Int32) (a2 : Int32) : Option (Int32) :=
  (rcv A0 10 o0).bind fun o0 =>
  (iter (S := Int32 × Int32) (T := Int32) (fun s1 =>
      if a2 ≤ s1.2 then
        some (.inr s1.1)
      else
        (gR A0 10 288 ((some o0))).bind fun v4 =>
        (aI A0 14 v4 s1.2).bind fun v5 =>
        jp (fun (x8 : Int32) =>
          some (.inl (x8, (s1.2 + 1)))) fun K6 =>
          if v5 = a1 then
            K6 ((s1.1 + 1))
          else
            K6 s1.1) (0, 0)).bind fun t2 =>
  some t2
set_option maxRecDepth 100000 in
set_option maxHeartbeats 4000000 in
theorem kX9_countOf (l : Launch) {A0 : AH} {o0 : Option Nat} {a1 : Int32} {a2 : Int32} {r : Int32} (h : fX9_countOf A0 o0 a1 a2 = some r) : (∃ a, o0 = some a ∧ Hk A0 a = 10) ∧ Cn l yX9_countOf cX9_countOf 5 (some .int) 0 0 0 0 [vR o0, vI a1, vI a2] A0 (some (vI r)) A0 := by
  unfold fX9_countOf at h
  replace h := bnd_e h
  obtain ⟨o1, e1, h⟩ := h
  obtain ⟨rfl, hk0⟩ := rcv_e e1
  refine ⟨⟨o1, rfl, hk0⟩, ?_⟩
  refine Cn.of (pad := 2) (lv0 := [some (vR (some o1)), some (vI a1), some (vI a2), none, none]) (by decide +kernel) (Nat.le_of_ble_eq_true rfl) rfl ?_
  intro p e s m below meth c base D cy E
  generalize (List.map toV [vR (some o1), vI a1, vI a2]).toArray = ar at E ⊢
  have E : EN p s m ar meth c D cy RX9 cX9_countOf 5 (some .int) "countOf" := E
  refine v_iconst (v := 0) E dX9_countOf_0 (by decide) ?_
  refine v_istore_n (lv' := [some (vR (some o1)), some (vI a1), some (vI a2), some (vI 0), none]) E dX9_countOf_1 (by decide) rfl ?_
  refine v_iconst (v := 0) E dX9_countOf_2 (by decide) ?_
  refine v_istore (lv' := [some (vR (some o1)), some (vI a1), some (vI a2), some (vI 0), some (vI 0)]) E dX9_countOf_3 (by decide) rfl ?_
  replace h := bnd_e h
  obtain ⟨t2, et2, h⟩ := h
  refine iter_V (S := Int32 × Int32) (T := Int32) (Ph := fun s1 => V p l e { frames := 0, cells := 0, slots := 0, locals := 0 } s m ar below meth c (MQ below (Qd base D cy (some (vI r)) A0) ar s 0 0 (fun q => base ≤ q)) base D cy 5 5 [some (vR (some o1)), some (vI a1), some (vI a2), some (vI s1.1), some (vI s1.2)] [] A0 0 0) (Pt := fun t2 => V p l e { frames := 0, cells := 0, slots := 0, locals := 0 } s m ar below meth c (MQ below (Qd base D cy (some (vI r)) A0) ar s 0 0 (fun q => base ≤ q)) base D cy 5 31 [none, none, none, some (vI t2), none] [] A0 0 0) et2 (fun s1 w3 h hx => ?_) ?_
  · try dsimp only at h
    refine v_iload E dX9_countOf_5 rfl ?_
    refine v_iload_n E dX9_countOf_7 rfl ?_
    refine v_icmp_ge (tgt := 31) E dX9_countOf_8 (by decide) (fun c9 => ?_) (fun c9 => ?_)
    · rw [if_pos c9] at h
      refine v_drop (lv' := [none, none, none, some (vI s1.1), none]) [0, 1, 2, 4] rfl ?_
      replace h := Option.some.inj h
      subst h
      exact hx
    · rw [if_neg c9] at h
      refine v_aload_n E dX9_countOf_11 rfl ?_
      replace h := bnd_e h
      obtain ⟨v4, ev4, h⟩ := h
      refine g9_9 E ev4 dX9_countOf_12 ?_
      refine v_iload E dX9_countOf_15 rfl ?_
      replace h := bnd_e h
      obtain ⟨v5, ev5, h⟩ := h
      refine v_iaload E ev5 dX9_countOf_17 ?_
      refine v_iload_n E dX9_countOf_18 rfl ?_
      refine jp_use h (fun K6 eK6 h => ?_)
      have hK6 : ∀ x8 : Int32, K6 x8 = some w3 → V p l e { frames := 0, cells := 0, slots := 0, locals := 0 } s m ar below meth c (MQ below (Qd base D cy (some (vI r)) A0) ar s 0 0 (fun q => base ≤ q)) base D cy 5 25 [some (vR (some o1)), some (vI a1), some (vI a2), some (vI x8), some (vI s1.2)] [] A0 0 0 := by
        intro x8 h
        rw [eK6] at h
        try dsimp only at h
        refine v_iinc (v := (s1.2 + 1)) (lv' := [some (vR (some o1)), some (vI a1), some (vI a2), some (vI x8), some (vI (s1.2 + 1))]) E dX9_countOf_25 rfl (by rfl) (by decide) rfl ?_
        refine v_goto (tgt := 5) E dX9_countOf_28 (by decide) ?_
        replace h := Option.some.inj h
        subst h
        exact hx
      refine v_icmp_ne (tgt := 25) E dX9_countOf_19 (by decide) (fun c7 => ?_) (fun c7 => ?_)
      · rw [if_neg c7] at h
        exact hK6 s1.1 h
      · rw [if_pos c7] at h
        refine v_iinc (v := (s1.1 + 1)) (lv' := [some (vR (some o1)), some (vI a1), some (vI a2), some (vI (s1.1 + 1)), some (vI s1.2)]) E dX9_countOf_22 rfl (by rfl) (by decide) rfl ?_
        exact hK6 ((s1.1 + 1)) h
  · refine v_iload_n E dX9_countOf_31 rfl ?_
    replace h := Option.some.inj h
    subst h
    refine v_widen (k' := 0) (n' := 0) (Nat.le_of_ble_eq_true rfl) (Nat.le_of_ble_eq_true rfl) ?_
    exact v_iret E dX9_countOf_32
noncomputable def fX9_faultOfLetter (A0 : AH) (a1 : Int32) (a2 : Int32) (a3 : Int32) : Option (Int32) :=
  if a1 < 97 then
    some 1
  else
    if a1 ≤ 122 then
      if a2 = 2 then
        some 2
      else
        if a3 ≤ 8 then
          some 0
        else
          some 3
    else
      some 1
set_option maxRecDepth 100000 in
set_option maxHeartbeats 4000000 in
theorem kX9_faultOfLetter (l : Launch) {A0 : AH} {a1 : Int32} {a2 : Int32} {a3 : Int32} {r : Int32} (h : fX9_faultOfLetter A0 a1 a2 a3 = some r) : Cn l yX9_faultOfLetter cX9_faultOfLetter 3 (some .int) 0 0 0 0 [vI a1, vI a2, vI a3] A0 (some (vI r)) A0 := by
  unfold fX9_faultOfLetter at h
  refine Cn.of (pad := 0) (lv0 := [some (vI a1), some (vI a2), some (vI a3)]) (by decide +kernel) (Nat.le_of_ble_eq_true rfl) rfl ?_
  intro p e s m below meth c base D cy E
  generalize (List.map toV [vI a1, vI a2, vI a3]).toArray = ar at E ⊢
  have E : EN p s m ar meth c D cy RX9 cX9_faultOfLetter 3 (some .int) "faultOfLetter" := E
  refine v_iload_n E dX9_faultOfLetter_0 rfl ?_
  refine v_bipush (v := 97) E dX9_faultOfLetter_1 (by decide) ?_
  refine v_icmp_lt (tgt := 12) E dX9_faultOfLetter_3 (by decide) (fun c4 => ?_) (fun c4 => ?_)
  · rw [if_pos c4] at h
    refine v_iconst (v := 1) E dX9_faultOfLetter_12 (by decide) ?_
    replace h := Option.some.inj h
    subst h
    refine v_widen (k' := 0) (n' := 0) (Nat.le_of_ble_eq_true rfl) (Nat.le_of_ble_eq_true rfl) ?_
    exact v_iret E dX9_faultOfLetter_13
  · rw [if_neg c4] at h
    refine v_iload_n E dX9_faultOfLetter_6 rfl ?_
    refine v_bipush (v := 122) E dX9_faultOfLetter_7 (by decide) ?_
    refine v_icmp_le (tgt := 14) E dX9_faultOfLetter_9 (by decide) (fun c3 => ?_) (fun c3 => ?_)
    · rw [if_pos c3] at h
      refine v_iload_n E dX9_faultOfLetter_14 rfl ?_
      refine v_iconst (v := 2) E dX9_faultOfLetter_15 (by decide) ?_
      refine v_icmp_ne (tgt := 21) E dX9_faultOfLetter_16 (by decide) (fun c2 => ?_) (fun c2 => ?_)
      · rw [if_neg c2] at h
        refine v_iload_n E dX9_faultOfLetter_21 rfl ?_
        refine v_bipush (v := 8) E dX9_faultOfLetter_22 (by decide) ?_
        refine v_icmp_le (tgt := 31) E dX9_faultOfLetter_24 (by decide) (fun c1 => ?_) (fun c1 => ?_)
        · rw [if_pos c1] at h
          refine v_iconst (v := 0) E dX9_faultOfLetter_31 (by decide) ?_
          replace h := Option.some.inj h
          subst h
          refine v_widen (k' := 0) (n' := 0) (Nat.le_of_ble_eq_true rfl) (Nat.le_of_ble_eq_true rfl) ?_
          exact v_iret E dX9_faultOfLetter_32
        · rw [if_neg c1] at h
          refine v_iconst (v := 3) E dX9_faultOfLetter_27 (by decide) ?_
          refine v_goto (tgt := 32) E dX9_faultOfLetter_28 (by decide) ?_
          replace h := Option.some.inj h
          subst h
          refine v_widen (k' := 0) (n' := 0) (Nat.le_of_ble_eq_true rfl) (Nat.le_of_ble_eq_true rfl) ?_
          exact v_iret E dX9_faultOfLetter_32
      · rw [if_pos c2] at h
        refine v_iconst (v := 2) E dX9_faultOfLetter_19 (by decide) ?_
        replace h := Option.some.inj h
        subst h
        refine v_widen (k' := 0) (n' := 0) (Nat.le_of_ble_eq_true rfl) (Nat.le_of_ble_eq_true rfl) ?_
        exact v_iret E dX9_faultOfLetter_20
    · rw [if_neg c3] at h
      refine v_iconst (v := 1) E dX9_faultOfLetter_12 (by decide) ?_
      replace h := Option.some.inj h
      subst h
      refine v_widen (k' := 0) (n' := 0) (Nat.le_of_ble_eq_true rfl) (Nat.le_of_ble_eq_true rfl) ?_
      exact v_iret E dX9_faultOfLetter_13
noncomputable def fX9_judge (A0 : AH) (o0 : Option Nat) : Option (Int32 × AH) :=
  (rcv A0 10 o0).bind fun o0 =>
  (iter (S := Int32 × Int32 × AH) (T := (Int32 × AH) ⊕ (Int32 × AH)) (fun s1 =>
      (gI s1.2.2 10 289 ((some o0))).bind fun v4 =>
      if v4 ≤ s1.2.1 then
        some (.inr (.inl (s1.1, s1.2.2)))
      else
        (gR s1.2.2 10 288 ((some o0))).bind fun v5 =>
        (aI s1.2.2 14 v5 s1.2.1).bind fun v6 =>
        (fX9_countOf s1.2.2 ((some o0)) v6 s1.2.1).bind fun r7 =>
        jp (fun (x10 : Int32) =>
          (gR s1.2.2 10 288 ((some o0))).bind fun v11 =>
          (aI s1.2.2 14 v11 s1.2.1).bind fun v12 =>
          (fX9_faultOfLetter s1.2.2 v12 r7 x10).bind fun r13 =>
          if r13 = 0 then
            some (.inl (x10, (s1.2.1 + 1), s1.2.2))
          else
            (pI s1.2.2 10 290 ((some o0)) s1.2.1).bind fun A14 =>
            some (.inr (.inr ((r13, A14))))) fun K8 =>
          if r7 = 0 then
            K8 ((s1.1 + 1))
          else
            K8 s1.1) (0, 0, A0)).bind fun t2 =>
  sm t2 (fun t2 =>
    (gI t2.2 10 289 ((some o0))).bind fun v17 =>
    jp1 (α := Int32) (if (2 * t2.1) = v17 then
        1
      else
        0) fun x20 =>
    jp (fun (x24 : Int32) =>
        (pI t2.2 10 290 ((some o0)) x24).bind fun A25 =>
        if x20 = 0 then
          some ((4, A25))
        else
          some ((0, A25))) fun K21 =>
        if x20 = 0 then
          (gI t2.2 10 289 ((some o0))).bind fun v22 =>
          K21 v22
        else
          K21 ((-1))) (fun r => some r)
set_option maxRecDepth 100000 in
set_option maxHeartbeats 4000000 in
theorem kX9_judge (l : Launch) {A0 : AH} {o0 : Option Nat} {r : Int32 × AH} (h : fX9_judge A0 o0 = some r) : (∃ a, o0 = some a ∧ Hk A0 a = 10) ∧ Cn l yX9_judge cX9_judge 5 (some .int) 1 24 0 0 [vR o0] A0 (some (vI r.1)) r.2 := by
  unfold fX9_judge at h
  replace h := bnd_e h
  obtain ⟨o1, e1, h⟩ := h
  obtain ⟨rfl, hk0⟩ := rcv_e e1
  refine ⟨⟨o1, rfl, hk0⟩, ?_⟩
  refine Cn.of (pad := 4) (lv0 := [some (vR (some o1)), none, none, none, none]) (by decide +kernel) (Nat.le_of_ble_eq_true rfl) rfl ?_
  intro p e s m below meth c base D cy E
  generalize (List.map toV [vR (some o1)]).toArray = ar at E ⊢
  have E : EN p s m ar meth c D cy RX9 cX9_judge 5 (some .int) "judge" := E
  refine v_iconst (v := 0) E dX9_judge_0 (by decide) ?_
  refine v_istore_n (lv' := [some (vR (some o1)), some (vI 0), none, none, none]) E dX9_judge_1 (by decide) rfl ?_
  refine v_iconst (v := 0) E dX9_judge_2 (by decide) ?_
  refine v_istore_n (lv' := [some (vR (some o1)), some (vI 0), some (vI 0), none, none]) E dX9_judge_3 (by decide) rfl ?_
  replace h := bnd_e h
  obtain ⟨t2, et2, h⟩ := h
  refine iter_V (S := Int32 × Int32 × AH) (T := (Int32 × AH) ⊕ (Int32 × AH)) (Ph := fun s1 => V p l e { frames := 1, cells := 0, slots := 0, locals := 24 } s m ar below meth c (MQ below (Qd base D cy (some (vI r.1)) r.2) ar s 0 0 (fun q => base ≤ q)) base D cy 5 4 [some (vR (some o1)), some (vI s1.1), some (vI s1.2.1), none, none] [] s1.2.2 0 0) (Pt := itM (fun t2 => V p l e { frames := 1, cells := 0, slots := 0, locals := 24 } s m ar below meth c (MQ below (Qd base D cy (some (vI r.1)) r.2) ar s 0 0 (fun q => base ≤ q)) base D cy 5 63 [some (vR (some o1)), some (vI t2.1), none, none, none] [] t2.2 0 0) (fun z => z = r)) et2 (fun s1 w3 h hx => ?_) ?_
  · try dsimp only at h
    refine v_iload_n E dX9_judge_4 rfl ?_
    refine v_aload_n E dX9_judge_5 rfl ?_
    replace h := bnd_e h
    obtain ⟨v4, ev4, h⟩ := h
    refine g9_15 E ev4 dX9_judge_6 ?_
    refine v_icmp_ge (tgt := 63) E dX9_judge_9 (by decide) (fun c16 => ?_) (fun c16 => ?_)
    · rw [if_pos c16] at h
      refine v_drop (lv' := [some (vR (some o1)), some (vI s1.1), none, none, none]) [2] rfl ?_
      replace h := Option.some.inj h
      subst h
      exact hx
    · rw [if_neg c16] at h
      refine v_aload_n E dX9_judge_12 rfl ?_
      refine v_aload_n E dX9_judge_13 rfl ?_
      replace h := bnd_e h
      obtain ⟨v5, ev5, h⟩ := h
      refine g9_9 E ev5 dX9_judge_14 ?_
      refine v_iload_n E dX9_judge_17 rfl ?_
      replace h := bnd_e h
      obtain ⟨v6, ev6, h⟩ := h
      refine v_iaload E ev6 dX9_judge_18 ?_
      refine v_iload_n E dX9_judge_19 rfl ?_
      replace h := bnd_e h
      obtain ⟨r7, er7, h⟩ := h
      refine v_callV (na := 2) (As := [vI v6, vI s1.2.1]) (rest := []) (ci := 9) (q := (RX9, TX9, 3)) E gw9_31 (by decide +kernel) rfl rfl (by decide) (kX9_countOf l er7).2 (kX9_countOf l er7).1 rfl rfl dX9_judge_20 ⟨Nat.le_of_ble_eq_true rfl, Nat.le_of_ble_eq_true rfl⟩ ⟨(Nat.le_of_ble_eq_true rfl), (Nat.le_of_ble_eq_true rfl)⟩ (Nat.le_of_ble_eq_true rfl) ?_
      refine v_istore_n (lv' := [some (vR (some o1)), some (vI s1.1), some (vI s1.2.1), some (vI r7), none]) E dX9_judge_23 (by decide) rfl ?_
      refine v_iload_n E dX9_judge_24 rfl ?_
      refine jp_use h (fun K8 eK8 h => ?_)
      have hK8 : ∀ x10 : Int32, K8 x10 = some w3 → V p l e { frames := 1, cells := 0, slots := 0, locals := 24 } s m ar below meth c (MQ below (Qd base D cy (some (vI r.1)) r.2) ar s 0 0 (fun q => base ≤ q)) base D cy 5 31 [some (vR (some o1)), some (vI x10), some (vI s1.2.1), some (vI r7), none] [] s1.2.2 0 0 := by
        intro x10 h
        rw [eK8] at h
        try dsimp only at h
        refine v_aload_n E dX9_judge_31 rfl ?_
        replace h := bnd_e h
        obtain ⟨v11, ev11, h⟩ := h
        refine g9_9 E ev11 dX9_judge_32 ?_
        refine v_iload_n E dX9_judge_35 rfl ?_
        replace h := bnd_e h
        obtain ⟨v12, ev12, h⟩ := h
        refine v_iaload E ev12 dX9_judge_36 ?_
        refine v_iload_n E dX9_judge_37 rfl ?_
        refine v_iload_n E dX9_judge_38 rfl ?_
        replace h := bnd_e h
        obtain ⟨r13, er13, h⟩ := h
        refine v_callS (na := 3) (As := [vI v12, vI r7, vI x10]) (rest := []) E gw9_35 (by decide +kernel) (kX9_faultOfLetter l er13) rfl rfl dX9_judge_39 ⟨Nat.le_of_ble_eq_true rfl, Nat.le_of_ble_eq_true rfl⟩ ⟨(Nat.le_of_ble_eq_true rfl), (Nat.le_of_ble_eq_true rfl)⟩ (Nat.le_of_ble_eq_true rfl) ?_
        refine v_istore (lv' := [some (vR (some o1)), some (vI x10), some (vI s1.2.1), some (vI r7), some (vI r13)]) E dX9_judge_42 (by decide) rfl ?_
        refine v_iload E dX9_judge_44 rfl ?_
        refine v_if_eq (tgt := 57) E dX9_judge_46 (by decide) (fun c15 => ?_) (fun c15 => ?_)
        · rw [if_pos c15] at h
          refine v_iinc (v := (s1.2.1 + 1)) (lv' := [some (vR (some o1)), some (vI x10), some (vI (s1.2.1 + 1)), some (vI r7), some (vI r13)]) E dX9_judge_57 rfl (by rfl) (by decide) rfl ?_
          refine v_goto (tgt := 4) E dX9_judge_60 (by decide) ?_
          refine v_drop (lv' := [some (vR (some o1)), some (vI x10), some (vI (s1.2.1 + 1)), none, none]) [3, 4] rfl ?_
          replace h := Option.some.inj h
          subst h
          exact hx
        · rw [if_neg c15] at h
          refine v_aload_n E dX9_judge_49 rfl ?_
          refine v_iload_n E dX9_judge_50 rfl ?_
          replace h := bnd_e h
          obtain ⟨A14, eA14, h⟩ := h
          refine p9_19 E eA14 dX9_judge_51 ?_
          refine v_iload E dX9_judge_54 rfl ?_
          replace h := Option.some.inj h
          subst h
          have hx : _ = r := hx
          subst hx
          refine v_widen (k' := 0) (n' := 0) (Nat.le_of_ble_eq_true rfl) (Nat.le_of_ble_eq_true rfl) ?_
          exact v_iret E dX9_judge_56
      refine v_if_ne (tgt := 31) E dX9_judge_25 (by decide) (fun c9 => ?_) (fun c9 => ?_)
      · rw [if_neg c9] at h
        exact hK8 s1.1 h
      · rw [if_pos c9] at h
        refine v_iinc (v := (s1.1 + 1)) (lv' := [some (vR (some o1)), some (vI (s1.1 + 1)), some (vI s1.2.1), some (vI r7), none]) E dX9_judge_28 rfl (by rfl) (by decide) rfl ?_
        exact hK8 ((s1.1 + 1)) h
  · cases t2 with
    | inl t2 =>
      dsimp only [sm] at h
      refine v_iconst (v := 2) E dX9_judge_63 (by decide) ?_
      refine v_iload_n E dX9_judge_64 rfl ?_
      refine v_imul E dX9_judge_65 ?_
      refine v_aload_n E dX9_judge_66 rfl ?_
      replace h := bnd_e h
      obtain ⟨v17, ev17, h⟩ := h
      refine g9_15 E ev17 dX9_judge_67 ?_
      refine jp1_use h (fun K18 eK18 h => ?_)
      have hK18 : ∀ x20 : Int32, K18 x20 = some r → V p l e { frames := 1, cells := 0, slots := 0, locals := 24 } s m ar below meth c (MQ below (Qd base D cy (some (vI r.1)) r.2) ar s 0 0 (fun q => base ≤ q)) base D cy 5 78 [some (vR (some o1)), none, none, none, none] [vI x20] t2.2 0 0 := by
        intro x20 h
        rw [eK18] at h
        try dsimp only at h
        refine v_istore_n (lv' := [some (vR (some o1)), none, some (vI x20), none, none]) E dX9_judge_78 (by decide) rfl ?_
        refine v_aload_n E dX9_judge_79 rfl ?_
        refine v_iload_n E dX9_judge_80 rfl ?_
        refine jp_use h (fun K21 eK21 h => ?_)
        have hK21 : ∀ x24 : Int32, K21 x24 = some r → V p l e { frames := 1, cells := 0, slots := 0, locals := 24 } s m ar below meth c (MQ below (Qd base D cy (some (vI r.1)) r.2) ar s 0 0 (fun q => base ≤ q)) base D cy 5 92 [none, none, some (vI x20), none, none] [vI x24, vR (some o1)] t2.2 0 0 := by
          intro x24 h
          rw [eK21] at h
          try dsimp only at h
          replace h := bnd_e h
          obtain ⟨A25, eA25, h⟩ := h
          refine p9_19 E eA25 dX9_judge_92 ?_
          refine v_iload_n E dX9_judge_95 rfl ?_
          refine v_if_eq (tgt := 103) E dX9_judge_96 (by decide) (fun c26 => ?_) (fun c26 => ?_)
          · rw [if_pos c26] at h
            refine v_iconst (v := 4) E dX9_judge_103 (by decide) ?_
            replace h := Option.some.inj h
            subst h
            refine v_widen (k' := 0) (n' := 0) (Nat.le_of_ble_eq_true rfl) (Nat.le_of_ble_eq_true rfl) ?_
            exact v_iret E dX9_judge_104
          · rw [if_neg c26] at h
            refine v_iconst (v := 0) E dX9_judge_99 (by decide) ?_
            refine v_goto (tgt := 104) E dX9_judge_100 (by decide) ?_
            replace h := Option.some.inj h
            subst h
            refine v_widen (k' := 0) (n' := 0) (Nat.le_of_ble_eq_true rfl) (Nat.le_of_ble_eq_true rfl) ?_
            exact v_iret E dX9_judge_104
        refine v_if_eq (tgt := 88) E dX9_judge_81 (by decide) (fun c23 => ?_) (fun c23 => ?_)
        · rw [if_pos c23] at h
          refine v_aload_n E dX9_judge_88 rfl ?_
          replace h := bnd_e h
          obtain ⟨v22, ev22, h⟩ := h
          refine g9_15 E ev22 dX9_judge_89 ?_
          refine v_drop (lv' := [none, none, some (vI x20), none, none]) [0] rfl ?_
          exact hK21 v22 h
        · rw [if_neg c23] at h
          refine v_iconst (v := (-1)) E dX9_judge_84 (by decide) ?_
          refine v_goto (tgt := 92) E dX9_judge_85 (by decide) ?_
          refine v_drop (lv' := [none, none, some (vI x20), none, none]) [0] rfl ?_
          exact hK21 ((-1)) h
      refine v_icmp_ne (tgt := 77) E dX9_judge_70 (by decide) (fun c19 => ?_) (fun c19 => ?_)
      · rw [if_neg c19] at h
        refine v_iconst (v := 0) E dX9_judge_77 (by decide) ?_
        refine v_drop (lv' := [some (vR (some o1)), none, none, none, none]) [1] rfl ?_
        exact hK18 0 h
      · rw [if_pos c19] at h
        refine v_iconst (v := 1) E dX9_judge_73 (by decide) ?_
        refine v_goto (tgt := 78) E dX9_judge_74 (by decide) ?_
        refine v_drop (lv' := [some (vR (some o1)), none, none, none, none]) [1] rfl ?_
        exact hK18 1 h
    | inr z =>
      exact Option.some.inj h
noncomputable def fX1_clear (A0 : AH) (o0 : Option Nat) : Option (AH) :=
  (rcv A0 2 o0).bind fun o0 =>
  (pI A0 2 33 ((some o0)) 0).bind fun A1 =>
  some A1
set_option maxRecDepth 100000 in
set_option maxHeartbeats 4000000 in
theorem kX1_clear (l : Launch) {A0 : AH} {o0 : Option Nat} {r : AH} (h : fX1_clear A0 o0 = some r) : (∃ a, o0 = some a ∧ Hk A0 a = 2) ∧ Cn l yX1_clear cX1_clear 1 none 0 0 0 0 [vR o0] A0 none r := by
  unfold fX1_clear at h
  replace h := bnd_e h
  obtain ⟨o1, e1, h⟩ := h
  obtain ⟨rfl, hk0⟩ := rcv_e e1
  refine ⟨⟨o1, rfl, hk0⟩, ?_⟩
  refine Cn.of (pad := 0) (lv0 := [some (vR (some o1))]) (by decide +kernel) (Nat.le_of_ble_eq_true rfl) rfl ?_
  intro p e s m below meth c base D cy E
  generalize (List.map toV [vR (some o1)]).toArray = ar at E ⊢
  have E : EN p s m ar meth c D cy RX1 cX1_clear 1 none "clear" := E
  refine v_aload_n E dX1_clear_0 rfl ?_
  refine v_iconst (v := 0) E dX1_clear_1 (by decide) ?_
  replace h := bnd_e h
  obtain ⟨A1, eA1, h⟩ := h
  refine p1_15 E eA1 dX1_clear_2 ?_
  replace h := Option.some.inj h
  subst h
  refine v_widen (k' := 0) (n' := 0) (Nat.le_of_ble_eq_true rfl) (Nat.le_of_ble_eq_true rfl) ?_
  exact v_vret E dX1_clear_5
noncomputable def fX1_put (A0 : AH) (o0 : Option Nat) (a1 : Int32) : Option (AH) :=
  (rcv A0 2 o0).bind fun o0 =>
  (gI A0 2 33 ((some o0))).bind fun v1 =>
  (gR A0 2 32 ((some o0))).bind fun v2 =>
  (aL A0 14 v2).bind fun v3 =>
  if v3 ≤ v1 then
    some A0
  else
    (gR A0 2 32 ((some o0))).bind fun v4 =>
    (gI A0 2 33 ((some o0))).bind fun v5 =>
    (sI A0 14 v4 v5 a1).bind fun A6 =>
    (gI A6 2 33 ((some o0))).bind fun v7 =>
    (pI A6 2 33 ((some o0)) ((v7 + 1))).bind fun A8 =>
    some A8
set_option maxRecDepth 100000 in
set_option maxHeartbeats 4000000 in
theorem kX1_put (l : Launch) {A0 : AH} {o0 : Option Nat} {a1 : Int32} {r : AH} (h : fX1_put A0 o0 a1 = some r) : (∃ a, o0 = some a ∧ Hk A0 a = 2) ∧ Cn l yX1_put cX1_put 2 none 0 0 0 0 [vR o0, vI a1] A0 none r := by
  unfold fX1_put at h
  replace h := bnd_e h
  obtain ⟨o1, e1, h⟩ := h
  obtain ⟨rfl, hk0⟩ := rcv_e e1
  refine ⟨⟨o1, rfl, hk0⟩, ?_⟩
  refine Cn.of (pad := 0) (lv0 := [some (vR (some o1)), some (vI a1)]) (by decide +kernel) (Nat.le_of_ble_eq_true rfl) rfl ?_
  intro p e s m below meth c base D cy E
  generalize (List.map toV [vR (some o1), vI a1]).toArray = ar at E ⊢
  have E : EN p s m ar meth c D cy RX1 cX1_put 2 none "put" := E
  refine v_aload_n E dX1_put_0 rfl ?_
  replace h := bnd_e h
  obtain ⟨v1, ev1, h⟩ := h
  refine g1_15 E ev1 dX1_put_1 ?_
  refine v_aload_n E dX1_put_4 rfl ?_
  replace h := bnd_e h
  obtain ⟨v2, ev2, h⟩ := h
  refine g1_9 E ev2 dX1_put_5 ?_
  replace h := bnd_e h
  obtain ⟨v3, ev3, h⟩ := h
  refine v_alen (kd := 14) (t0 := 0) E (by decide) rfl ev3 dX1_put_8 ?_
  refine v_icmp_ge (tgt := 32) E dX1_put_9 (by decide) (fun c9 => ?_) (fun c9 => ?_)
  · rw [if_pos c9] at h
    replace h := Option.some.inj h
    subst h
    refine v_widen (k' := 0) (n' := 0) (Nat.le_of_ble_eq_true rfl) (Nat.le_of_ble_eq_true rfl) ?_
    exact v_vret E dX1_put_32
  · rw [if_neg c9] at h
    refine v_aload_n E dX1_put_12 rfl ?_
    replace h := bnd_e h
    obtain ⟨v4, ev4, h⟩ := h
    refine g1_9 E ev4 dX1_put_13 ?_
    refine v_aload_n E dX1_put_16 rfl ?_
    replace h := bnd_e h
    obtain ⟨v5, ev5, h⟩ := h
    refine g1_15 E ev5 dX1_put_17 ?_
    refine v_iload_n E dX1_put_20 rfl ?_
    replace h := bnd_e h
    obtain ⟨A6, eA6, h⟩ := h
    refine v_iastore E eA6 dX1_put_21 ?_
    refine v_aload_n E dX1_put_22 rfl ?_
    refine v_dup E dX1_put_23 rfl ?_
    replace h := bnd_e h
    obtain ⟨v7, ev7, h⟩ := h
    refine g1_15 E ev7 dX1_put_24 ?_
    refine v_iconst (v := 1) E dX1_put_27 (by decide) ?_
    refine v_iadd E dX1_put_28 ?_
    replace h := bnd_e h
    obtain ⟨A8, eA8, h⟩ := h
    refine p1_15 E eA8 dX1_put_29 ?_
    replace h := Option.some.inj h
    subst h
    refine v_widen (k' := 0) (n' := 0) (Nat.le_of_ble_eq_true rfl) (Nat.le_of_ble_eq_true rfl) ?_
    exact v_vret E dX1_put_32
noncomputable def fX9_copyTo (A0 : AH) (o0 : Option Nat) (a1 : Option Nat) : Option (AH) :=
  (rcv A0 10 o0).bind fun o0 =>
  (fX1_clear A0 a1).bind fun r1 =>
  (iter (S := Int32 × AH) (T := AH) (fun s2 =>
      (gI s2.2 10 289 ((some o0))).bind fun v5 =>
      if v5 ≤ s2.1 then
        some (.inr s2.2)
      else
        (gR s2.2 10 288 ((some o0))).bind fun v6 =>
        (aI s2.2 14 v6 s2.1).bind fun v7 =>
        (fX1_put s2.2 a1 v7).bind fun r8 =>
        some (.inl ((s2.1 + 1), r8))) (0, r1)).bind fun t3 =>
  some t3
set_option maxRecDepth 100000 in
set_option maxHeartbeats 4000000 in
theorem kX9_copyTo (l : Launch) {A0 : AH} {o0 : Option Nat} {a1 : Option Nat} {r : AH} (h : fX9_copyTo A0 o0 a1 = some r) : (∃ a, o0 = some a ∧ Hk A0 a = 10) ∧ Cn l yX9_copyTo cX9_copyTo 3 none 1 21 0 0 [vR o0, vR a1] A0 none r := by
  unfold fX9_copyTo at h
  replace h := bnd_e h
  obtain ⟨o1, e1, h⟩ := h
  obtain ⟨rfl, hk0⟩ := rcv_e e1
  refine ⟨⟨o1, rfl, hk0⟩, ?_⟩
  refine Cn.of (pad := 1) (lv0 := [some (vR (some o1)), some (vR a1), none]) (by decide +kernel) (Nat.le_of_ble_eq_true rfl) rfl ?_
  intro p e s m below meth c base D cy E
  generalize (List.map toV [vR (some o1), vR a1]).toArray = ar at E ⊢
  have E : EN p s m ar meth c D cy RX9 cX9_copyTo 3 none "copyTo" := E
  refine v_aload_n E dX9_copyTo_0 rfl ?_
  replace h := bnd_e h
  obtain ⟨r1, er1, h⟩ := h
  refine v_callV (na := 0) (As := []) (rest := []) (ci := 1) (q := (RX1, TX1, 2)) E gw9_22 (by decide +kernel) rfl rfl (by decide) (kX1_clear l er1).2 (kX1_clear l er1).1 rfl rfl dX9_copyTo_1 ⟨Nat.le_of_ble_eq_true rfl, Nat.le_of_ble_eq_true rfl⟩ ⟨(Nat.le_of_ble_eq_true rfl), (Nat.le_of_ble_eq_true rfl)⟩ (Nat.le_of_ble_eq_true rfl) ?_
  refine v_iconst (v := 0) E dX9_copyTo_4 (by decide) ?_
  refine v_istore_n (lv' := [some (vR (some o1)), some (vR a1), some (vI 0)]) E dX9_copyTo_5 (by decide) rfl ?_
  replace h := bnd_e h
  obtain ⟨t3, et3, h⟩ := h
  refine iter_V (S := Int32 × AH) (T := AH) (Ph := fun s2 => V p l e { frames := 1, cells := 0, slots := 0, locals := 21 } s m ar below meth c (MQ below (Qd base D cy none r) ar s 0 0 (fun q => base ≤ q)) base D cy 3 6 [some (vR (some o1)), some (vR a1), some (vI s2.1)] [] s2.2 0 0) (Pt := fun t3 => V p l e { frames := 1, cells := 0, slots := 0, locals := 21 } s m ar below meth c (MQ below (Qd base D cy none r) ar s 0 0 (fun q => base ≤ q)) base D cy 3 30 [none, none, none] [] t3 0 0) et3 (fun s2 w4 h hx => ?_) ?_
  · try dsimp only at h
    refine v_iload_n E dX9_copyTo_6 rfl ?_
    refine v_aload_n E dX9_copyTo_7 rfl ?_
    replace h := bnd_e h
    obtain ⟨v5, ev5, h⟩ := h
    refine g9_15 E ev5 dX9_copyTo_8 ?_
    refine v_icmp_ge (tgt := 30) E dX9_copyTo_11 (by decide) (fun c9 => ?_) (fun c9 => ?_)
    · rw [if_pos c9] at h
      refine v_drop (lv' := [none, none, none]) [0, 1, 2] rfl ?_
      replace h := Option.some.inj h
      subst h
      exact hx
    · rw [if_neg c9] at h
      refine v_aload_n E dX9_copyTo_14 rfl ?_
      refine v_aload_n E dX9_copyTo_15 rfl ?_
      replace h := bnd_e h
      obtain ⟨v6, ev6, h⟩ := h
      refine g9_9 E ev6 dX9_copyTo_16 ?_
      refine v_iload_n E dX9_copyTo_19 rfl ?_
      replace h := bnd_e h
      obtain ⟨v7, ev7, h⟩ := h
      refine v_iaload E ev7 dX9_copyTo_20 ?_
      replace h := bnd_e h
      obtain ⟨r8, er8, h⟩ := h
      refine v_callV (na := 1) (As := [vI v7]) (rest := []) (ci := 1) (q := (RX1, TX1, 2)) E gw9_27 (by decide +kernel) rfl rfl (by decide) (kX1_put l er8).2 (kX1_put l er8).1 rfl rfl dX9_copyTo_21 ⟨Nat.le_of_ble_eq_true rfl, Nat.le_of_ble_eq_true rfl⟩ ⟨(Nat.le_of_ble_eq_true rfl), (Nat.le_of_ble_eq_true rfl)⟩ (Nat.le_of_ble_eq_true rfl) ?_
      refine v_iinc (v := (s2.1 + 1)) (lv' := [some (vR (some o1)), some (vR a1), some (vI (s2.1 + 1))]) E dX9_copyTo_24 rfl (by rfl) (by decide) rfl ?_
      refine v_goto (tgt := 6) E dX9_copyTo_27 (by decide) ?_
      replace h := Option.some.inj h
      subst h
      exact hx
  · replace h := Option.some.inj h
    subst h
    refine v_widen (k' := 0) (n' := 0) (Nat.le_of_ble_eq_true rfl) (Nat.le_of_ble_eq_true rfl) ?_
    exact v_vret E dX9_copyTo_30
noncomputable def fX9_clear (A0 : AH) (o0 : Option Nat) : Option (AH) :=
  (rcv A0 10 o0).bind fun o0 =>
  (pI A0 10 289 ((some o0)) 0).bind fun A1 =>
  some A1
set_option maxRecDepth 100000 in
set_option maxHeartbeats 4000000 in
theorem kX9_clear (l : Launch) {A0 : AH} {o0 : Option Nat} {r : AH} (h : fX9_clear A0 o0 = some r) : (∃ a, o0 = some a ∧ Hk A0 a = 10) ∧ Cn l yX9_clear cX9_clear 1 none 0 0 0 0 [vR o0] A0 none r := by
  unfold fX9_clear at h
  replace h := bnd_e h
  obtain ⟨o1, e1, h⟩ := h
  obtain ⟨rfl, hk0⟩ := rcv_e e1
  refine ⟨⟨o1, rfl, hk0⟩, ?_⟩
  refine Cn.of (pad := 0) (lv0 := [some (vR (some o1))]) (by decide +kernel) (Nat.le_of_ble_eq_true rfl) rfl ?_
  intro p e s m below meth c base D cy E
  generalize (List.map toV [vR (some o1)]).toArray = ar at E ⊢
  have E : EN p s m ar meth c D cy RX9 cX9_clear 1 none "clear" := E
  refine v_aload_n E dX9_clear_0 rfl ?_
  refine v_iconst (v := 0) E dX9_clear_1 (by decide) ?_
  replace h := bnd_e h
  obtain ⟨A1, eA1, h⟩ := h
  refine p9_15 E eA1 dX9_clear_2 ?_
  replace h := Option.some.inj h
  subst h
  refine v_widen (k' := 0) (n' := 0) (Nat.le_of_ble_eq_true rfl) (Nat.le_of_ble_eq_true rfl) ?_
  exact v_vret E dX9_clear_5
noncomputable def fX8_count (A0 : AH) (o0 : Option Nat) : Option (Int32) :=
  (rcv A0 9 o0).bind fun o0 =>
  (gI A0 9 257 ((some o0))).bind fun v1 =>
  some v1
set_option maxRecDepth 100000 in
set_option maxHeartbeats 4000000 in
theorem kX8_count (l : Launch) {A0 : AH} {o0 : Option Nat} {r : Int32} (h : fX8_count A0 o0 = some r) : (∃ a, o0 = some a ∧ Hk A0 a = 9) ∧ Cn l yX8_count cX8_count 1 (some .int) 0 0 0 0 [vR o0] A0 (some (vI r)) A0 := by
  unfold fX8_count at h
  replace h := bnd_e h
  obtain ⟨o1, e1, h⟩ := h
  obtain ⟨rfl, hk0⟩ := rcv_e e1
  refine ⟨⟨o1, rfl, hk0⟩, ?_⟩
  refine Cn.of (pad := 0) (lv0 := [some (vR (some o1))]) (by decide +kernel) (Nat.le_of_ble_eq_true rfl) rfl ?_
  intro p e s m below meth c base D cy E
  generalize (List.map toV [vR (some o1)]).toArray = ar at E ⊢
  have E : EN p s m ar meth c D cy RX8 cX8_count 1 (some .int) "count" := E
  refine v_aload_n E dX8_count_0 rfl ?_
  replace h := bnd_e h
  obtain ⟨v1, ev1, h⟩ := h
  refine g8_17 E ev1 dX8_count_1 ?_
  replace h := Option.some.inj h
  subst h
  refine v_widen (k' := 0) (n' := 0) (Nat.le_of_ble_eq_true rfl) (Nat.le_of_ble_eq_true rfl) ?_
  exact v_iret E dX8_count_4
noncomputable def fX8_get (A0 : AH) (o0 : Option Nat) (a1 : Int32) : Option (Option Nat) :=
  (rcv A0 9 o0).bind fun o0 =>
  if a1 < 0 then
    some none
  else
    (gI A0 9 257 ((some o0))).bind fun v1 =>
    if v1 ≤ a1 then
      some none
    else
      (gR A0 9 256 ((some o0))).bind fun v2 =>
      (aL A0 18 v2).bind fun v3 =>
      if v3 ≤ a1 then
        some none
      else
        (gR A0 9 256 ((some o0))).bind fun v4 =>
        (aR A0 18 v4 a1).bind fun v5 =>
        some v5
set_option maxRecDepth 100000 in
set_option maxHeartbeats 4000000 in
theorem kX8_get (l : Launch) {A0 : AH} {o0 : Option Nat} {a1 : Int32} {r : Option Nat} (h : fX8_get A0 o0 a1 = some r) : (∃ a, o0 = some a ∧ Hk A0 a = 9) ∧ Cn l yX8_get cX8_get 2 (some (.object "OneStrokes$Word")) 0 0 0 0 [vR o0, vI a1] A0 (some (vR r)) A0 := by
  unfold fX8_get at h
  replace h := bnd_e h
  obtain ⟨o1, e1, h⟩ := h
  obtain ⟨rfl, hk0⟩ := rcv_e e1
  refine ⟨⟨o1, rfl, hk0⟩, ?_⟩
  refine Cn.of (pad := 0) (lv0 := [some (vR (some o1)), some (vI a1)]) (by decide +kernel) (Nat.le_of_ble_eq_true rfl) rfl ?_
  intro p e s m below meth c base D cy E
  generalize (List.map toV [vR (some o1), vI a1]).toArray = ar at E ⊢
  have E : EN p s m ar meth c D cy RX8 cX8_get 2 (some (.object "OneStrokes$Word")) "get" := E
  refine v_iload_n E dX8_get_0 rfl ?_
  refine v_if_lt (tgt := 30) E dX8_get_1 (by decide) (fun c8 => ?_) (fun c8 => ?_)
  · rw [if_pos c8] at h
    refine v_aconst_null E dX8_get_30 ?_
    replace h := Option.some.inj h
    subst h
    refine v_widen (k' := 0) (n' := 0) (Nat.le_of_ble_eq_true rfl) (Nat.le_of_ble_eq_true rfl) ?_
    exact v_aret E dX8_get_31
  · rw [if_neg c8] at h
    refine v_iload_n E dX8_get_4 rfl ?_
    refine v_aload_n E dX8_get_5 rfl ?_
    replace h := bnd_e h
    obtain ⟨v1, ev1, h⟩ := h
    refine g8_17 E ev1 dX8_get_6 ?_
    refine v_icmp_ge (tgt := 30) E dX8_get_9 (by decide) (fun c7 => ?_) (fun c7 => ?_)
    · rw [if_pos c7] at h
      refine v_aconst_null E dX8_get_30 ?_
      replace h := Option.some.inj h
      subst h
      refine v_widen (k' := 0) (n' := 0) (Nat.le_of_ble_eq_true rfl) (Nat.le_of_ble_eq_true rfl) ?_
      exact v_aret E dX8_get_31
    · rw [if_neg c7] at h
      refine v_iload_n E dX8_get_12 rfl ?_
      refine v_aload_n E dX8_get_13 rfl ?_
      replace h := bnd_e h
      obtain ⟨v2, ev2, h⟩ := h
      refine g8_11 E ev2 dX8_get_14 ?_
      replace h := bnd_e h
      obtain ⟨v3, ev3, h⟩ := h
      refine v_alen (kd := 18) (t0 := 4) E (by decide) rfl ev3 dX8_get_17 ?_
      refine v_icmp_ge (tgt := 30) E dX8_get_18 (by decide) (fun c6 => ?_) (fun c6 => ?_)
      · rw [if_pos c6] at h
        refine v_aconst_null E dX8_get_30 ?_
        replace h := Option.some.inj h
        subst h
        refine v_widen (k' := 0) (n' := 0) (Nat.le_of_ble_eq_true rfl) (Nat.le_of_ble_eq_true rfl) ?_
        exact v_aret E dX8_get_31
      · rw [if_neg c6] at h
        refine v_aload_n E dX8_get_21 rfl ?_
        replace h := bnd_e h
        obtain ⟨v4, ev4, h⟩ := h
        refine g8_11 E ev4 dX8_get_22 ?_
        refine v_iload_n E dX8_get_25 rfl ?_
        replace h := bnd_e h
        obtain ⟨v5, ev5, h⟩ := h
        refine v_aaload (kd := 18) (t0 := 4) E (by decide) rfl ev5 dX8_get_26 ?_
        refine v_goto (tgt := 31) E dX8_get_27 (by decide) ?_
        replace h := Option.some.inj h
        subst h
        refine v_widen (k' := 0) (n' := 0) (Nat.le_of_ble_eq_true rfl) (Nat.le_of_ble_eq_true rfl) ?_
        exact v_aret E dX8_get_31
noncomputable def fX8_copyFrom (A0 : AH) (o0 : Option Nat) (a1 : Option Nat) : Option (AH) :=
  (rcv A0 9 o0).bind fun o0 =>
  (fX8_count A0 a1).bind fun r1 =>
  (pI A0 9 257 ((some o0)) r1).bind fun A2 =>
  (iter (S := Int32 × AH) (T := AH) (fun s3 =>
      (gI s3.2 9 257 ((some o0))).bind fun v6 =>
      if v6 ≤ s3.1 then
        some (.inr s3.2)
      else
        (gR s3.2 9 256 ((some o0))).bind fun v7 =>
        (fX8_get s3.2 a1 s3.1).bind fun r8 =>
        (sR s3.2 18 11 v7 s3.1 r8).bind fun A9 =>
        some (.inl ((s3.1 + 1), A9))) (0, A2)).bind fun t4 =>
  some t4
set_option maxRecDepth 100000 in
set_option maxHeartbeats 4000000 in
theorem kX8_copyFrom (l : Launch) {A0 : AH} {o0 : Option Nat} {a1 : Option Nat} {r : AH} (h : fX8_copyFrom A0 o0 a1 = some r) : (∃ a, o0 = some a ∧ Hk A0 a = 9) ∧ Cn l yX8_copyFrom cX8_copyFrom 3 none 1 21 0 0 [vR o0, vR a1] A0 none r := by
  unfold fX8_copyFrom at h
  replace h := bnd_e h
  obtain ⟨o1, e1, h⟩ := h
  obtain ⟨rfl, hk0⟩ := rcv_e e1
  refine ⟨⟨o1, rfl, hk0⟩, ?_⟩
  refine Cn.of (pad := 1) (lv0 := [some (vR (some o1)), some (vR a1), none]) (by decide +kernel) (Nat.le_of_ble_eq_true rfl) rfl ?_
  intro p e s m below meth c base D cy E
  generalize (List.map toV [vR (some o1), vR a1]).toArray = ar at E ⊢
  have E : EN p s m ar meth c D cy RX8 cX8_copyFrom 3 none "copyFrom" := E
  refine v_aload_n E dX8_copyFrom_0 rfl ?_
  refine v_aload_n E dX8_copyFrom_1 rfl ?_
  replace h := bnd_e h
  obtain ⟨r1, er1, h⟩ := h
  refine v_callV (na := 0) (As := []) (rest := [vR (some o1)]) (ci := 8) (q := (RX8, TX8, 2)) E gw8_25 (by decide +kernel) rfl rfl (by decide) (kX8_count l er1).2 (kX8_count l er1).1 rfl rfl dX8_copyFrom_2 ⟨Nat.le_of_ble_eq_true rfl, Nat.le_of_ble_eq_true rfl⟩ ⟨(Nat.le_of_ble_eq_true rfl), (Nat.le_of_ble_eq_true rfl)⟩ (Nat.le_of_ble_eq_true rfl) ?_
  replace h := bnd_e h
  obtain ⟨A2, eA2, h⟩ := h
  refine p8_17 E eA2 dX8_copyFrom_5 ?_
  refine v_iconst (v := 0) E dX8_copyFrom_8 (by decide) ?_
  refine v_istore_n (lv' := [some (vR (some o1)), some (vR a1), some (vI 0)]) E dX8_copyFrom_9 (by decide) rfl ?_
  replace h := bnd_e h
  obtain ⟨t4, et4, h⟩ := h
  refine iter_V (S := Int32 × AH) (T := AH) (Ph := fun s3 => V p l e { frames := 1, cells := 0, slots := 0, locals := 21 } s m ar below meth c (MQ below (Qd base D cy none r) ar s 0 0 (fun q => base ≤ q)) base D cy 3 10 [some (vR (some o1)), some (vR a1), some (vI s3.1)] [] s3.2 0 0) (Pt := fun t4 => V p l e { frames := 1, cells := 0, slots := 0, locals := 21 } s m ar below meth c (MQ below (Qd base D cy none r) ar s 0 0 (fun q => base ≤ q)) base D cy 3 35 [none, none, none] [] t4 0 0) et4 (fun s3 w5 h hx => ?_) ?_
  · try dsimp only at h
    refine v_iload_n E dX8_copyFrom_10 rfl ?_
    refine v_aload_n E dX8_copyFrom_11 rfl ?_
    replace h := bnd_e h
    obtain ⟨v6, ev6, h⟩ := h
    refine g8_17 E ev6 dX8_copyFrom_12 ?_
    refine v_icmp_ge (tgt := 35) E dX8_copyFrom_15 (by decide) (fun c10 => ?_) (fun c10 => ?_)
    · rw [if_pos c10] at h
      refine v_drop (lv' := [none, none, none]) [0, 1, 2] rfl ?_
      replace h := Option.some.inj h
      subst h
      exact hx
    · rw [if_neg c10] at h
      refine v_aload_n E dX8_copyFrom_18 rfl ?_
      replace h := bnd_e h
      obtain ⟨v7, ev7, h⟩ := h
      refine g8_11 E ev7 dX8_copyFrom_19 ?_
      refine v_iload_n E dX8_copyFrom_22 rfl ?_
      refine v_aload_n E dX8_copyFrom_23 rfl ?_
      refine v_iload_n E dX8_copyFrom_24 rfl ?_
      replace h := bnd_e h
      obtain ⟨r8, er8, h⟩ := h
      refine v_callV (na := 1) (As := [vI s3.1]) (rest := [vI s3.1, vR v7]) (ci := 8) (q := (RX8, TX8, 2)) E gw8_28 (by decide +kernel) rfl rfl (by decide) (kX8_get l er8).2 (kX8_get l er8).1 rfl rfl dX8_copyFrom_25 ⟨Nat.le_of_ble_eq_true rfl, Nat.le_of_ble_eq_true rfl⟩ ⟨(Nat.le_of_ble_eq_true rfl), (Nat.le_of_ble_eq_true rfl)⟩ (Nat.le_of_ble_eq_true rfl) ?_
      replace h := bnd_e h
      obtain ⟨A9, eA9, h⟩ := h
      refine v_aastore (kd := 18) (ci := 10) (t0 := 4) E (by decide) (by decide) rfl rfl eA9 dX8_copyFrom_28 ?_
      refine v_iinc (v := (s3.1 + 1)) (lv' := [some (vR (some o1)), some (vR a1), some (vI (s3.1 + 1))]) E dX8_copyFrom_29 rfl (by rfl) (by decide) rfl ?_
      refine v_goto (tgt := 10) E dX8_copyFrom_32 (by decide) ?_
      replace h := Option.some.inj h
      subst h
      exact hx
  · replace h := Option.some.inj h
    subst h
    refine v_widen (k' := 0) (n' := 0) (Nat.le_of_ble_eq_true rfl) (Nat.le_of_ble_eq_true rfl) ?_
    exact v_vret E dX8_copyFrom_35
noncomputable def fX5_remember (A0 : AH) (o0 : Option Nat) (a1 : Option Nat) : Option (AH) :=
  (rcv A0 6 o0).bind fun o0 =>
  (gI A0 6 161 ((some o0))).bind fun v1 =>
  (rmI ((v1 + 1)) 16).bind fun v2 =>
  (pI A0 6 161 ((some o0)) v2).bind fun A3 =>
  (gR A3 6 160 ((some o0))).bind fun v4 =>
  (gI A3 6 161 ((some o0))).bind fun v5 =>
  (aR A3 17 v4 v5).bind fun v6 =>
  jp (fun (x13 : AH) =>
    (gR x13 6 160 ((some o0))).bind fun v14 =>
    (gI x13 6 161 ((some o0))).bind fun v15 =>
    (aR x13 17 v14 v15).bind fun v16 =>
    (fX8_copyFrom x13 v16 a1).bind fun r17 =>
    (gI r17 6 162 ((some o0))).bind fun v18 =>
    (fJ9_min_7cf53 r17 ((v18 + 1)) 16).bind fun r19 =>
    (pI r17 6 162 ((some o0)) r19).bind fun A20 =>
    some A20) fun K7 =>
    if v6 = none then
      (gR A3 6 160 ((some o0))).bind fun v8 =>
      (gI A3 6 161 ((some o0))).bind fun v9 =>
      (fX8_init ((nw A3 9 0)) ((some (Hs A3)))).bind fun r10 =>
      (sR r10 17 9 v8 v9 ((some (Hs A3)))).bind fun A11 =>
      K7 A11
    else
      K7 A3
set_option maxRecDepth 100000 in
set_option maxHeartbeats 4000000 in
theorem kX5_remember (l : Launch) {A0 : AH} {o0 : Option Nat} {a1 : Option Nat} {r : AH} (h : fX5_remember A0 o0 a1 = some r) : (∃ a, o0 = some a ∧ Hk A0 a = 6) ∧ Cn l yX5_remember cX5_remember 2 none 2 43 2 8 [vR o0, vR a1] A0 none r := by
  unfold fX5_remember at h
  replace h := bnd_e h
  obtain ⟨o1, e1, h⟩ := h
  obtain ⟨rfl, hk0⟩ := rcv_e e1
  refine ⟨⟨o1, rfl, hk0⟩, ?_⟩
  refine Cn.of (pad := 0) (lv0 := [some (vR (some o1)), some (vR a1)]) (by decide +kernel) (Nat.le_of_ble_eq_true rfl) rfl ?_
  intro p e s m below meth c base D cy E
  generalize (List.map toV [vR (some o1), vR a1]).toArray = ar at E ⊢
  have E : EN p s m ar meth c D cy RX5 cX5_remember 2 none "remember" := E
  refine v_aload_n E dX5_remember_0 rfl ?_
  refine v_aload_n E dX5_remember_1 rfl ?_
  replace h := bnd_e h
  obtain ⟨v1, ev1, h⟩ := h
  refine g5_17 E ev1 dX5_remember_2 ?_
  refine v_iconst (v := 1) E dX5_remember_5 (by decide) ?_
  refine v_iadd E dX5_remember_6 ?_
  refine v_bipush (v := 16) E dX5_remember_7 (by decide) ?_
  replace h := bnd_e h
  obtain ⟨v2, ev2, h⟩ := h
  refine v_irem E ev2 dX5_remember_9 ?_
  replace h := bnd_e h
  obtain ⟨A3, eA3, h⟩ := h
  refine p5_17 E eA3 dX5_remember_10 ?_
  refine v_aload_n E dX5_remember_13 rfl ?_
  replace h := bnd_e h
  obtain ⟨v4, ev4, h⟩ := h
  refine g5_11 E ev4 dX5_remember_14 ?_
  refine v_aload_n E dX5_remember_17 rfl ?_
  replace h := bnd_e h
  obtain ⟨v5, ev5, h⟩ := h
  refine g5_17 E ev5 dX5_remember_18 ?_
  replace h := bnd_e h
  obtain ⟨v6, ev6, h⟩ := h
  refine v_aaload (kd := 17) (t0 := 3) E (by decide) rfl ev6 dX5_remember_21 ?_
  refine jp_use h (fun K7 eK7 h => ?_)
  have hK7 : ∀ x13 : AH, K7 x13 = some r → V p l e { frames := 2, cells := 2, slots := 8, locals := 43 } s m ar below meth c (MQ below (Qd base D cy none r) ar s 2 8 (fun q => base ≤ q)) base D cy 2 41 [some (vR (some o1)), some (vR a1)] [] x13 2 8 := by
    intro x13 h
    rw [eK7] at h
    try dsimp only at h
    refine v_aload_n E dX5_remember_41 rfl ?_
    replace h := bnd_e h
    obtain ⟨v14, ev14, h⟩ := h
    refine g5_11 E ev14 dX5_remember_42 ?_
    refine v_aload_n E dX5_remember_45 rfl ?_
    replace h := bnd_e h
    obtain ⟨v15, ev15, h⟩ := h
    refine g5_17 E ev15 dX5_remember_46 ?_
    replace h := bnd_e h
    obtain ⟨v16, ev16, h⟩ := h
    refine v_aaload (kd := 17) (t0 := 3) E (by decide) rfl ev16 dX5_remember_49 ?_
    refine v_aload_n E dX5_remember_50 rfl ?_
    replace h := bnd_e h
    obtain ⟨r17, er17, h⟩ := h
    refine v_callV (na := 1) (As := [vR a1]) (rest := []) (ci := 8) (q := (RX8, TX8, 2)) E gw5_25 (by decide +kernel) rfl rfl (by decide) (kX8_copyFrom l er17).2 (kX8_copyFrom l er17).1 rfl rfl dX5_remember_51 ⟨Nat.le_of_ble_eq_true rfl, Nat.le_of_ble_eq_true rfl⟩ ⟨(Nat.le_of_ble_eq_true rfl), (Nat.le_of_ble_eq_true rfl)⟩ (Nat.le_of_ble_eq_true rfl) ?_
    refine v_aload_n E dX5_remember_54 rfl ?_
    refine v_aload_n E dX5_remember_55 rfl ?_
    replace h := bnd_e h
    obtain ⟨v18, ev18, h⟩ := h
    refine g5_21 E ev18 dX5_remember_56 ?_
    refine v_iconst (v := 1) E dX5_remember_59 (by decide) ?_
    refine v_iadd E dX5_remember_60 ?_
    refine v_bipush (v := 16) E dX5_remember_61 (by decide) ?_
    replace h := bnd_e h
    obtain ⟨r19, er19, h⟩ := h
    refine v_callS (na := 2) (As := [vI (v18 + 1), vI 16]) (rest := [vR (some o1)]) E gw5_29 (by decide +kernel) (kJ9_min_7cf53 l er19) rfl rfl dX5_remember_63 ⟨Nat.le_of_ble_eq_true rfl, Nat.le_of_ble_eq_true rfl⟩ ⟨(Nat.le_of_ble_eq_true rfl), (Nat.le_of_ble_eq_true rfl)⟩ (Nat.le_of_ble_eq_true rfl) ?_
    replace h := bnd_e h
    obtain ⟨A20, eA20, h⟩ := h
    refine p5_21 E eA20 dX5_remember_66 ?_
    replace h := Option.some.inj h
    subst h
    refine v_widen (k' := 2) (n' := 8) (Nat.le_of_ble_eq_true rfl) (Nat.le_of_ble_eq_true rfl) ?_
    exact v_vret E dX5_remember_69
  refine v_ifnonnull (tgt := 41) E dX5_remember_22 (by decide) (fun c12 => ?_) (fun c12 => ?_)
  · rw [if_neg c12] at h
    refine v_widen (k' := 2) (n' := 8) (Nat.le_of_ble_eq_true rfl) (Nat.le_of_ble_eq_true rfl) ?_
    exact hK7 A3 h
  · rw [if_pos c12] at h
    refine v_aload_n E dX5_remember_25 rfl ?_
    replace h := bnd_e h
    obtain ⟨v8, ev8, h⟩ := h
    refine g5_11 E ev8 dX5_remember_26 ?_
    refine v_aload_n E dX5_remember_29 rfl ?_
    replace h := bnd_e h
    obtain ⟨v9, ev9, h⟩ := h
    refine g5_17 E ev9 dX5_remember_30 ?_
    refine n5_9 E (Nat.le_of_ble_eq_true rfl) (Nat.le_of_ble_eq_true rfl) dX5_remember_33 ?_
    refine v_dup E dX5_remember_36 rfl ?_
    replace h := bnd_e h
    obtain ⟨r10, er10, h⟩ := h
    refine v_callIN (na := 0) (As := []) (rest := [vR (some (Hs A3)), vI v9, vR v8]) E gw5_24 gn5_24 q112 q87 rfl (by decide +kernel) (kX8_init l er10).2 (Exists.elim (kX8_init l er10).1 (fun a q => ⟨a, q.1⟩)) rfl rfl dX5_remember_37 ⟨Nat.le_of_ble_eq_true rfl, Nat.le_of_ble_eq_true rfl⟩ ⟨(Nat.le_of_ble_eq_true rfl), (Nat.le_of_ble_eq_true rfl)⟩ (Nat.le_of_ble_eq_true rfl) ?_
    refine v_widen (k' := 2) (n' := 8) (Nat.le_of_ble_eq_true rfl) (Nat.le_of_ble_eq_true rfl) ?_
    replace h := bnd_e h
    obtain ⟨A11, eA11, h⟩ := h
    refine v_aastore (kd := 17) (ci := 8) (t0 := 3) E (by decide) (by decide) rfl rfl eA11 dX5_remember_40 ?_
    exact hK7 A11 h
noncomputable def fX1_length (A0 : AH) (o0 : Option Nat) : Option (Int32) :=
  (rcv A0 2 o0).bind fun o0 =>
  (gI A0 2 33 ((some o0))).bind fun v1 =>
  some v1
set_option maxRecDepth 100000 in
set_option maxHeartbeats 4000000 in
theorem kX1_length (l : Launch) {A0 : AH} {o0 : Option Nat} {r : Int32} (h : fX1_length A0 o0 = some r) : (∃ a, o0 = some a ∧ Hk A0 a = 2) ∧ Cn l yX1_length cX1_length 1 (some .int) 0 0 0 0 [vR o0] A0 (some (vI r)) A0 := by
  unfold fX1_length at h
  replace h := bnd_e h
  obtain ⟨o1, e1, h⟩ := h
  obtain ⟨rfl, hk0⟩ := rcv_e e1
  refine ⟨⟨o1, rfl, hk0⟩, ?_⟩
  refine Cn.of (pad := 0) (lv0 := [some (vR (some o1))]) (by decide +kernel) (Nat.le_of_ble_eq_true rfl) rfl ?_
  intro p e s m below meth c base D cy E
  generalize (List.map toV [vR (some o1)]).toArray = ar at E ⊢
  have E : EN p s m ar meth c D cy RX1 cX1_length 1 (some .int) "length" := E
  refine v_aload_n E dX1_length_0 rfl ?_
  replace h := bnd_e h
  obtain ⟨v1, ev1, h⟩ := h
  refine g1_15 E ev1 dX1_length_1 ?_
  replace h := Option.some.inj h
  subst h
  refine v_widen (k' := 0) (n' := 0) (Nat.le_of_ble_eq_true rfl) (Nat.le_of_ble_eq_true rfl) ?_
  exact v_iret E dX1_length_4
noncomputable def fX1_earlierTwin (A0 : AH) (o0 : Option Nat) (a1 : Int32) : Option (Int32) :=
  (rcv A0 2 o0).bind fun o0 =>
  (gI A0 2 33 ((some o0))).bind fun v1 =>
  if a1 < v1 then
    (iter (S := Int32) (T := (Unit) ⊕ (Int32)) (fun s2 =>
        if a1 ≤ s2 then
          some (.inr (.inl ()))
        else
          (gR A0 2 32 ((some o0))).bind fun v5 =>
          (aI A0 14 v5 s2).bind fun v6 =>
          (gR A0 2 32 ((some o0))).bind fun v7 =>
          (aI A0 14 v7 a1).bind fun v8 =>
          if v6 = v8 then
            some (.inr (.inr s2))
          else
            some (.inl ((s2 + 1)))) 0).bind fun t3 =>
    sm t3 (fun t3 =>
      some ((-1))) (fun r => some r)
  else
    some ((-1))
set_option maxRecDepth 100000 in
set_option maxHeartbeats 4000000 in
theorem kX1_earlierTwin (l : Launch) {A0 : AH} {o0 : Option Nat} {a1 : Int32} {r : Int32} (h : fX1_earlierTwin A0 o0 a1 = some r) : (∃ a, o0 = some a ∧ Hk A0 a = 2) ∧ Cn l yX1_earlierTwin cX1_earlierTwin 3 (some .int) 0 0 0 0 [vR o0, vI a1] A0 (some (vI r)) A0 := by
  unfold fX1_earlierTwin at h
  replace h := bnd_e h
  obtain ⟨o1, e1, h⟩ := h
  obtain ⟨rfl, hk0⟩ := rcv_e e1
  refine ⟨⟨o1, rfl, hk0⟩, ?_⟩
  refine Cn.of (pad := 1) (lv0 := [some (vR (some o1)), some (vI a1), none]) (by decide +kernel) (Nat.le_of_ble_eq_true rfl) rfl ?_
  intro p e s m below meth c base D cy E
  generalize (List.map toV [vR (some o1), vI a1]).toArray = ar at E ⊢
  have E : EN p s m ar meth c D cy RX1 cX1_earlierTwin 3 (some .int) "earlierTwin" := E
  refine v_iload_n E dX1_earlierTwin_0 rfl ?_
  refine v_aload_n E dX1_earlierTwin_1 rfl ?_
  replace h := bnd_e h
  obtain ⟨v1, ev1, h⟩ := h
  refine g1_15 E ev1 dX1_earlierTwin_2 ?_
  refine v_icmp_lt (tgt := 10) E dX1_earlierTwin_5 (by decide) (fun c12 => ?_) (fun c12 => ?_)
  · rw [if_pos c12] at h
    refine v_iconst (v := 0) E dX1_earlierTwin_10 (by decide) ?_
    refine v_istore_n (lv' := [some (vR (some o1)), some (vI a1), some (vI 0)]) E dX1_earlierTwin_11 (by decide) rfl ?_
    replace h := bnd_e h
    obtain ⟨t3, et3, h⟩ := h
    refine iter_V (S := Int32) (T := (Unit) ⊕ (Int32)) (Ph := fun s2 => V p l e { frames := 0, cells := 0, slots := 0, locals := 0 } s m ar below meth c (MQ below (Qd base D cy (some (vI r)) A0) ar s 0 0 (fun q => base ≤ q)) base D cy 3 12 [some (vR (some o1)), some (vI a1), some (vI s2)] [] A0 0 0) (Pt := itM (fun t3 => V p l e { frames := 0, cells := 0, slots := 0, locals := 0 } s m ar below meth c (MQ below (Qd base D cy (some (vI r)) A0) ar s 0 0 (fun q => base ≤ q)) base D cy 3 40 [none, none, none] [] A0 0 0) (fun z => z = r)) et3 (fun s2 w4 h hx => ?_) ?_
    · try dsimp only at h
      refine v_iload_n E dX1_earlierTwin_12 rfl ?_
      refine v_iload_n E dX1_earlierTwin_13 rfl ?_
      refine v_icmp_ge (tgt := 40) E dX1_earlierTwin_14 (by decide) (fun c10 => ?_) (fun c10 => ?_)
      · rw [if_pos c10] at h
        refine v_drop (lv' := [none, none, none]) [0, 1, 2] rfl ?_
        replace h := Option.some.inj h
        subst h
        exact hx
      · rw [if_neg c10] at h
        refine v_aload_n E dX1_earlierTwin_17 rfl ?_
        replace h := bnd_e h
        obtain ⟨v5, ev5, h⟩ := h
        refine g1_9 E ev5 dX1_earlierTwin_18 ?_
        refine v_iload_n E dX1_earlierTwin_21 rfl ?_
        replace h := bnd_e h
        obtain ⟨v6, ev6, h⟩ := h
        refine v_iaload E ev6 dX1_earlierTwin_22 ?_
        refine v_aload_n E dX1_earlierTwin_23 rfl ?_
        replace h := bnd_e h
        obtain ⟨v7, ev7, h⟩ := h
        refine g1_9 E ev7 dX1_earlierTwin_24 ?_
        refine v_iload_n E dX1_earlierTwin_27 rfl ?_
        replace h := bnd_e h
        obtain ⟨v8, ev8, h⟩ := h
        refine v_iaload E ev8 dX1_earlierTwin_28 ?_
        refine v_icmp_ne (tgt := 34) E dX1_earlierTwin_29 (by decide) (fun c9 => ?_) (fun c9 => ?_)
        · rw [if_neg c9] at h
          refine v_iinc (v := (s2 + 1)) (lv' := [some (vR (some o1)), some (vI a1), some (vI (s2 + 1))]) E dX1_earlierTwin_34 rfl (by rfl) (by decide) rfl ?_
          refine v_goto (tgt := 12) E dX1_earlierTwin_37 (by decide) ?_
          replace h := Option.some.inj h
          subst h
          exact hx
        · rw [if_pos c9] at h
          refine v_iload_n E dX1_earlierTwin_32 rfl ?_
          replace h := Option.some.inj h
          subst h
          have hx : _ = r := hx
          subst hx
          refine v_widen (k' := 0) (n' := 0) (Nat.le_of_ble_eq_true rfl) (Nat.le_of_ble_eq_true rfl) ?_
          exact v_iret E dX1_earlierTwin_33
    · cases t3 with
      | inl t3 =>
        dsimp only [sm] at h
        refine v_iconst (v := (-1)) E dX1_earlierTwin_40 (by decide) ?_
        replace h := Option.some.inj h
        subst h
        refine v_widen (k' := 0) (n' := 0) (Nat.le_of_ble_eq_true rfl) (Nat.le_of_ble_eq_true rfl) ?_
        exact v_iret E dX1_earlierTwin_41
      | inr z =>
        exact Option.some.inj h
  · rw [if_neg c12] at h
    refine v_iconst (v := (-1)) E dX1_earlierTwin_8 (by decide) ?_
    replace h := Option.some.inj h
    subst h
    refine v_widen (k' := 0) (n' := 0) (Nat.le_of_ble_eq_true rfl) (Nat.le_of_ble_eq_true rfl) ?_
    exact v_iret E dX1_earlierTwin_9
noncomputable def fX7_standsOnceBetween (A0 : AH) (o0 : Option Nat) (a1 : Int32) (a2 : Int32) : Option (Int32) :=
  (rcv A0 8 o0).bind fun o0 =>
  (gR A0 8 227 ((some o0))).bind fun v1 =>
  (aI A0 14 v1 a1).bind fun v2 =>
  (gR A0 8 227 ((some o0))).bind fun v3 =>
  (aI A0 14 v3 a2).bind fun v4 =>
  jp (fun (x12 : Int32) =>
    (gR A0 8 227 ((some o0))).bind fun v13 =>
    (aI A0 14 v13 a1).bind fun v14 =>
    (gR A0 8 228 ((some o0))).bind fun v15 =>
    (aI A0 14 v15 a2).bind fun v16 =>
    jp (fun (x24 : Int32) =>
      if x12 = x24 then
        some 0
      else
        some 1) fun K17 =>
      if v16 ≤ v14 then
        K17 0
      else
        (gR A0 8 228 ((some o0))).bind fun v18 =>
        (aI A0 14 v18 a2).bind fun v19 =>
        (gR A0 8 228 ((some o0))).bind fun v20 =>
        (aI A0 14 v20 a1).bind fun v21 =>
        if v21 ≤ v19 then
          K17 0
        else
          K17 1) fun K5 =>
    if v4 ≤ v2 then
      K5 0
    else
      (gR A0 8 227 ((some o0))).bind fun v6 =>
      (aI A0 14 v6 a2).bind fun v7 =>
      (gR A0 8 228 ((some o0))).bind fun v8 =>
      (aI A0 14 v8 a1).bind fun v9 =>
      if v9 ≤ v7 then
        K5 0
      else
        K5 1
set_option maxRecDepth 100000 in
set_option maxHeartbeats 4000000 in
theorem kX7_standsOnceBetween (l : Launch) {A0 : AH} {o0 : Option Nat} {a1 : Int32} {a2 : Int32} {r : Int32} (h : fX7_standsOnceBetween A0 o0 a1 a2 = some r) : (∃ a, o0 = some a ∧ Hk A0 a = 8) ∧ Cn l yX7_standsOnceBetween cX7_standsOnceBetween 5 (some .boolean) 0 0 0 0 [vR o0, vI a1, vI a2] A0 (some (vI r)) A0 := by
  unfold fX7_standsOnceBetween at h
  replace h := bnd_e h
  obtain ⟨o1, e1, h⟩ := h
  obtain ⟨rfl, hk0⟩ := rcv_e e1
  refine ⟨⟨o1, rfl, hk0⟩, ?_⟩
  refine Cn.of (pad := 2) (lv0 := [some (vR (some o1)), some (vI a1), some (vI a2), none, none]) (by decide +kernel) (Nat.le_of_ble_eq_true rfl) rfl ?_
  intro p e s m below meth c base D cy E
  generalize (List.map toV [vR (some o1), vI a1, vI a2]).toArray = ar at E ⊢
  have E : EN p s m ar meth c D cy RX7 cX7_standsOnceBetween 5 (some .boolean) "standsOnceBetween" := E
  refine v_aload_n E dX7_standsOnceBetween_0 rfl ?_
  replace h := bnd_e h
  obtain ⟨v1, ev1, h⟩ := h
  refine g7_54 E ev1 dX7_standsOnceBetween_1 ?_
  refine v_iload_n E dX7_standsOnceBetween_4 rfl ?_
  replace h := bnd_e h
  obtain ⟨v2, ev2, h⟩ := h
  refine v_iaload E ev2 dX7_standsOnceBetween_5 ?_
  refine v_aload_n E dX7_standsOnceBetween_6 rfl ?_
  replace h := bnd_e h
  obtain ⟨v3, ev3, h⟩ := h
  refine g7_54 E ev3 dX7_standsOnceBetween_7 ?_
  refine v_iload_n E dX7_standsOnceBetween_10 rfl ?_
  replace h := bnd_e h
  obtain ⟨v4, ev4, h⟩ := h
  refine v_iaload E ev4 dX7_standsOnceBetween_11 ?_
  refine jp_use h (fun K5 eK5 h => ?_)
  have hK5 : ∀ x12 : Int32, K5 x12 = some r → V p l e { frames := 0, cells := 0, slots := 0, locals := 0 } s m ar below meth c (MQ below (Qd base D cy (some (vI r)) A0) ar s 0 0 (fun q => base ≤ q)) base D cy 5 35 [some (vR (some o1)), some (vI a1), some (vI a2), none, none] [vI x12] A0 0 0 := by
    intro x12 h
    rw [eK5] at h
    try dsimp only at h
    refine v_istore_n (lv' := [some (vR (some o1)), some (vI a1), some (vI a2), some (vI x12), none]) E dX7_standsOnceBetween_35 (by decide) rfl ?_
    refine v_aload_n E dX7_standsOnceBetween_36 rfl ?_
    replace h := bnd_e h
    obtain ⟨v13, ev13, h⟩ := h
    refine g7_54 E ev13 dX7_standsOnceBetween_37 ?_
    refine v_iload_n E dX7_standsOnceBetween_40 rfl ?_
    replace h := bnd_e h
    obtain ⟨v14, ev14, h⟩ := h
    refine v_iaload E ev14 dX7_standsOnceBetween_41 ?_
    refine v_aload_n E dX7_standsOnceBetween_42 rfl ?_
    replace h := bnd_e h
    obtain ⟨v15, ev15, h⟩ := h
    refine g7_57 E ev15 dX7_standsOnceBetween_43 ?_
    refine v_iload_n E dX7_standsOnceBetween_46 rfl ?_
    replace h := bnd_e h
    obtain ⟨v16, ev16, h⟩ := h
    refine v_iaload E ev16 dX7_standsOnceBetween_47 ?_
    refine jp_use h (fun K17 eK17 h => ?_)
    have hK17 : ∀ x24 : Int32, K17 x24 = some r → V p l e { frames := 0, cells := 0, slots := 0, locals := 0 } s m ar below meth c (MQ below (Qd base D cy (some (vI r)) A0) ar s 0 0 (fun q => base ≤ q)) base D cy 5 71 [none, none, none, some (vI x12), none] [vI x24] A0 0 0 := by
      intro x24 h
      rw [eK17] at h
      try dsimp only at h
      refine v_istore (lv' := [none, none, none, some (vI x12), some (vI x24)]) E dX7_standsOnceBetween_71 (by decide) rfl ?_
      refine v_iload_n E dX7_standsOnceBetween_73 rfl ?_
      refine v_iload E dX7_standsOnceBetween_74 rfl ?_
      refine v_icmp_eq (tgt := 83) E dX7_standsOnceBetween_76 (by decide) (fun c25 => ?_) (fun c25 => ?_)
      · rw [if_pos c25] at h
        refine v_iconst (v := 0) E dX7_standsOnceBetween_83 (by decide) ?_
        replace h := Option.some.inj h
        subst h
        refine v_widen (k' := 0) (n' := 0) (Nat.le_of_ble_eq_true rfl) (Nat.le_of_ble_eq_true rfl) ?_
        exact v_zret E (Or.inl rfl) dX7_standsOnceBetween_84
      · rw [if_neg c25] at h
        refine v_iconst (v := 1) E dX7_standsOnceBetween_79 (by decide) ?_
        refine v_goto (tgt := 84) E dX7_standsOnceBetween_80 (by decide) ?_
        replace h := Option.some.inj h
        subst h
        refine v_widen (k' := 0) (n' := 0) (Nat.le_of_ble_eq_true rfl) (Nat.le_of_ble_eq_true rfl) ?_
        exact v_zret E (Or.inr rfl) dX7_standsOnceBetween_84
    refine v_icmp_ge (tgt := 70) E dX7_standsOnceBetween_48 (by decide) (fun c23 => ?_) (fun c23 => ?_)
    · rw [if_pos c23] at h
      refine v_iconst (v := 0) E dX7_standsOnceBetween_70 (by decide) ?_
      refine v_drop (lv' := [none, none, none, some (vI x12), none]) [0, 1, 2] rfl ?_
      exact hK17 0 h
    · rw [if_neg c23] at h
      refine v_aload_n E dX7_standsOnceBetween_51 rfl ?_
      replace h := bnd_e h
      obtain ⟨v18, ev18, h⟩ := h
      refine g7_57 E ev18 dX7_standsOnceBetween_52 ?_
      refine v_iload_n E dX7_standsOnceBetween_55 rfl ?_
      replace h := bnd_e h
      obtain ⟨v19, ev19, h⟩ := h
      refine v_iaload E ev19 dX7_standsOnceBetween_56 ?_
      refine v_aload_n E dX7_standsOnceBetween_57 rfl ?_
      replace h := bnd_e h
      obtain ⟨v20, ev20, h⟩ := h
      refine g7_57 E ev20 dX7_standsOnceBetween_58 ?_
      refine v_iload_n E dX7_standsOnceBetween_61 rfl ?_
      replace h := bnd_e h
      obtain ⟨v21, ev21, h⟩ := h
      refine v_iaload E ev21 dX7_standsOnceBetween_62 ?_
      refine v_icmp_ge (tgt := 70) E dX7_standsOnceBetween_63 (by decide) (fun c22 => ?_) (fun c22 => ?_)
      · rw [if_pos c22] at h
        refine v_iconst (v := 0) E dX7_standsOnceBetween_70 (by decide) ?_
        refine v_drop (lv' := [none, none, none, some (vI x12), none]) [0, 1, 2] rfl ?_
        exact hK17 0 h
      · rw [if_neg c22] at h
        refine v_iconst (v := 1) E dX7_standsOnceBetween_66 (by decide) ?_
        refine v_goto (tgt := 71) E dX7_standsOnceBetween_67 (by decide) ?_
        refine v_drop (lv' := [none, none, none, some (vI x12), none]) [0, 1, 2] rfl ?_
        exact hK17 1 h
  refine v_icmp_ge (tgt := 34) E dX7_standsOnceBetween_12 (by decide) (fun c11 => ?_) (fun c11 => ?_)
  · rw [if_pos c11] at h
    refine v_iconst (v := 0) E dX7_standsOnceBetween_34 (by decide) ?_
    exact hK5 0 h
  · rw [if_neg c11] at h
    refine v_aload_n E dX7_standsOnceBetween_15 rfl ?_
    replace h := bnd_e h
    obtain ⟨v6, ev6, h⟩ := h
    refine g7_54 E ev6 dX7_standsOnceBetween_16 ?_
    refine v_iload_n E dX7_standsOnceBetween_19 rfl ?_
    replace h := bnd_e h
    obtain ⟨v7, ev7, h⟩ := h
    refine v_iaload E ev7 dX7_standsOnceBetween_20 ?_
    refine v_aload_n E dX7_standsOnceBetween_21 rfl ?_
    replace h := bnd_e h
    obtain ⟨v8, ev8, h⟩ := h
    refine g7_57 E ev8 dX7_standsOnceBetween_22 ?_
    refine v_iload_n E dX7_standsOnceBetween_25 rfl ?_
    replace h := bnd_e h
    obtain ⟨v9, ev9, h⟩ := h
    refine v_iaload E ev9 dX7_standsOnceBetween_26 ?_
    refine v_icmp_ge (tgt := 34) E dX7_standsOnceBetween_27 (by decide) (fun c10 => ?_) (fun c10 => ?_)
    · rw [if_pos c10] at h
      refine v_iconst (v := 0) E dX7_standsOnceBetween_34 (by decide) ?_
      exact hK5 0 h
    · rw [if_neg c10] at h
      refine v_iconst (v := 1) E dX7_standsOnceBetween_30 (by decide) ?_
      refine v_goto (tgt := 35) E dX7_standsOnceBetween_31 (by decide) ?_
      exact hK5 1 h
noncomputable def fX7_init (A0 : AH) (o0 : Option Nat) (a1 : Option Nat) : Option (AH) :=
  (rcv A0 8 o0).bind fun o0 =>
  (pZ A0 8 230 ((some o0)) 0).bind fun A1 =>
  (pJ A1 8 231 ((some o0)) 0).bind fun A2 =>
  (pI A2 8 232 ((some o0)) 1).bind fun A3 =>
  (pZ A3 8 233 ((some o0)) 0).bind fun A4 =>
  (pI A4 8 234 ((some o0)) ((-1))).bind fun A5 =>
  (pI A5 8 235 ((some o0)) 0).bind fun A6 =>
  (pZ A6 8 236 ((some o0)) 0).bind fun A7 =>
  (nA A7 14 10 10).bind fun A8 =>
  (pR A8 8 237 ((some o0)) ((some (Hs A7)))).bind fun A9 =>
  (fX1_length A9 a1).bind fun r10 =>
  (dvI r10 2).bind fun v11 =>
  (pI A9 8 224 ((some o0)) v11).bind fun A12 =>
  (gI A12 8 224 ((some o0))).bind fun v13 =>
  (pI A12 8 225 ((some o0)) ((2 * v13))).bind fun A14 =>
  (gI A14 8 225 ((some o0))).bind fun v15 =>
  (nA A14 14 v15 16).bind fun A16 =>
  (pR A16 8 226 ((some o0)) ((some (Hs A14)))).bind fun A17 =>
  (gI A17 8 224 ((some o0))).bind fun v18 =>
  (nA A17 14 v18 8).bind fun A19 =>
  (pR A19 8 227 ((some o0)) ((some (Hs A17)))).bind fun A20 =>
  (gI A20 8 224 ((some o0))).bind fun v21 =>
  (nA A20 14 v21 8).bind fun A22 =>
  (pR A22 8 228 ((some o0)) ((some (Hs A20)))).bind fun A23 =>
  (gI A23 8 224 ((some o0))).bind fun v24 =>
  (nA A23 14 v24 8).bind fun A25 =>
  (pR A25 8 229 ((some o0)) ((some (Hs A23)))).bind fun A26 =>
  (iter (S := Int32 × Int32 × AH) (T := AH) (fun s27 =>
      (gI s27.2.2 8 225 ((some o0))).bind fun v30 =>
      if v30 ≤ s27.2.1 then
        some (.inr s27.2.2)
      else
        (fX1_earlierTwin s27.2.2 a1 s27.2.1).bind fun r31 =>
        jp (fun (x48 : Int32 × AH) =>
          some (.inl (x48.1, (s27.2.1 + 1), x48.2))) fun K32 =>
          if r31 = (-1) then
            (gI s27.2.2 8 224 ((some o0))).bind fun v33 =>
            if v33 ≤ s27.1 then
              K32 (s27.1, s27.2.2)
            else
              (gR s27.2.2 8 226 ((some o0))).bind fun v34 =>
              (sI s27.2.2 14 v34 s27.2.1 s27.1).bind fun A35 =>
              (gR A35 8 227 ((some o0))).bind fun v36 =>
              (sI A35 14 v36 s27.1 s27.2.1).bind fun A37 =>
              K32 ((s27.1 + 1), A37)
          else
            (gR s27.2.2 8 226 ((some o0))).bind fun v39 =>
            (gR s27.2.2 8 226 ((some o0))).bind fun v40 =>
            (aI s27.2.2 14 v40 r31).bind fun v41 =>
            (sI s27.2.2 14 v39 s27.2.1 v41).bind fun A42 =>
            (gR A42 8 228 ((some o0))).bind fun v43 =>
            (gR A42 8 226 ((some o0))).bind fun v44 =>
            (aI A42 14 v44 s27.2.1).bind fun v45 =>
            (sI A42 14 v43 v45 s27.2.1).bind fun A46 =>
            K32 (s27.1, A46)) (0, 0, A26)).bind fun t28 =>
  (iter (S := Int32 × AH) (T := AH) (fun s50 =>
      (gI s50.2 8 224 ((some o0))).bind fun v53 =>
      if v53 ≤ s50.1 then
        some (.inr s50.2)
      else
        (iter (S := Int32 × AH) (T := AH) (fun s54 =>
            (gI s54.2 8 224 ((some o0))).bind fun v57 =>
            if v57 ≤ s54.1 then
              some (.inr s54.2)
            else
              (fX7_standsOnceBetween s54.2 ((some o0)) s50.1 s54.1).bind fun r58 =>
              jp (fun (x64 : AH) =>
                some (.inl ((s54.1 + 1), x64))) fun K59 =>
                if r58 = 0 then
                  K59 s54.2
                else
                  (gR s54.2 8 229 ((some o0))).bind fun v60 =>
                  (aI s54.2 14 v60 s50.1).bind fun v61 =>
                  (sI s54.2 14 v60 s50.1 ((v61 ||| ((1 : Int32) <<< ((s54.1 : Int32) &&& 31))))).bind fun A62 =>
                  K59 A62) (0, s50.2)).bind fun t55 =>
        some (.inl ((s50.1 + 1), t55))) (0, t28)).bind fun t51 =>
  some t51
set_option maxRecDepth 100000 in
set_option maxHeartbeats 4000000 in
theorem kX7_init (l : Launch) {A0 : AH} {o0 : Option Nat} {a1 : Option Nat} {r : AH} (h : fX7_init A0 o0 a1 = some r) : (∃ a, o0 = some a ∧ Hk A0 a = 8) ∧ Cn l yX7_init cX7_init 5 none 1 24 5 50 [vR o0, vR a1] A0 none r := by
  unfold fX7_init at h
  replace h := bnd_e h
  obtain ⟨o1, e1, h⟩ := h
  obtain ⟨rfl, hk0⟩ := rcv_e e1
  refine ⟨⟨o1, rfl, hk0⟩, ?_⟩
  refine Cn.of (pad := 3) (lv0 := [some (vR (some o1)), some (vR a1), none, none, none]) (by decide +kernel) (Nat.le_of_ble_eq_true rfl) rfl ?_
  intro p e s m below meth c base D cy E
  generalize (List.map toV [vR (some o1), vR a1]).toArray = ar at E ⊢
  have E : EN p s m ar meth c D cy RX7 cX7_init 5 none "<init>" := E
  refine v_aload_n E dX7_init_0 rfl ?_
  refine v_objInit E q338 q107 q108 ⟨_, rfl⟩ dX7_init_1 (Nat.le_of_ble_eq_true rfl) (Nat.le_of_ble_eq_true rfl) ?_
  refine v_aload_n E dX7_init_4 rfl ?_
  refine v_iconst (v := 0) E dX7_init_5 (by decide) ?_
  replace h := bnd_e h
  obtain ⟨A1, eA1, h⟩ := h
  refine p7_9 E eA1 dX7_init_6 ?_
  refine v_aload_n E dX7_init_9 rfl ?_
  refine v_lconst (v := 0) E dX7_init_10 (by decide) ?_
  replace h := bnd_e h
  obtain ⟨A2, eA2, h⟩ := h
  refine p7_15 E eA2 dX7_init_11 ?_
  refine v_aload_n E dX7_init_14 rfl ?_
  refine v_iconst (v := 1) E dX7_init_15 (by decide) ?_
  replace h := bnd_e h
  obtain ⟨A3, eA3, h⟩ := h
  refine p7_19 E eA3 dX7_init_16 ?_
  refine v_aload_n E dX7_init_19 rfl ?_
  refine v_iconst (v := 0) E dX7_init_20 (by decide) ?_
  replace h := bnd_e h
  obtain ⟨A4, eA4, h⟩ := h
  refine p7_23 E eA4 dX7_init_21 ?_
  refine v_aload_n E dX7_init_24 rfl ?_
  refine v_iconst (v := (-1)) E dX7_init_25 (by decide) ?_
  replace h := bnd_e h
  obtain ⟨A5, eA5, h⟩ := h
  refine p7_26 E eA5 dX7_init_26 ?_
  refine v_aload_n E dX7_init_29 rfl ?_
  refine v_iconst (v := 0) E dX7_init_30 (by decide) ?_
  replace h := bnd_e h
  obtain ⟨A6, eA6, h⟩ := h
  refine p7_29 E eA6 dX7_init_31 ?_
  refine v_aload_n E dX7_init_34 rfl ?_
  refine v_iconst (v := 0) E dX7_init_35 (by decide) ?_
  replace h := bnd_e h
  obtain ⟨A7, eA7, h⟩ := h
  refine p7_32 E eA7 dX7_init_36 ?_
  refine v_aload_n E dX7_init_39 rfl ?_
  refine v_bipush (v := 10) E dX7_init_40 (by decide) ?_
  replace h := bnd_e h
  obtain ⟨A8, eA8, h⟩ := h
  refine v_newi E q140 eA8 (Nat.le_of_ble_eq_true rfl) (Nat.le_of_ble_eq_true rfl) (by decide) dX7_init_42 ?_
  replace h := bnd_e h
  obtain ⟨A9, eA9, h⟩ := h
  refine p7_35 E eA9 dX7_init_44 ?_
  refine v_aload_n E dX7_init_47 rfl ?_
  refine v_aload_n E dX7_init_48 rfl ?_
  replace h := bnd_e h
  obtain ⟨r10, er10, h⟩ := h
  refine v_callV (na := 0) (As := []) (rest := [vR (some o1)]) (ci := 1) (q := (RX1, TX1, 2)) E gw7_39 (by decide +kernel) rfl rfl (by decide) (kX1_length l er10).2 (kX1_length l er10).1 rfl rfl dX7_init_49 ⟨Nat.le_of_ble_eq_true rfl, Nat.le_of_ble_eq_true rfl⟩ ⟨(Nat.le_of_ble_eq_true rfl), (Nat.le_of_ble_eq_true rfl)⟩ (Nat.le_of_ble_eq_true rfl) ?_
  refine v_iconst (v := 2) E dX7_init_52 (by decide) ?_
  replace h := bnd_e h
  obtain ⟨v11, ev11, h⟩ := h
  refine v_idiv E ev11 dX7_init_53 ?_
  replace h := bnd_e h
  obtain ⟨A12, eA12, h⟩ := h
  refine p7_45 E eA12 dX7_init_54 ?_
  refine v_aload_n E dX7_init_57 rfl ?_
  refine v_iconst (v := 2) E dX7_init_58 (by decide) ?_
  refine v_aload_n E dX7_init_59 rfl ?_
  replace h := bnd_e h
  obtain ⟨v13, ev13, h⟩ := h
  refine g7_45 E ev13 dX7_init_60 ?_
  refine v_imul E dX7_init_63 ?_
  replace h := bnd_e h
  obtain ⟨A14, eA14, h⟩ := h
  refine p7_48 E eA14 dX7_init_64 ?_
  refine v_aload_n E dX7_init_67 rfl ?_
  refine v_aload_n E dX7_init_68 rfl ?_
  replace h := bnd_e h
  obtain ⟨v15, ev15, h⟩ := h
  refine g7_48 E ev15 dX7_init_69 ?_
  replace h := bnd_e h
  obtain ⟨A16, eA16, h⟩ := h
  refine v_newi E q140 eA16 (Nat.le_of_ble_eq_true rfl) (Nat.le_of_ble_eq_true rfl) (by decide) dX7_init_72 ?_
  replace h := bnd_e h
  obtain ⟨A17, eA17, h⟩ := h
  refine p7_51 E eA17 dX7_init_74 ?_
  refine v_aload_n E dX7_init_77 rfl ?_
  refine v_aload_n E dX7_init_78 rfl ?_
  replace h := bnd_e h
  obtain ⟨v18, ev18, h⟩ := h
  refine g7_45 E ev18 dX7_init_79 ?_
  replace h := bnd_e h
  obtain ⟨A19, eA19, h⟩ := h
  refine v_newi E q140 eA19 (Nat.le_of_ble_eq_true rfl) (Nat.le_of_ble_eq_true rfl) (by decide) dX7_init_82 ?_
  replace h := bnd_e h
  obtain ⟨A20, eA20, h⟩ := h
  refine p7_54 E eA20 dX7_init_84 ?_
  refine v_aload_n E dX7_init_87 rfl ?_
  refine v_aload_n E dX7_init_88 rfl ?_
  replace h := bnd_e h
  obtain ⟨v21, ev21, h⟩ := h
  refine g7_45 E ev21 dX7_init_89 ?_
  replace h := bnd_e h
  obtain ⟨A22, eA22, h⟩ := h
  refine v_newi E q140 eA22 (Nat.le_of_ble_eq_true rfl) (Nat.le_of_ble_eq_true rfl) (by decide) dX7_init_92 ?_
  replace h := bnd_e h
  obtain ⟨A23, eA23, h⟩ := h
  refine p7_57 E eA23 dX7_init_94 ?_
  refine v_aload_n E dX7_init_97 rfl ?_
  refine v_aload_n E dX7_init_98 rfl ?_
  replace h := bnd_e h
  obtain ⟨v24, ev24, h⟩ := h
  refine g7_45 E ev24 dX7_init_99 ?_
  replace h := bnd_e h
  obtain ⟨A25, eA25, h⟩ := h
  refine v_newi E q140 eA25 (Nat.le_of_ble_eq_true rfl) (Nat.le_of_ble_eq_true rfl) (by decide) dX7_init_102 ?_
  replace h := bnd_e h
  obtain ⟨A26, eA26, h⟩ := h
  refine p7_60 E eA26 dX7_init_104 ?_
  refine v_iconst (v := 0) E dX7_init_107 (by decide) ?_
  refine v_istore_n (lv' := [some (vR (some o1)), some (vR a1), some (vI 0), none, none]) E dX7_init_108 (by decide) rfl ?_
  refine v_iconst (v := 0) E dX7_init_109 (by decide) ?_
  refine v_istore_n (lv' := [some (vR (some o1)), some (vR a1), some (vI 0), some (vI 0), none]) E dX7_init_110 (by decide) rfl ?_
  replace h := bnd_e h
  obtain ⟨t28, et28, h⟩ := h
  refine iter_V (S := Int32 × Int32 × AH) (T := AH) (Ph := fun s27 => V p l e { frames := 1, cells := 5, slots := 50, locals := 24 } s m ar below meth c (MQ below (Qd base D cy none r) ar s 5 50 (fun q => base ≤ q)) base D cy 5 111 [some (vR (some o1)), some (vR a1), some (vI s27.1), some (vI s27.2.1), none] [] s27.2.2 5 50) (Pt := fun t28 => V p l e { frames := 1, cells := 5, slots := 50, locals := 24 } s m ar below meth c (MQ below (Qd base D cy none r) ar s 5 50 (fun q => base ≤ q)) base D cy 5 191 [some (vR (some o1)), none, none, none, none] [] t28 5 50) et28 (fun s27 w29 h hx => ?_) ?_
  · try dsimp only at h
    refine v_iload_n E dX7_init_111 rfl ?_
    refine v_aload_n E dX7_init_112 rfl ?_
    replace h := bnd_e h
    obtain ⟨v30, ev30, h⟩ := h
    refine g7_48 E ev30 dX7_init_113 ?_
    refine v_icmp_ge (tgt := 191) E dX7_init_116 (by decide) (fun c49 => ?_) (fun c49 => ?_)
    · rw [if_pos c49] at h
      refine v_drop (lv' := [some (vR (some o1)), none, none, none, none]) [1, 2, 3] rfl ?_
      replace h := Option.some.inj h
      subst h
      exact hx
    · rw [if_neg c49] at h
      refine v_aload_n E dX7_init_119 rfl ?_
      refine v_iload_n E dX7_init_120 rfl ?_
      replace h := bnd_e h
      obtain ⟨r31, er31, h⟩ := h
      refine v_callV (na := 1) (As := [vI s27.2.1]) (rest := []) (ci := 1) (q := (RX1, TX1, 2)) E gw7_63 (by decide +kernel) rfl rfl (by decide) (kX1_earlierTwin l er31).2 (kX1_earlierTwin l er31).1 rfl rfl dX7_init_121 ⟨Nat.le_of_ble_eq_true rfl, Nat.le_of_ble_eq_true rfl⟩ ⟨(Nat.le_of_ble_eq_true rfl), (Nat.le_of_ble_eq_true rfl)⟩ (Nat.le_of_ble_eq_true rfl) ?_
      refine v_istore (lv' := [some (vR (some o1)), some (vR a1), some (vI s27.1), some (vI s27.2.1), some (vI r31)]) E dX7_init_124 (by decide) rfl ?_
      refine v_iload E dX7_init_126 rfl ?_
      refine v_iconst (v := (-1)) E dX7_init_128 (by decide) ?_
      refine jp_use h (fun K32 eK32 h => ?_)
      have hK32 : ∀ x48 : Int32 × AH, K32 x48 = some w29 → V p l e { frames := 1, cells := 5, slots := 50, locals := 24 } s m ar below meth c (MQ below (Qd base D cy none r) ar s 5 50 (fun q => base ≤ q)) base D cy 5 185 [some (vR (some o1)), some (vR a1), some (vI x48.1), some (vI s27.2.1), none] [] x48.2 5 50 := by
        intro x48 h
        rw [eK32] at h
        try dsimp only at h
        refine v_iinc (v := (s27.2.1 + 1)) (lv' := [some (vR (some o1)), some (vR a1), some (vI x48.1), some (vI (s27.2.1 + 1)), none]) E dX7_init_185 rfl (by rfl) (by decide) rfl ?_
        refine v_goto (tgt := 111) E dX7_init_188 (by decide) ?_
        replace h := Option.some.inj h
        subst h
        exact hx
      refine v_icmp_eq (tgt := 160) E dX7_init_129 (by decide) (fun c47 => ?_) (fun c47 => ?_)
      · rw [if_pos c47] at h
        refine v_iload_n E dX7_init_160 rfl ?_
        refine v_aload_n E dX7_init_161 rfl ?_
        replace h := bnd_e h
        obtain ⟨v33, ev33, h⟩ := h
        refine g7_45 E ev33 dX7_init_162 ?_
        refine v_icmp_ge (tgt := 185) E dX7_init_165 (by decide) (fun c38 => ?_) (fun c38 => ?_)
        · rw [if_pos c38] at h
          refine v_drop (lv' := [some (vR (some o1)), some (vR a1), some (vI s27.1), some (vI s27.2.1), none]) [4] rfl ?_
          exact hK32 (s27.1, s27.2.2) h
        · rw [if_neg c38] at h
          refine v_aload_n E dX7_init_168 rfl ?_
          replace h := bnd_e h
          obtain ⟨v34, ev34, h⟩ := h
          refine g7_51 E ev34 dX7_init_169 ?_
          refine v_iload_n E dX7_init_172 rfl ?_
          refine v_iload_n E dX7_init_173 rfl ?_
          replace h := bnd_e h
          obtain ⟨A35, eA35, h⟩ := h
          refine v_iastore E eA35 dX7_init_174 ?_
          refine v_aload_n E dX7_init_175 rfl ?_
          replace h := bnd_e h
          obtain ⟨v36, ev36, h⟩ := h
          refine g7_54 E ev36 dX7_init_176 ?_
          refine v_iload_n E dX7_init_179 rfl ?_
          refine v_iload_n E dX7_init_180 rfl ?_
          replace h := bnd_e h
          obtain ⟨A37, eA37, h⟩ := h
          refine v_iastore E eA37 dX7_init_181 ?_
          refine v_iinc (v := (s27.1 + 1)) (lv' := [some (vR (some o1)), some (vR a1), some (vI (s27.1 + 1)), some (vI s27.2.1), some (vI r31)]) E dX7_init_182 rfl (by rfl) (by decide) rfl ?_
          refine v_drop (lv' := [some (vR (some o1)), some (vR a1), some (vI (s27.1 + 1)), some (vI s27.2.1), none]) [4] rfl ?_
          exact hK32 ((s27.1 + 1), A37) h
      · rw [if_neg c47] at h
        refine v_aload_n E dX7_init_132 rfl ?_
        replace h := bnd_e h
        obtain ⟨v39, ev39, h⟩ := h
        refine g7_51 E ev39 dX7_init_133 ?_
        refine v_iload_n E dX7_init_136 rfl ?_
        refine v_aload_n E dX7_init_137 rfl ?_
        replace h := bnd_e h
        obtain ⟨v40, ev40, h⟩ := h
        refine g7_51 E ev40 dX7_init_138 ?_
        refine v_iload E dX7_init_141 rfl ?_
        replace h := bnd_e h
        obtain ⟨v41, ev41, h⟩ := h
        refine v_iaload E ev41 dX7_init_143 ?_
        replace h := bnd_e h
        obtain ⟨A42, eA42, h⟩ := h
        refine v_iastore E eA42 dX7_init_144 ?_
        refine v_aload_n E dX7_init_145 rfl ?_
        replace h := bnd_e h
        obtain ⟨v43, ev43, h⟩ := h
        refine g7_57 E ev43 dX7_init_146 ?_
        refine v_aload_n E dX7_init_149 rfl ?_
        replace h := bnd_e h
        obtain ⟨v44, ev44, h⟩ := h
        refine g7_51 E ev44 dX7_init_150 ?_
        refine v_iload_n E dX7_init_153 rfl ?_
        replace h := bnd_e h
        obtain ⟨v45, ev45, h⟩ := h
        refine v_iaload E ev45 dX7_init_154 ?_
        refine v_iload_n E dX7_init_155 rfl ?_
        replace h := bnd_e h
        obtain ⟨A46, eA46, h⟩ := h
        refine v_iastore E eA46 dX7_init_156 ?_
        refine v_goto (tgt := 185) E dX7_init_157 (by decide) ?_
        refine v_drop (lv' := [some (vR (some o1)), some (vR a1), some (vI s27.1), some (vI s27.2.1), none]) [4] rfl ?_
        exact hK32 (s27.1, A46) h
  · refine v_iconst (v := 0) E dX7_init_191 (by decide) ?_
    refine v_istore_n (lv' := [some (vR (some o1)), none, none, some (vI 0), none]) E dX7_init_192 (by decide) rfl ?_
    replace h := bnd_e h
    obtain ⟨t51, et51, h⟩ := h
    refine iter_V (S := Int32 × AH) (T := AH) (Ph := fun s50 => V p l e { frames := 1, cells := 5, slots := 50, locals := 24 } s m ar below meth c (MQ below (Qd base D cy none r) ar s 5 50 (fun q => base ≤ q)) base D cy 5 193 [some (vR (some o1)), none, none, some (vI s50.1), none] [] s50.2 5 50) (Pt := fun t51 => V p l e { frames := 1, cells := 5, slots := 50, locals := 24 } s m ar below meth c (MQ below (Qd base D cy none r) ar s 5 50 (fun q => base ≤ q)) base D cy 5 248 [none, none, none, none, none] [] t51 5 50) et51 (fun s50 w52 h hx => ?_) ?_
    · try dsimp only at h
      refine v_iload_n E dX7_init_193 rfl ?_
      refine v_aload_n E dX7_init_194 rfl ?_
      replace h := bnd_e h
      obtain ⟨v53, ev53, h⟩ := h
      refine g7_45 E ev53 dX7_init_195 ?_
      refine v_icmp_ge (tgt := 248) E dX7_init_198 (by decide) (fun c67 => ?_) (fun c67 => ?_)
      · rw [if_pos c67] at h
        refine v_drop (lv' := [none, none, none, none, none]) [0, 3] rfl ?_
        replace h := Option.some.inj h
        subst h
        exact hx
      · rw [if_neg c67] at h
        refine v_iconst (v := 0) E dX7_init_201 (by decide) ?_
        refine v_istore (lv' := [some (vR (some o1)), none, none, some (vI s50.1), some (vI 0)]) E dX7_init_202 (by decide) rfl ?_
        replace h := bnd_e h
        obtain ⟨t55, et55, h⟩ := h
        refine iter_V (S := Int32 × AH) (T := AH) (Ph := fun s54 => V p l e { frames := 1, cells := 5, slots := 50, locals := 24 } s m ar below meth c (MQ below (Qd base D cy none r) ar s 5 50 (fun q => base ≤ q)) base D cy 5 204 [some (vR (some o1)), none, none, some (vI s50.1), some (vI s54.1)] [] s54.2 5 50) (Pt := fun t55 => V p l e { frames := 1, cells := 5, slots := 50, locals := 24 } s m ar below meth c (MQ below (Qd base D cy none r) ar s 5 50 (fun q => base ≤ q)) base D cy 5 242 [some (vR (some o1)), none, none, some (vI s50.1), none] [] t55 5 50) et55 (fun s54 w56 h hx => ?_) ?_
        · try dsimp only at h
          refine v_iload E dX7_init_204 rfl ?_
          refine v_aload_n E dX7_init_206 rfl ?_
          replace h := bnd_e h
          obtain ⟨v57, ev57, h⟩ := h
          refine g7_45 E ev57 dX7_init_207 ?_
          refine v_icmp_ge (tgt := 242) E dX7_init_210 (by decide) (fun c65 => ?_) (fun c65 => ?_)
          · rw [if_pos c65] at h
            refine v_drop (lv' := [some (vR (some o1)), none, none, some (vI s50.1), none]) [4] rfl ?_
            replace h := Option.some.inj h
            subst h
            exact hx
          · rw [if_neg c65] at h
            refine v_aload_n E dX7_init_213 rfl ?_
            refine v_iload_n E dX7_init_214 rfl ?_
            refine v_iload E dX7_init_215 rfl ?_
            replace h := bnd_e h
            obtain ⟨r58, er58, h⟩ := h
            refine v_callV (na := 2) (As := [vI s50.1, vI s54.1]) (rest := []) (ci := 7) (q := (RX7, TX7, 14)) E gw7_67 (by decide +kernel) rfl rfl (by decide) (kX7_standsOnceBetween l er58).2 (kX7_standsOnceBetween l er58).1 rfl rfl dX7_init_217 ⟨Nat.le_of_ble_eq_true rfl, Nat.le_of_ble_eq_true rfl⟩ ⟨(Nat.le_of_ble_eq_true rfl), (Nat.le_of_ble_eq_true rfl)⟩ (Nat.le_of_ble_eq_true rfl) ?_
            refine jp_use h (fun K59 eK59 h => ?_)
            have hK59 : ∀ x64 : AH, K59 x64 = some w56 → V p l e { frames := 1, cells := 5, slots := 50, locals := 24 } s m ar below meth c (MQ below (Qd base D cy none r) ar s 5 50 (fun q => base ≤ q)) base D cy 5 236 [some (vR (some o1)), none, none, some (vI s50.1), some (vI s54.1)] [] x64 5 50 := by
              intro x64 h
              rw [eK59] at h
              try dsimp only at h
              refine v_iinc (v := (s54.1 + 1)) (lv' := [some (vR (some o1)), none, none, some (vI s50.1), some (vI (s54.1 + 1))]) E dX7_init_236 rfl (by rfl) (by decide) rfl ?_
              refine v_goto (tgt := 204) E dX7_init_239 (by decide) ?_
              replace h := Option.some.inj h
              subst h
              exact hx
            refine v_if_eq (tgt := 236) E dX7_init_220 (by decide) (fun c63 => ?_) (fun c63 => ?_)
            · rw [if_pos c63] at h
              exact hK59 s54.2 h
            · rw [if_neg c63] at h
              refine v_aload_n E dX7_init_223 rfl ?_
              replace h := bnd_e h
              obtain ⟨v60, ev60, h⟩ := h
              refine g7_60 E ev60 dX7_init_224 ?_
              refine v_iload_n E dX7_init_227 rfl ?_
              refine v_dup2 E dX7_init_228 rfl rfl ?_
              replace h := bnd_e h
              obtain ⟨v61, ev61, h⟩ := h
              refine v_iaload E ev61 dX7_init_229 ?_
              refine v_iconst (v := 1) E dX7_init_230 (by decide) ?_
              refine v_iload E dX7_init_231 rfl ?_
              refine v_ishl E dX7_init_233 ?_
              refine v_ior E dX7_init_234 ?_
              replace h := bnd_e h
              obtain ⟨A62, eA62, h⟩ := h
              refine v_iastore E eA62 dX7_init_235 ?_
              exact hK59 A62 h
        · refine v_iinc (v := (s50.1 + 1)) (lv' := [some (vR (some o1)), none, none, some (vI (s50.1 + 1)), none]) E dX7_init_242 rfl (by rfl) (by decide) rfl ?_
          refine v_goto (tgt := 193) E dX7_init_245 (by decide) ?_
          replace h := Option.some.inj h
          subst h
          exact hx
    · replace h := Option.some.inj h
      subst h
      refine v_widen (k' := 5) (n' := 50) (Nat.le_of_ble_eq_true rfl) (Nat.le_of_ble_eq_true rfl) ?_
      exact v_vret E dX7_init_248
noncomputable def fX10_init (A0 : AH) (o0 : Option Nat) (a1 : Option Nat) (a2 : Int32) : Option (AH) :=
  (rcv A0 11 o0).bind fun o0 =>
  (pR A0 11 322 ((some o0)) none).bind fun A1 =>
  (pR A1 11 320 ((some o0)) a1).bind fun A2 =>
  (pI A2 11 321 ((some o0)) a2).bind fun A3 =>
  some A3
set_option maxRecDepth 100000 in
set_option maxHeartbeats 4000000 in
theorem kX10_init (l : Launch) {A0 : AH} {o0 : Option Nat} {a1 : Option Nat} {a2 : Int32} {r : AH} (h : fX10_init A0 o0 a1 a2 = some r) : (∃ a, o0 = some a ∧ Hk A0 a = 11) ∧ Cn l yX10_init cX10_init 3 none 1 20 0 0 [vR o0, vR a1, vI a2] A0 none r := by
  unfold fX10_init at h
  replace h := bnd_e h
  obtain ⟨o1, e1, h⟩ := h
  obtain ⟨rfl, hk0⟩ := rcv_e e1
  refine ⟨⟨o1, rfl, hk0⟩, ?_⟩
  refine Cn.of (pad := 0) (lv0 := [some (vR (some o1)), some (vR a1), some (vI a2)]) (by decide +kernel) (Nat.le_of_ble_eq_true rfl) rfl ?_
  intro p e s m below meth c base D cy E
  generalize (List.map toV [vR (some o1), vR a1, vI a2]).toArray = ar at E ⊢
  have E : EN p s m ar meth c D cy RX10 cX10_init 3 none "<init>" := E
  refine v_aload_n E dX10_init_0 rfl ?_
  refine v_objInit E q397 q107 q108 ⟨_, rfl⟩ dX10_init_1 (Nat.le_of_ble_eq_true rfl) (Nat.le_of_ble_eq_true rfl) ?_
  refine v_aload_n E dX10_init_4 rfl ?_
  refine v_aconst_null E dX10_init_5 ?_
  replace h := bnd_e h
  obtain ⟨A1, eA1, h⟩ := h
  refine p10_7 E eA1 dX10_init_6 ?_
  refine v_aload_n E dX10_init_9 rfl ?_
  refine v_aload_n E dX10_init_10 rfl ?_
  replace h := bnd_e h
  obtain ⟨A2, eA2, h⟩ := h
  refine p10_13 E eA2 dX10_init_11 ?_
  refine v_aload_n E dX10_init_14 rfl ?_
  refine v_iload_n E dX10_init_15 rfl ?_
  replace h := bnd_e h
  obtain ⟨A3, eA3, h⟩ := h
  refine p10_17 E eA3 dX10_init_16 ?_
  replace h := Option.some.inj h
  subst h
  refine v_widen (k' := 0) (n' := 0) (Nat.le_of_ble_eq_true rfl) (Nat.le_of_ble_eq_true rfl) ?_
  exact v_vret E dX10_init_19
noncomputable def fX8_add (A0 : AH) (o0 : Option Nat) (a1 : Option Nat) : Option (AH) :=
  (rcv A0 9 o0).bind fun o0 =>
  (fX8_isFull A0 ((some o0))).bind fun r1 =>
  if r1 = 0 then
    (gR A0 9 256 ((some o0))).bind fun v2 =>
    (gI A0 9 257 ((some o0))).bind fun v3 =>
    (sR A0 18 11 v2 v3 a1).bind fun A4 =>
    (gI A4 9 257 ((some o0))).bind fun v5 =>
    (pI A4 9 257 ((some o0)) ((v5 + 1))).bind fun A6 =>
    some A6
  else
    some A0
set_option maxRecDepth 100000 in
set_option maxHeartbeats 4000000 in
theorem kX8_add (l : Launch) {A0 : AH} {o0 : Option Nat} {a1 : Option Nat} {r : AH} (h : fX8_add A0 o0 a1 = some r) : (∃ a, o0 = some a ∧ Hk A0 a = 9) ∧ Cn l yX8_add cX8_add 2 none 1 20 0 0 [vR o0, vR a1] A0 none r := by
  unfold fX8_add at h
  replace h := bnd_e h
  obtain ⟨o1, e1, h⟩ := h
  obtain ⟨rfl, hk0⟩ := rcv_e e1
  refine ⟨⟨o1, rfl, hk0⟩, ?_⟩
  refine Cn.of (pad := 0) (lv0 := [some (vR (some o1)), some (vR a1)]) (by decide +kernel) (Nat.le_of_ble_eq_true rfl) rfl ?_
  intro p e s m below meth c base D cy E
  generalize (List.map toV [vR (some o1), vR a1]).toArray = ar at E ⊢
  have E : EN p s m ar meth c D cy RX8 cX8_add 2 none "add" := E
  refine v_aload_n E dX8_add_0 rfl ?_
  replace h := bnd_e h
  obtain ⟨r1, er1, h⟩ := h
  refine v_callV (na := 0) (As := []) (rest := []) (ci := 8) (q := (RX8, TX8, 2)) E gw8_21 (by decide +kernel) rfl rfl (by decide) (kX8_isFull l er1).2 (kX8_isFull l er1).1 rfl rfl dX8_add_1 ⟨Nat.le_of_ble_eq_true rfl, Nat.le_of_ble_eq_true rfl⟩ ⟨(Nat.le_of_ble_eq_true rfl), (Nat.le_of_ble_eq_true rfl)⟩ (Nat.le_of_ble_eq_true rfl) ?_
  refine v_if_ne (tgt := 27) E dX8_add_4 (by decide) (fun c7 => ?_) (fun c7 => ?_)
  · rw [if_neg c7] at h
    replace h := Option.some.inj h
    subst h
    refine v_widen (k' := 0) (n' := 0) (Nat.le_of_ble_eq_true rfl) (Nat.le_of_ble_eq_true rfl) ?_
    exact v_vret E dX8_add_27
  · rw [if_pos c7] at h
    refine v_aload_n E dX8_add_7 rfl ?_
    replace h := bnd_e h
    obtain ⟨v2, ev2, h⟩ := h
    refine g8_11 E ev2 dX8_add_8 ?_
    refine v_aload_n E dX8_add_11 rfl ?_
    replace h := bnd_e h
    obtain ⟨v3, ev3, h⟩ := h
    refine g8_17 E ev3 dX8_add_12 ?_
    refine v_aload_n E dX8_add_15 rfl ?_
    replace h := bnd_e h
    obtain ⟨A4, eA4, h⟩ := h
    refine v_aastore (kd := 18) (ci := 10) (t0 := 4) E (by decide) (by decide) rfl rfl eA4 dX8_add_16 ?_
    refine v_aload_n E dX8_add_17 rfl ?_
    refine v_dup E dX8_add_18 rfl ?_
    replace h := bnd_e h
    obtain ⟨v5, ev5, h⟩ := h
    refine g8_17 E ev5 dX8_add_19 ?_
    refine v_iconst (v := 1) E dX8_add_22 (by decide) ?_
    refine v_iadd E dX8_add_23 ?_
    replace h := bnd_e h
    obtain ⟨A6, eA6, h⟩ := h
    refine p8_17 E eA6 dX8_add_24 ?_
    replace h := Option.some.inj h
    subst h
    refine v_widen (k' := 0) (n' := 0) (Nat.le_of_ble_eq_true rfl) (Nat.le_of_ble_eq_true rfl) ?_
    exact v_vret E dX8_add_27
noncomputable def fX11_comesAsWord (A0 : AH) (o0 : Option Nat) : Option (Int32 × AH) :=
  (rcv A0 12 o0).bind fun o0 =>
  (gR A0 12 355 ((some o0))).bind fun v1 =>
  (gR A0 12 352 ((some o0))).bind fun v2 =>
  (fX5_remember A0 v1 v2).bind fun r3 =>
  (gR r3 12 352 ((some o0))).bind fun v4 =>
  (gR ((nw ((nw r3 11 0)) 8 0)) 12 358 ((some o0))).bind fun v5 =>
  (fX7_init ((nw ((nw r3 11 0)) 8 0)) ((some (Hs ((nw r3 11 0))))) v5).bind fun r6 =>
  (fX10_init r6 ((some (Hs r3))) ((some (Hs ((nw r3 11 0))))) 0).bind fun r7 =>
  (fX8_add r7 v4 ((some (Hs r3)))).bind fun r8 =>
  (gR r8 12 352 ((some o0))).bind fun v9 =>
  (fX8_count r8 v9).bind fun r10 =>
  some (((r10 - 1), r8))
set_option maxRecDepth 100000 in
set_option maxHeartbeats 4000000 in
theorem kX11_comesAsWord (l : Launch) {A0 : AH} {o0 : Option Nat} {r : Int32 × AH} (h : fX11_comesAsWord A0 o0 = some r) : (∃ a, o0 = some a ∧ Hk A0 a = 12) ∧ Cn l yX11_comesAsWord cX11_comesAsWord 1 (some .int) 3 64 9 75 [vR o0] A0 (some (vI r.1)) r.2 := by
  unfold fX11_comesAsWord at h
  replace h := bnd_e h
  obtain ⟨o1, e1, h⟩ := h
  obtain ⟨rfl, hk0⟩ := rcv_e e1
  refine ⟨⟨o1, rfl, hk0⟩, ?_⟩
  refine Cn.of (pad := 0) (lv0 := [some (vR (some o1))]) (by decide +kernel) (Nat.le_of_ble_eq_true rfl) rfl ?_
  intro p e s m below meth c base D cy E
  generalize (List.map toV [vR (some o1)]).toArray = ar at E ⊢
  have E : EN p s m ar meth c D cy RX11 cX11_comesAsWord 1 (some .int) "comesAsWord" := E
  refine v_aload_n E dX11_comesAsWord_0 rfl ?_
  replace h := bnd_e h
  obtain ⟨v1, ev1, h⟩ := h
  refine g11_33 E ev1 dX11_comesAsWord_1 ?_
  refine v_aload_n E dX11_comesAsWord_4 rfl ?_
  replace h := bnd_e h
  obtain ⟨v2, ev2, h⟩ := h
  refine g11_10 E ev2 dX11_comesAsWord_5 ?_
  replace h := bnd_e h
  obtain ⟨r3, er3, h⟩ := h
  refine v_callV (na := 1) (As := [vR v2]) (rest := []) (ci := 5) (q := (RX5, TX5, 3)) E gw11_281 (by decide +kernel) rfl rfl (by decide) (kX5_remember l er3).2 (kX5_remember l er3).1 rfl rfl dX11_comesAsWord_8 ⟨Nat.le_of_ble_eq_true rfl, Nat.le_of_ble_eq_true rfl⟩ ⟨(Nat.le_of_ble_eq_true rfl), (Nat.le_of_ble_eq_true rfl)⟩ (Nat.le_of_ble_eq_true rfl) ?_
  refine v_widen (k' := 2) (n' := 8) (Nat.le_of_ble_eq_true rfl) (Nat.le_of_ble_eq_true rfl) ?_
  refine v_aload_n E dX11_comesAsWord_11 rfl ?_
  replace h := bnd_e h
  obtain ⟨v4, ev4, h⟩ := h
  refine g11_10 E ev4 dX11_comesAsWord_12 ?_
  refine n11_116 E (Nat.le_of_ble_eq_true rfl) (Nat.le_of_ble_eq_true rfl) dX11_comesAsWord_15 ?_
  refine v_dup E dX11_comesAsWord_18 rfl ?_
  refine n11_122 E (Nat.le_of_ble_eq_true rfl) (Nat.le_of_ble_eq_true rfl) dX11_comesAsWord_19 ?_
  refine v_dup E dX11_comesAsWord_22 rfl ?_
  refine v_aload_n E dX11_comesAsWord_23 rfl ?_
  replace h := bnd_e h
  obtain ⟨v5, ev5, h⟩ := h
  refine g11_54 E ev5 dX11_comesAsWord_24 ?_
  replace h := bnd_e h
  obtain ⟨r6, er6, h⟩ := h
  refine v_callI (na := 1) (As := [vR v5]) (rest := [vR (some (Hs ((nw r3 11 0)))), vR (some (Hs r3)), vR (some (Hs r3)), vR v4]) E gw11_320 q335 q336 q98 rfl (by decide +kernel) (kX7_init l er6).2 (Exists.elim (kX7_init l er6).1 (fun a q => ⟨a, q.1⟩)) rfl rfl dX11_comesAsWord_27 ⟨Nat.le_of_ble_eq_true rfl, Nat.le_of_ble_eq_true rfl⟩ ⟨(Nat.le_of_ble_eq_true rfl), (Nat.le_of_ble_eq_true rfl)⟩ (Nat.le_of_ble_eq_true rfl) ?_
  refine v_widen (k' := 9) (n' := 75) (Nat.le_of_ble_eq_true rfl) (Nat.le_of_ble_eq_true rfl) ?_
  refine v_iconst (v := 0) E dX11_comesAsWord_30 (by decide) ?_
  replace h := bnd_e h
  obtain ⟨r7, er7, h⟩ := h
  refine v_callI (na := 2) (As := [vR (some (Hs ((nw r3 11 0)))), vI 0]) (rest := [vR (some (Hs r3)), vR v4]) E gw11_223 q394 q395 q97 rfl (by decide +kernel) (kX10_init l er7).2 (Exists.elim (kX10_init l er7).1 (fun a q => ⟨a, q.1⟩)) rfl rfl dX11_comesAsWord_31 ⟨Nat.le_of_ble_eq_true rfl, Nat.le_of_ble_eq_true rfl⟩ ⟨(Nat.le_of_ble_eq_true rfl), (Nat.le_of_ble_eq_true rfl)⟩ (Nat.le_of_ble_eq_true rfl) ?_
  replace h := bnd_e h
  obtain ⟨r8, er8, h⟩ := h
  refine v_callV (na := 1) (As := [vR (some (Hs r3))]) (rest := []) (ci := 8) (q := (RX8, TX8, 2)) E gw11_322 (by decide +kernel) rfl rfl (by decide) (kX8_add l er8).2 (kX8_add l er8).1 rfl rfl dX11_comesAsWord_34 ⟨Nat.le_of_ble_eq_true rfl, Nat.le_of_ble_eq_true rfl⟩ ⟨(Nat.le_of_ble_eq_true rfl), (Nat.le_of_ble_eq_true rfl)⟩ (Nat.le_of_ble_eq_true rfl) ?_
  refine v_aload_n E dX11_comesAsWord_37 rfl ?_
  replace h := bnd_e h
  obtain ⟨v9, ev9, h⟩ := h
  refine g11_10 E ev9 dX11_comesAsWord_38 ?_
  replace h := bnd_e h
  obtain ⟨r10, er10, h⟩ := h
  refine v_callV (na := 0) (As := []) (rest := []) (ci := 8) (q := (RX8, TX8, 2)) E gw11_95 (by decide +kernel) rfl rfl (by decide) (kX8_count l er10).2 (kX8_count l er10).1 rfl rfl dX11_comesAsWord_41 ⟨Nat.le_of_ble_eq_true rfl, Nat.le_of_ble_eq_true rfl⟩ ⟨(Nat.le_of_ble_eq_true rfl), (Nat.le_of_ble_eq_true rfl)⟩ (Nat.le_of_ble_eq_true rfl) ?_
  refine v_iconst (v := 1) E dX11_comesAsWord_44 (by decide) ?_
  refine v_isub E dX11_comesAsWord_45 ?_
  replace h := Option.some.inj h
  subst h
  refine v_widen (k' := 9) (n' := 75) (Nat.le_of_ble_eq_true rfl) (Nat.le_of_ble_eq_true rfl) ?_
  exact v_iret E dX11_comesAsWord_46
noncomputable def fX11_tell (A0 : AH) (o0 : Option Nat) : Option (Int32 × AH) :=
  (rcv A0 12 o0).bind fun o0 =>
  (gR A0 12 352 ((some o0))).bind fun v1 =>
  (fX8_isFull A0 v1).bind fun r2 =>
  if r2 = 0 then
    (gR A0 12 353 ((some o0))).bind fun v3 =>
    (fX9_judge A0 v3).bind fun r4 =>
    jp (fun (x10 : AH) =>
      (gR x10 12 353 ((some o0))).bind fun v11 =>
      (fX9_clear x10 v11).bind fun r12 =>
      if r4.1 = 0 then
        (fX11_comesAsWord r12 ((some o0))).bind fun r13 =>
        some ((r13.1, r13.2))
      else
        some ((((-10) - r4.1), r12))) fun K5 =>
      if r4.1 = 0 then
        (gR r4.2 12 353 ((some o0))).bind fun v6 =>
        (gR r4.2 12 358 ((some o0))).bind fun v7 =>
        (fX9_copyTo r4.2 v6 v7).bind fun r8 =>
        K5 r8
      else
        K5 r4.2
  else
    some (((-1000000004), A0))
set_option maxRecDepth 100000 in
set_option maxHeartbeats 4000000 in
theorem kX11_tell (l : Launch) {A0 : AH} {o0 : Option Nat} {r : Int32 × AH} (h : fX11_tell A0 o0 = some r) : (∃ a, o0 = some a ∧ Hk A0 a = 12) ∧ Cn l yX11_tell cX11_tell 2 (some .int) 4 84 9 75 [vR o0] A0 (some (vI r.1)) r.2 := by
  unfold fX11_tell at h
  replace h := bnd_e h
  obtain ⟨o1, e1, h⟩ := h
  obtain ⟨rfl, hk0⟩ := rcv_e e1
  refine ⟨⟨o1, rfl, hk0⟩, ?_⟩
  refine Cn.of (pad := 1) (lv0 := [some (vR (some o1)), none]) (by decide +kernel) (Nat.le_of_ble_eq_true rfl) rfl ?_
  intro p e s m below meth c base D cy E
  generalize (List.map toV [vR (some o1)]).toArray = ar at E ⊢
  have E : EN p s m ar meth c D cy RX11 cX11_tell 2 (some .int) "tell" := E
  refine v_aload_n E dX11_tell_0 rfl ?_
  replace h := bnd_e h
  obtain ⟨v1, ev1, h⟩ := h
  refine g11_10 E ev1 dX11_tell_1 ?_
  replace h := bnd_e h
  obtain ⟨r2, er2, h⟩ := h
  refine v_callV (na := 0) (As := []) (rest := []) (ci := 8) (q := (RX8, TX8, 2)) E gw11_75 (by decide +kernel) rfl rfl (by decide) (kX8_isFull l er2).2 (kX8_isFull l er2).1 rfl rfl dX11_tell_4 ⟨Nat.le_of_ble_eq_true rfl, Nat.le_of_ble_eq_true rfl⟩ ⟨(Nat.le_of_ble_eq_true rfl), (Nat.le_of_ble_eq_true rfl)⟩ (Nat.le_of_ble_eq_true rfl) ?_
  refine v_if_eq (tgt := 13) E dX11_tell_7 (by decide) (fun c15 => ?_) (fun c15 => ?_)
  · rw [if_pos c15] at h
    refine v_aload_n E dX11_tell_13 rfl ?_
    replace h := bnd_e h
    obtain ⟨v3, ev3, h⟩ := h
    refine g11_19 E ev3 dX11_tell_14 ?_
    replace h := bnd_e h
    obtain ⟨r4, er4, h⟩ := h
    refine v_callV (na := 0) (As := []) (rest := []) (ci := 9) (q := (RX9, TX9, 3)) E gw11_79 (by decide +kernel) rfl rfl (by decide) (kX9_judge l er4).2 (kX9_judge l er4).1 rfl rfl dX11_tell_17 ⟨Nat.le_of_ble_eq_true rfl, Nat.le_of_ble_eq_true rfl⟩ ⟨(Nat.le_of_ble_eq_true rfl), (Nat.le_of_ble_eq_true rfl)⟩ (Nat.le_of_ble_eq_true rfl) ?_
    refine v_istore_n (lv' := [some (vR (some o1)), some (vI r4.1)]) E dX11_tell_20 (by decide) rfl ?_
    refine v_iload_n E dX11_tell_21 rfl ?_
    refine jp_use h (fun K5 eK5 h => ?_)
    have hK5 : ∀ x10 : AH, K5 x10 = some r → V p l e { frames := 4, cells := 9, slots := 75, locals := 84 } s m ar below meth c (MQ below (Qd base D cy (some (vI r.1)) r.2) ar s 9 75 (fun q => base ≤ q)) base D cy 2 36 [some (vR (some o1)), some (vI r4.1)] [] x10 0 0 := by
      intro x10 h
      rw [eK5] at h
      try dsimp only at h
      refine v_aload_n E dX11_tell_36 rfl ?_
      replace h := bnd_e h
      obtain ⟨v11, ev11, h⟩ := h
      refine g11_19 E ev11 dX11_tell_37 ?_
      replace h := bnd_e h
      obtain ⟨r12, er12, h⟩ := h
      refine v_callV (na := 0) (As := []) (rest := []) (ci := 9) (q := (RX9, TX9, 3)) E gw11_86 (by decide +kernel) rfl rfl (by decide) (kX9_clear l er12).2 (kX9_clear l er12).1 rfl rfl dX11_tell_40 ⟨Nat.le_of_ble_eq_true rfl, Nat.le_of_ble_eq_true rfl⟩ ⟨(Nat.le_of_ble_eq_true rfl), (Nat.le_of_ble_eq_true rfl)⟩ (Nat.le_of_ble_eq_true rfl) ?_
      refine v_iload_n E dX11_tell_43 rfl ?_
      refine v_if_ne (tgt := 54) E dX11_tell_44 (by decide) (fun c14 => ?_) (fun c14 => ?_)
      · rw [if_neg c14] at h
        refine v_bipush (v := (-10)) E dX11_tell_54 (by decide) ?_
        refine v_iload_n E dX11_tell_56 rfl ?_
        refine v_isub E dX11_tell_57 ?_
        replace h := Option.some.inj h
        subst h
        refine v_widen (k' := 9) (n' := 75) (Nat.le_of_ble_eq_true rfl) (Nat.le_of_ble_eq_true rfl) ?_
        exact v_iret E dX11_tell_58
      · rw [if_pos c14] at h
        refine v_aload_n E dX11_tell_47 rfl ?_
        replace h := bnd_e h
        obtain ⟨r13, er13, h⟩ := h
        refine v_callV (na := 0) (As := []) (rest := []) (ci := 11) (q := (RX11, TX11, 8)) E gw11_89 (by decide +kernel) rfl rfl (by decide) (kX11_comesAsWord l er13).2 (kX11_comesAsWord l er13).1 rfl rfl dX11_tell_48 ⟨Nat.le_of_ble_eq_true rfl, Nat.le_of_ble_eq_true rfl⟩ ⟨(Nat.le_of_ble_eq_true rfl), (Nat.le_of_ble_eq_true rfl)⟩ (Nat.le_of_ble_eq_true rfl) ?_
        refine v_widen (k' := 9) (n' := 75) (Nat.le_of_ble_eq_true rfl) (Nat.le_of_ble_eq_true rfl) ?_
        refine v_goto (tgt := 58) E dX11_tell_51 (by decide) ?_
        replace h := Option.some.inj h
        subst h
        refine v_widen (k' := 9) (n' := 75) (Nat.le_of_ble_eq_true rfl) (Nat.le_of_ble_eq_true rfl) ?_
        exact v_iret E dX11_tell_58
    refine v_if_ne (tgt := 36) E dX11_tell_22 (by decide) (fun c9 => ?_) (fun c9 => ?_)
    · rw [if_neg c9] at h
      exact hK5 r4.2 h
    · rw [if_pos c9] at h
      refine v_aload_n E dX11_tell_25 rfl ?_
      replace h := bnd_e h
      obtain ⟨v6, ev6, h⟩ := h
      refine g11_19 E ev6 dX11_tell_26 ?_
      refine v_aload_n E dX11_tell_29 rfl ?_
      replace h := bnd_e h
      obtain ⟨v7, ev7, h⟩ := h
      refine g11_54 E ev7 dX11_tell_30 ?_
      replace h := bnd_e h
      obtain ⟨r8, er8, h⟩ := h
      refine v_callV (na := 1) (As := [vR v7]) (rest := []) (ci := 9) (q := (RX9, TX9, 3)) E gw11_82 (by decide +kernel) rfl rfl (by decide) (kX9_copyTo l er8).2 (kX9_copyTo l er8).1 rfl rfl dX11_tell_33 ⟨Nat.le_of_ble_eq_true rfl, Nat.le_of_ble_eq_true rfl⟩ ⟨(Nat.le_of_ble_eq_true rfl), (Nat.le_of_ble_eq_true rfl)⟩ (Nat.le_of_ble_eq_true rfl) ?_
      exact hK5 r8 h
  · rw [if_neg c15] at h
    refine v_ldc (v := (-1000000004)) E dX11_tell_10 q271 ?_
    replace h := Option.some.inj h
    subst h
    refine v_widen (k' := 9) (n' := 75) (Nat.le_of_ble_eq_true rfl) (Nat.le_of_ble_eq_true rfl) ?_
    exact v_iret E dX11_tell_12
noncomputable def fX9_faultPlace (A0 : AH) (o0 : Option Nat) : Option (Int32) :=
  (rcv A0 10 o0).bind fun o0 =>
  (gI A0 10 290 ((some o0))).bind fun v1 =>
  some v1
set_option maxRecDepth 100000 in
set_option maxHeartbeats 4000000 in
theorem kX9_faultPlace (l : Launch) {A0 : AH} {o0 : Option Nat} {r : Int32} (h : fX9_faultPlace A0 o0 = some r) : (∃ a, o0 = some a ∧ Hk A0 a = 10) ∧ Cn l yX9_faultPlace cX9_faultPlace 1 (some .int) 0 0 0 0 [vR o0] A0 (some (vI r)) A0 := by
  unfold fX9_faultPlace at h
  replace h := bnd_e h
  obtain ⟨o1, e1, h⟩ := h
  obtain ⟨rfl, hk0⟩ := rcv_e e1
  refine ⟨⟨o1, rfl, hk0⟩, ?_⟩
  refine Cn.of (pad := 0) (lv0 := [some (vR (some o1))]) (by decide +kernel) (Nat.le_of_ble_eq_true rfl) rfl ?_
  intro p e s m below meth c base D cy E
  generalize (List.map toV [vR (some o1)]).toArray = ar at E ⊢
  have E : EN p s m ar meth c D cy RX9 cX9_faultPlace 1 (some .int) "faultPlace" := E
  refine v_aload_n E dX9_faultPlace_0 rfl ?_
  replace h := bnd_e h
  obtain ⟨v1, ev1, h⟩ := h
  refine g9_19 E ev1 dX9_faultPlace_1 ?_
  replace h := Option.some.inj h
  subst h
  refine v_widen (k' := 0) (n' := 0) (Nat.le_of_ble_eq_true rfl) (Nat.le_of_ble_eq_true rfl) ?_
  exact v_iret E dX9_faultPlace_4
noncomputable def fX11_fault (A0 : AH) (o0 : Option Nat) : Option (Int32) :=
  (rcv A0 12 o0).bind fun o0 =>
  (gR A0 12 353 ((some o0))).bind fun v1 =>
  (fX9_faultPlace A0 v1).bind fun r2 =>
  some r2
set_option maxRecDepth 100000 in
set_option maxHeartbeats 4000000 in
theorem kX11_fault (l : Launch) {A0 : AH} {o0 : Option Nat} {r : Int32} (h : fX11_fault A0 o0 = some r) : (∃ a, o0 = some a ∧ Hk A0 a = 12) ∧ Cn l yX11_fault cX11_fault 1 (some .int) 1 20 0 0 [vR o0] A0 (some (vI r)) A0 := by
  unfold fX11_fault at h
  replace h := bnd_e h
  obtain ⟨o1, e1, h⟩ := h
  obtain ⟨rfl, hk0⟩ := rcv_e e1
  refine ⟨⟨o1, rfl, hk0⟩, ?_⟩
  refine Cn.of (pad := 0) (lv0 := [some (vR (some o1))]) (by decide +kernel) (Nat.le_of_ble_eq_true rfl) rfl ?_
  intro p e s m below meth c base D cy E
  generalize (List.map toV [vR (some o1)]).toArray = ar at E ⊢
  have E : EN p s m ar meth c D cy RX11 cX11_fault 1 (some .int) "fault" := E
  refine v_aload_n E dX11_fault_0 rfl ?_
  replace h := bnd_e h
  obtain ⟨v1, ev1, h⟩ := h
  refine g11_19 E ev1 dX11_fault_1 ?_
  replace h := bnd_e h
  obtain ⟨r2, er2, h⟩ := h
  refine v_callV (na := 0) (As := []) (rest := []) (ci := 9) (q := (RX9, TX9, 3)) E gw11_92 (by decide +kernel) rfl rfl (by decide) (kX9_faultPlace l er2).2 (kX9_faultPlace l er2).1 rfl rfl dX11_fault_4 ⟨Nat.le_of_ble_eq_true rfl, Nat.le_of_ble_eq_true rfl⟩ ⟨(Nat.le_of_ble_eq_true rfl), (Nat.le_of_ble_eq_true rfl)⟩ (Nat.le_of_ble_eq_true rfl) ?_
  replace h := Option.some.inj h
  subst h
  refine v_widen (k' := 0) (n' := 0) (Nat.le_of_ble_eq_true rfl) (Nat.le_of_ble_eq_true rfl) ?_
  exact v_iret E dX11_fault_7
noncomputable def fX10_row (A0 : AH) (o0 : Option Nat) : Option (Option Nat) :=
  (rcv A0 11 o0).bind fun o0 =>
  (gR A0 11 320 ((some o0))).bind fun v1 =>
  some v1
set_option maxRecDepth 100000 in
set_option maxHeartbeats 4000000 in
theorem kX10_row (l : Launch) {A0 : AH} {o0 : Option Nat} {r : Option Nat} (h : fX10_row A0 o0 = some r) : (∃ a, o0 = some a ∧ Hk A0 a = 11) ∧ Cn l yX10_row cX10_row 1 (some (.object "OneStrokes$Row")) 0 0 0 0 [vR o0] A0 (some (vR r)) A0 := by
  unfold fX10_row at h
  replace h := bnd_e h
  obtain ⟨o1, e1, h⟩ := h
  obtain ⟨rfl, hk0⟩ := rcv_e e1
  refine ⟨⟨o1, rfl, hk0⟩, ?_⟩
  refine Cn.of (pad := 0) (lv0 := [some (vR (some o1))]) (by decide +kernel) (Nat.le_of_ble_eq_true rfl) rfl ?_
  intro p e s m below meth c base D cy E
  generalize (List.map toV [vR (some o1)]).toArray = ar at E ⊢
  have E : EN p s m ar meth c D cy RX10 cX10_row 1 (some (.object "OneStrokes$Row")) "row" := E
  refine v_aload_n E dX10_row_0 rfl ?_
  replace h := bnd_e h
  obtain ⟨v1, ev1, h⟩ := h
  refine g10_13 E ev1 dX10_row_1 ?_
  replace h := Option.some.inj h
  subst h
  refine v_widen (k' := 0) (n' := 0) (Nat.le_of_ble_eq_true rfl) (Nat.le_of_ble_eq_true rfl) ?_
  exact v_aret E dX10_row_4
noncomputable def fX7_placeAhead (A0 : AH) (o0 : Option Nat) (a1 : Int32) : Option (Int32) :=
  (rcv A0 8 o0).bind fun o0 =>
  if a1 ≤ 0 then
    (gI A0 8 225 ((some o0))).bind fun v1 =>
    some ((v1 - 1))
  else
    some ((a1 - 1))
set_option maxRecDepth 100000 in
set_option maxHeartbeats 4000000 in
theorem kX7_placeAhead (l : Launch) {A0 : AH} {o0 : Option Nat} {a1 : Int32} {r : Int32} (h : fX7_placeAhead A0 o0 a1 = some r) : (∃ a, o0 = some a ∧ Hk A0 a = 8) ∧ Cn l yX7_placeAhead cX7_placeAhead 2 (some .int) 0 0 0 0 [vR o0, vI a1] A0 (some (vI r)) A0 := by
  unfold fX7_placeAhead at h
  replace h := bnd_e h
  obtain ⟨o1, e1, h⟩ := h
  obtain ⟨rfl, hk0⟩ := rcv_e e1
  refine ⟨⟨o1, rfl, hk0⟩, ?_⟩
  refine Cn.of (pad := 0) (lv0 := [some (vR (some o1)), some (vI a1)]) (by decide +kernel) (Nat.le_of_ble_eq_true rfl) rfl ?_
  intro p e s m below meth c base D cy E
  generalize (List.map toV [vR (some o1), vI a1]).toArray = ar at E ⊢
  have E : EN p s m ar meth c D cy RX7 cX7_placeAhead 2 (some .int) "placeAhead" := E
  refine v_iload_n E dX7_placeAhead_0 rfl ?_
  refine v_if_le (tgt := 10) E dX7_placeAhead_1 (by decide) (fun c2 => ?_) (fun c2 => ?_)
  · rw [if_pos c2] at h
    refine v_aload_n E dX7_placeAhead_10 rfl ?_
    replace h := bnd_e h
    obtain ⟨v1, ev1, h⟩ := h
    refine g7_48 E ev1 dX7_placeAhead_11 ?_
    refine v_iconst (v := 1) E dX7_placeAhead_14 (by decide) ?_
    refine v_isub E dX7_placeAhead_15 ?_
    replace h := Option.some.inj h
    subst h
    refine v_widen (k' := 0) (n' := 0) (Nat.le_of_ble_eq_true rfl) (Nat.le_of_ble_eq_true rfl) ?_
    exact v_iret E dX7_placeAhead_16
  · rw [if_neg c2] at h
    refine v_iload_n E dX7_placeAhead_4 rfl ?_
    refine v_iconst (v := 1) E dX7_placeAhead_5 (by decide) ?_
    refine v_isub E dX7_placeAhead_6 ?_
    refine v_goto (tgt := 16) E dX7_placeAhead_7 (by decide) ?_
    replace h := Option.some.inj h
    subst h
    refine v_widen (k' := 0) (n' := 0) (Nat.le_of_ble_eq_true rfl) (Nat.le_of_ble_eq_true rfl) ?_
    exact v_iret E dX7_placeAhead_16
noncomputable def fX7_placeBehind (A0 : AH) (o0 : Option Nat) (a1 : Int32) : Option (Int32) :=
  (rcv A0 8 o0).bind fun o0 =>
  (gI A0 8 225 ((some o0))).bind fun v1 =>
  if v1 ≤ (a1 + 1) then
    some 0
  else
    some ((a1 + 1))
set_option maxRecDepth 100000 in
set_option maxHeartbeats 4000000 in
theorem kX7_placeBehind (l : Launch) {A0 : AH} {o0 : Option Nat} {a1 : Int32} {r : Int32} (h : fX7_placeBehind A0 o0 a1 = some r) : (∃ a, o0 = some a ∧ Hk A0 a = 8) ∧ Cn l yX7_placeBehind cX7_placeBehind 2 (some .int) 0 0 0 0 [vR o0, vI a1] A0 (some (vI r)) A0 := by
  unfold fX7_placeBehind at h
  replace h := bnd_e h
  obtain ⟨o1, e1, h⟩ := h
  obtain ⟨rfl, hk0⟩ := rcv_e e1
  refine ⟨⟨o1, rfl, hk0⟩, ?_⟩
  refine Cn.of (pad := 0) (lv0 := [some (vR (some o1)), some (vI a1)]) (by decide +kernel) (Nat.le_of_ble_eq_true rfl) rfl ?_
  intro p e s m below meth c base D cy E
  generalize (List.map toV [vR (some o1), vI a1]).toArray = ar at E ⊢
  have E : EN p s m ar meth c D cy RX7 cX7_placeBehind 2 (some .int) "placeBehind" := E
  refine v_iload_n E dX7_placeBehind_0 rfl ?_
  refine v_iconst (v := 1) E dX7_placeBehind_1 (by decide) ?_
  refine v_iadd E dX7_placeBehind_2 ?_
  refine v_aload_n E dX7_placeBehind_3 rfl ?_
  replace h := bnd_e h
  obtain ⟨v1, ev1, h⟩ := h
  refine g7_48 E ev1 dX7_placeBehind_4 ?_
  refine v_icmp_ge (tgt := 16) E dX7_placeBehind_7 (by decide) (fun c2 => ?_) (fun c2 => ?_)
  · rw [if_pos c2] at h
    refine v_iconst (v := 0) E dX7_placeBehind_16 (by decide) ?_
    replace h := Option.some.inj h
    subst h
    refine v_widen (k' := 0) (n' := 0) (Nat.le_of_ble_eq_true rfl) (Nat.le_of_ble_eq_true rfl) ?_
    exact v_iret E dX7_placeBehind_17
  · rw [if_neg c2] at h
    refine v_iload_n E dX7_placeBehind_10 rfl ?_
    refine v_iconst (v := 1) E dX7_placeBehind_11 (by decide) ?_
    refine v_iadd E dX7_placeBehind_12 ?_
    refine v_goto (tgt := 17) E dX7_placeBehind_13 (by decide) ?_
    replace h := Option.some.inj h
    subst h
    refine v_widen (k' := 0) (n' := 0) (Nat.le_of_ble_eq_true rfl) (Nat.le_of_ble_eq_true rfl) ?_
    exact v_iret E dX7_placeBehind_17
noncomputable def fX7_codeFrom (A0 : AH) (o0 : Option Nat) (a1 : Int32) (a2 : Int32) (a3 : Option Nat) : Option (Int64 × AH) :=
  (rcv A0 8 o0).bind fun o0 =>
  (iter (S := Int32 × AH) (T := AH) (fun s1 =>
      (gI s1.2 8 224 ((some o0))).bind fun v4 =>
      if v4 ≤ s1.1 then
        some (.inr s1.2)
      else
        (sI s1.2 14 a3 s1.1 ((-1))).bind fun A5 =>
        some (.inl ((s1.1 + 1), A5))) (0, A0)).bind fun t2 =>
  (iter (S := Int32 × Int32 × Int64 × Int32 × AH) (T := Int64 × AH) (fun s7 =>
      (gI s7.2.2.2.2 8 225 ((some o0))).bind fun v10 =>
      if v10 ≤ s7.2.2.2.1 then
        some (.inr (s7.2.2.1, s7.2.2.2.2))
      else
        (gR s7.2.2.2.2 8 226 ((some o0))).bind fun v11 =>
        (aI s7.2.2.2.2 14 v11 s7.2.1).bind fun v12 =>
        (aI s7.2.2.2.2 14 a3 v12).bind fun v13 =>
        jp (fun (x17 : Int32 × AH) =>
          (aI x17.2 14 a3 v12).bind fun v18 =>
          jp (fun (x23 : Int32) =>
            some (.inl (x17.1, x23, ((s7.2.2.1 * 8) + ((v18 : Int32).toInt64)), (s7.2.2.2.1 + 1), x17.2))) fun K19 =>
            if a2 = 0 then
              (fX7_placeBehind x17.2 ((some o0)) s7.2.1).bind fun r20 =>
              K19 r20
            else
              (fX7_placeAhead x17.2 ((some o0)) s7.2.1).bind fun r21 =>
              K19 r21) fun K14 =>
          if v13 = (-1) then
            (sI s7.2.2.2.2 14 a3 v12 s7.1).bind fun A15 =>
            K14 ((s7.1 + 1), A15)
          else
            K14 (s7.1, s7.2.2.2.2)) (0, a1, 0, 0, t2)).bind fun t8 =>
  some ((t8.1, t8.2))
set_option maxRecDepth 100000 in
set_option maxHeartbeats 4000000 in
theorem kX7_codeFrom (l : Launch) {A0 : AH} {o0 : Option Nat} {a1 : Int32} {a2 : Int32} {a3 : Option Nat} {r : Int64 × AH} (h : fX7_codeFrom A0 o0 a1 a2 a3 = some r) : (∃ a, o0 = some a ∧ Hk A0 a = 8) ∧ Cn l yX7_codeFrom cX7_codeFrom 10 (some .long) 1 21 0 0 [vR o0, vI a1, vI a2, vR a3] A0 (some (vJ r.1)) r.2 := by
  unfold fX7_codeFrom at h
  replace h := bnd_e h
  obtain ⟨o1, e1, h⟩ := h
  obtain ⟨rfl, hk0⟩ := rcv_e e1
  refine ⟨⟨o1, rfl, hk0⟩, ?_⟩
  refine Cn.of (pad := 6) (lv0 := [some (vR (some o1)), some (vI a1), some (vI a2), some (vR a3), none, none, none, none, none, none]) (by decide +kernel) (Nat.le_of_ble_eq_true rfl) rfl ?_
  intro p e s m below meth c base D cy E
  generalize (List.map toV [vR (some o1), vI a1, vI a2, vR a3]).toArray = ar at E ⊢
  have E : EN p s m ar meth c D cy RX7 cX7_codeFrom 10 (some .long) "codeFrom" := E
  refine v_iconst (v := 0) E dX7_codeFrom_0 (by decide) ?_
  refine v_istore (lv' := [some (vR (some o1)), some (vI a1), some (vI a2), some (vR a3), some (vI 0), none, none, none, none, none]) E dX7_codeFrom_1 (by decide) rfl ?_
  replace h := bnd_e h
  obtain ⟨t2, et2, h⟩ := h
  refine iter_V (S := Int32 × AH) (T := AH) (Ph := fun s1 => V p l e { frames := 1, cells := 0, slots := 0, locals := 21 } s m ar below meth c (MQ below (Qd base D cy (some (vJ r.1)) r.2) ar s 0 0 (fun q => base ≤ q)) base D cy 10 3 [some (vR (some o1)), some (vI a1), some (vI a2), some (vR a3), some (vI s1.1), none, none, none, none, none] [] s1.2 0 0) (Pt := fun t2 => V p l e { frames := 1, cells := 0, slots := 0, locals := 21 } s m ar below meth c (MQ below (Qd base D cy (some (vJ r.1)) r.2) ar s 0 0 (fun q => base ≤ q)) base D cy 10 23 [some (vR (some o1)), some (vI a1), some (vI a2), some (vR a3), none, none, none, none, none, none] [] t2 0 0) et2 (fun s1 w3 h hx => ?_) ?_
  · try dsimp only at h
    refine v_iload E dX7_codeFrom_3 rfl ?_
    refine v_aload_n E dX7_codeFrom_5 rfl ?_
    replace h := bnd_e h
    obtain ⟨v4, ev4, h⟩ := h
    refine g7_45 E ev4 dX7_codeFrom_6 ?_
    refine v_icmp_ge (tgt := 23) E dX7_codeFrom_9 (by decide) (fun c6 => ?_) (fun c6 => ?_)
    · rw [if_pos c6] at h
      refine v_drop (lv' := [some (vR (some o1)), some (vI a1), some (vI a2), some (vR a3), none, none, none, none, none, none]) [4] rfl ?_
      replace h := Option.some.inj h
      subst h
      exact hx
    · rw [if_neg c6] at h
      refine v_aload_n E dX7_codeFrom_12 rfl ?_
      refine v_iload E dX7_codeFrom_13 rfl ?_
      refine v_iconst (v := (-1)) E dX7_codeFrom_15 (by decide) ?_
      replace h := bnd_e h
      obtain ⟨A5, eA5, h⟩ := h
      refine v_iastore E eA5 dX7_codeFrom_16 ?_
      refine v_iinc (v := (s1.1 + 1)) (lv' := [some (vR (some o1)), some (vI a1), some (vI a2), some (vR a3), some (vI (s1.1 + 1)), none, none, none, none, none]) E dX7_codeFrom_17 rfl (by rfl) (by decide) rfl ?_
      refine v_goto (tgt := 3) E dX7_codeFrom_20 (by decide) ?_
      replace h := Option.some.inj h
      subst h
      exact hx
  · refine v_iconst (v := 0) E dX7_codeFrom_23 (by decide) ?_
    refine v_istore (lv' := [some (vR (some o1)), some (vI a1), some (vI a2), some (vR a3), some (vI 0), none, none, none, none, none]) E dX7_codeFrom_24 (by decide) rfl ?_
    refine v_iload_n E dX7_codeFrom_26 rfl ?_
    refine v_istore (lv' := [some (vR (some o1)), some (vI a1), some (vI a2), some (vR a3), some (vI 0), some (vI a1), none, none, none, none]) E dX7_codeFrom_27 (by decide) rfl ?_
    refine v_lconst (v := 0) E dX7_codeFrom_29 (by decide) ?_
    refine v_lstore (lv' := [some (vR (some o1)), some (vI a1), some (vI a2), some (vR a3), some (vI 0), some (vI a1), some (vJ 0), none, none, none]) E dX7_codeFrom_30 (by decide) rfl ?_
    refine v_iconst (v := 0) E dX7_codeFrom_32 (by decide) ?_
    refine v_istore (lv' := [some (vR (some o1)), some (vI a1), some (vI a2), some (vR a3), some (vI 0), some (vI a1), some (vJ 0), none, some (vI 0), none]) E dX7_codeFrom_33 (by decide) rfl ?_
    refine v_drop (lv' := [some (vR (some o1)), none, some (vI a2), some (vR a3), some (vI 0), some (vI a1), some (vJ 0), none, some (vI 0), none]) [1] rfl ?_
    replace h := bnd_e h
    obtain ⟨t8, et8, h⟩ := h
    refine iter_V (S := Int32 × Int32 × Int64 × Int32 × AH) (T := Int64 × AH) (Ph := fun s7 => V p l e { frames := 1, cells := 0, slots := 0, locals := 21 } s m ar below meth c (MQ below (Qd base D cy (some (vJ r.1)) r.2) ar s 0 0 (fun q => base ≤ q)) base D cy 10 35 [some (vR (some o1)), none, some (vI a2), some (vR a3), some (vI s7.1), some (vI s7.2.1), some (vJ s7.2.2.1), none, some (vI s7.2.2.2.1), none] [] s7.2.2.2.2 0 0) (Pt := fun t8 => V p l e { frames := 1, cells := 0, slots := 0, locals := 21 } s m ar below meth c (MQ below (Qd base D cy (some (vJ r.1)) r.2) ar s 0 0 (fun q => base ≤ q)) base D cy 10 111 [none, none, none, none, none, none, some (vJ t8.1), none, none, none] [] t8.2 0 0) et8 (fun s7 w9 h hx => ?_) ?_
    · try dsimp only at h
      refine v_iload E dX7_codeFrom_35 rfl ?_
      refine v_aload_n E dX7_codeFrom_37 rfl ?_
      replace h := bnd_e h
      obtain ⟨v10, ev10, h⟩ := h
      refine g7_48 E ev10 dX7_codeFrom_38 ?_
      refine v_icmp_ge (tgt := 111) E dX7_codeFrom_41 (by decide) (fun c24 => ?_) (fun c24 => ?_)
      · rw [if_pos c24] at h
        refine v_drop (lv' := [none, none, none, none, none, none, some (vJ s7.2.2.1), none, none, none]) [0, 2, 3, 4, 5, 8] rfl ?_
        replace h := Option.some.inj h
        subst h
        exact hx
      · rw [if_neg c24] at h
        refine v_aload_n E dX7_codeFrom_44 rfl ?_
        replace h := bnd_e h
        obtain ⟨v11, ev11, h⟩ := h
        refine g7_51 E ev11 dX7_codeFrom_45 ?_
        refine v_iload E dX7_codeFrom_48 rfl ?_
        replace h := bnd_e h
        obtain ⟨v12, ev12, h⟩ := h
        refine v_iaload E ev12 dX7_codeFrom_50 ?_
        refine v_istore (lv' := [some (vR (some o1)), none, some (vI a2), some (vR a3), some (vI s7.1), some (vI s7.2.1), some (vJ s7.2.2.1), none, some (vI s7.2.2.2.1), some (vI v12)]) E dX7_codeFrom_51 (by decide) rfl ?_
        refine v_aload_n E dX7_codeFrom_53 rfl ?_
        refine v_iload E dX7_codeFrom_54 rfl ?_
        replace h := bnd_e h
        obtain ⟨v13, ev13, h⟩ := h
        refine v_iaload E ev13 dX7_codeFrom_56 ?_
        refine v_iconst (v := (-1)) E dX7_codeFrom_57 (by decide) ?_
        refine jp_use h (fun K14 eK14 h => ?_)
        have hK14 : ∀ x17 : Int32 × AH, K14 x17 = some w9 → V p l e { frames := 1, cells := 0, slots := 0, locals := 21 } s m ar below meth c (MQ below (Qd base D cy (some (vJ r.1)) r.2) ar s 0 0 (fun q => base ≤ q)) base D cy 10 70 [some (vR (some o1)), none, some (vI a2), some (vR a3), some (vI x17.1), some (vI s7.2.1), some (vJ s7.2.2.1), none, some (vI s7.2.2.2.1), some (vI v12)] [] x17.2 0 0 := by
          intro x17 h
          rw [eK14] at h
          try dsimp only at h
          refine v_lload E dX7_codeFrom_70 rfl ?_
          refine v_ldc2 (v := 8) E dX7_codeFrom_72 q450 ?_
          refine v_lmul E dX7_codeFrom_75 ?_
          refine v_aload_n E dX7_codeFrom_76 rfl ?_
          refine v_iload E dX7_codeFrom_77 rfl ?_
          replace h := bnd_e h
          obtain ⟨v18, ev18, h⟩ := h
          refine v_iaload E ev18 dX7_codeFrom_79 ?_
          refine v_i2l E dX7_codeFrom_80 ?_
          refine v_ladd E dX7_codeFrom_81 ?_
          refine v_lstore (lv' := [some (vR (some o1)), none, some (vI a2), some (vR a3), some (vI x17.1), some (vI s7.2.1), some (vJ ((s7.2.2.1 * 8) + ((v18 : Int32).toInt64))), none, some (vI s7.2.2.2.1), some (vI v12)]) E dX7_codeFrom_82 (by decide) rfl ?_
          refine v_iload_n E dX7_codeFrom_84 rfl ?_
          refine jp_use h (fun K19 eK19 h => ?_)
          have hK19 : ∀ x23 : Int32, K19 x23 = some w9 → V p l e { frames := 1, cells := 0, slots := 0, locals := 21 } s m ar below meth c (MQ below (Qd base D cy (some (vJ r.1)) r.2) ar s 0 0 (fun q => base ≤ q)) base D cy 10 103 [some (vR (some o1)), none, some (vI a2), some (vR a3), some (vI x17.1), none, some (vJ ((s7.2.2.1 * 8) + ((v18 : Int32).toInt64))), none, some (vI s7.2.2.2.1), none] [vI x23] x17.2 0 0 := by
            intro x23 h
            rw [eK19] at h
            try dsimp only at h
            refine v_istore (lv' := [some (vR (some o1)), none, some (vI a2), some (vR a3), some (vI x17.1), some (vI x23), some (vJ ((s7.2.2.1 * 8) + ((v18 : Int32).toInt64))), none, some (vI s7.2.2.2.1), none]) E dX7_codeFrom_103 (by decide) rfl ?_
            refine v_iinc (v := (s7.2.2.2.1 + 1)) (lv' := [some (vR (some o1)), none, some (vI a2), some (vR a3), some (vI x17.1), some (vI x23), some (vJ ((s7.2.2.1 * 8) + ((v18 : Int32).toInt64))), none, some (vI (s7.2.2.2.1 + 1)), none]) E dX7_codeFrom_105 rfl (by rfl) (by decide) rfl ?_
            refine v_goto (tgt := 35) E dX7_codeFrom_108 (by decide) ?_
            replace h := Option.some.inj h
            subst h
            exact hx
          refine v_if_eq (tgt := 97) E dX7_codeFrom_85 (by decide) (fun c22 => ?_) (fun c22 => ?_)
          · rw [if_pos c22] at h
            refine v_aload_n E dX7_codeFrom_97 rfl ?_
            refine v_iload E dX7_codeFrom_98 rfl ?_
            replace h := bnd_e h
            obtain ⟨r20, er20, h⟩ := h
            refine v_callV (na := 1) (As := [vI s7.2.1]) (rest := []) (ci := 7) (q := (RX7, TX7, 14)) E gw7_87 (by decide +kernel) rfl rfl (by decide) (kX7_placeBehind l er20).2 (kX7_placeBehind l er20).1 rfl rfl dX7_codeFrom_100 ⟨Nat.le_of_ble_eq_true rfl, Nat.le_of_ble_eq_true rfl⟩ ⟨(Nat.le_of_ble_eq_true rfl), (Nat.le_of_ble_eq_true rfl)⟩ (Nat.le_of_ble_eq_true rfl) ?_
            refine v_drop (lv' := [some (vR (some o1)), none, some (vI a2), some (vR a3), some (vI x17.1), none, some (vJ ((s7.2.2.1 * 8) + ((v18 : Int32).toInt64))), none, some (vI s7.2.2.2.1), none]) [5, 9] rfl ?_
            exact hK19 r20 h
          · rw [if_neg c22] at h
            refine v_aload_n E dX7_codeFrom_88 rfl ?_
            refine v_iload E dX7_codeFrom_89 rfl ?_
            replace h := bnd_e h
            obtain ⟨r21, er21, h⟩ := h
            refine v_callV (na := 1) (As := [vI s7.2.1]) (rest := []) (ci := 7) (q := (RX7, TX7, 14)) E gw7_147 (by decide +kernel) rfl rfl (by decide) (kX7_placeAhead l er21).2 (kX7_placeAhead l er21).1 rfl rfl dX7_codeFrom_91 ⟨Nat.le_of_ble_eq_true rfl, Nat.le_of_ble_eq_true rfl⟩ ⟨(Nat.le_of_ble_eq_true rfl), (Nat.le_of_ble_eq_true rfl)⟩ (Nat.le_of_ble_eq_true rfl) ?_
            refine v_goto (tgt := 103) E dX7_codeFrom_94 (by decide) ?_
            refine v_drop (lv' := [some (vR (some o1)), none, some (vI a2), some (vR a3), some (vI x17.1), none, some (vJ ((s7.2.2.1 * 8) + ((v18 : Int32).toInt64))), none, some (vI s7.2.2.2.1), none]) [5, 9] rfl ?_
            exact hK19 r21 h
        refine v_icmp_ne (tgt := 70) E dX7_codeFrom_58 (by decide) (fun c16 => ?_) (fun c16 => ?_)
        · rw [if_neg c16] at h
          exact hK14 (s7.1, s7.2.2.2.2) h
        · rw [if_pos c16] at h
          refine v_aload_n E dX7_codeFrom_61 rfl ?_
          refine v_iload E dX7_codeFrom_62 rfl ?_
          refine v_iload E dX7_codeFrom_64 rfl ?_
          replace h := bnd_e h
          obtain ⟨A15, eA15, h⟩ := h
          refine v_iastore E eA15 dX7_codeFrom_66 ?_
          refine v_iinc (v := (s7.1 + 1)) (lv' := [some (vR (some o1)), none, some (vI a2), some (vR a3), some (vI (s7.1 + 1)), some (vI s7.2.1), some (vJ s7.2.2.1), none, some (vI s7.2.2.2.1), some (vI v12)]) E dX7_codeFrom_67 rfl (by rfl) (by decide) rfl ?_
          exact hK14 ((s7.1 + 1), A15) h
    · refine v_lload E dX7_codeFrom_111 rfl ?_
      replace h := Option.some.inj h
      subst h
      refine v_widen (k' := 0) (n' := 0) (Nat.le_of_ble_eq_true rfl) (Nat.le_of_ble_eq_true rfl) ?_
      exact v_lret E dX7_codeFrom_113
noncomputable def fX7_tryTurns (A0 : AH) (o0 : Option Nat) : Option (AH) :=
  (rcv A0 8 o0).bind fun o0 =>
  (gI A0 8 230 ((some o0))).bind fun v1 =>
  if v1 = 0 then
    (gI A0 8 225 ((some o0))).bind fun v2 =>
    if v2 = 0 then
      some A0
    else
      (gI A0 8 224 ((some o0))).bind fun v3 =>
      (nA A0 14 v3 8).bind fun A4 =>
      (fX7_codeFrom A4 ((some o0)) 0 0 ((some (Hs A0)))).bind fun r5 =>
      (pJ r5.2 8 231 ((some o0)) r5.1).bind fun A6 =>
      (pI A6 8 232 ((some o0)) 0).bind fun A7 =>
      (iter (S := Int32 × AH) (T := AH) (fun s8 =>
          (gI s8.2 8 225 ((some o0))).bind fun v11 =>
          if v11 ≤ s8.1 then
            some (.inr s8.2)
          else
            (iter (S := Int32 × AH) (T := AH) (fun s12 =>
                if 2 ≤ s12.1 then
                  some (.inr s12.2)
                else
                  jp1 (α := Int32) (if s12.1 = 1 then
                      1
                    else
                      0) fun x17 =>
                  (fX7_codeFrom s12.2 ((some o0)) s8.1 x17 ((some (Hs A0)))).bind fun r18 =>
                    (gJ r18.2 8 231 ((some o0))).bind fun v19 =>
                    (fJ9_min_f86c9 r18.2 v19 r18.1).bind fun r20 =>
                    (pJ r18.2 8 231 ((some o0)) r20).bind fun A21 =>
                    jp (fun (x26 : AH) =>
                      some (.inl ((s12.1 + 1), x26))) fun K22 =>
                      if (lg_cmp r18.1 r5.1) = 0 then
                        (gI A21 8 232 ((some o0))).bind fun v23 =>
                        (pI A21 8 232 ((some o0)) ((v23 + 1))).bind fun A24 =>
                        K22 A24
                      else
                        K22 A21) (0, s8.2)).bind fun t13 =>
            some (.inl ((s8.1 + 1), t13))) (0, A7)).bind fun t9 =>
      (pZ t9 8 230 ((some o0)) 1).bind fun A30 =>
      some A30
  else
    some A0
set_option maxRecDepth 100000 in
set_option maxHeartbeats 4000000 in
theorem kX7_tryTurns (l : Launch) {A0 : AH} {o0 : Option Nat} {r : AH} (h : fX7_tryTurns A0 o0 = some r) : (∃ a, o0 = some a ∧ Hk A0 a = 8) ∧ Cn l yX7_tryTurns cX7_tryTurns 8 none 2 50 1 8 [vR o0] A0 none r := by
  unfold fX7_tryTurns at h
  replace h := bnd_e h
  obtain ⟨o1, e1, h⟩ := h
  obtain ⟨rfl, hk0⟩ := rcv_e e1
  refine ⟨⟨o1, rfl, hk0⟩, ?_⟩
  refine Cn.of (pad := 7) (lv0 := [some (vR (some o1)), none, none, none, none, none, none, none]) (by decide +kernel) (Nat.le_of_ble_eq_true rfl) rfl ?_
  intro p e s m below meth c base D cy E
  generalize (List.map toV [vR (some o1)]).toArray = ar at E ⊢
  have E : EN p s m ar meth c D cy RX7 cX7_tryTurns 8 none "tryTurns" := E
  refine v_aload_n E dX7_tryTurns_0 rfl ?_
  replace h := bnd_e h
  obtain ⟨v1, ev1, h⟩ := h
  refine g7_9 E ev1 dX7_tryTurns_1 ?_
  refine v_if_ne (tgt := 14) E dX7_tryTurns_4 (by decide) (fun c33 => ?_) (fun c33 => ?_)
  · rw [if_neg c33] at h
    replace h := Option.some.inj h
    subst h
    refine v_widen (k' := 1) (n' := 8) (Nat.le_of_ble_eq_true rfl) (Nat.le_of_ble_eq_true rfl) ?_
    exact v_vret E dX7_tryTurns_14
  · rw [if_pos c33] at h
    refine v_aload_n E dX7_tryTurns_7 rfl ?_
    replace h := bnd_e h
    obtain ⟨v2, ev2, h⟩ := h
    refine g7_48 E ev2 dX7_tryTurns_8 ?_
    refine v_if_ne (tgt := 15) E dX7_tryTurns_11 (by decide) (fun c32 => ?_) (fun c32 => ?_)
    · rw [if_neg c32] at h
      refine v_aload_n E dX7_tryTurns_15 rfl ?_
      replace h := bnd_e h
      obtain ⟨v3, ev3, h⟩ := h
      refine g7_45 E ev3 dX7_tryTurns_16 ?_
      replace h := bnd_e h
      obtain ⟨A4, eA4, h⟩ := h
      refine v_newi E q140 eA4 (Nat.le_of_ble_eq_true rfl) (Nat.le_of_ble_eq_true rfl) (by decide) dX7_tryTurns_19 ?_
      refine v_astore_n (lv' := [some (vR (some o1)), some (vR (some (Hs A0))), none, none, none, none, none, none]) E dX7_tryTurns_21 (by decide) rfl ?_
      refine v_aload_n E dX7_tryTurns_22 rfl ?_
      refine v_iconst (v := 0) E dX7_tryTurns_23 (by decide) ?_
      refine v_iconst (v := 0) E dX7_tryTurns_24 (by decide) ?_
      refine v_aload_n E dX7_tryTurns_25 rfl ?_
      replace h := bnd_e h
      obtain ⟨r5, er5, h⟩ := h
      refine v_callV (na := 3) (As := [vI 0, vI 0, vR (some (Hs A0))]) (rest := []) (ci := 7) (q := (RX7, TX7, 14)) E gw7_137 (by decide +kernel) rfl rfl (by decide) (kX7_codeFrom l er5).2 (kX7_codeFrom l er5).1 rfl rfl dX7_tryTurns_26 ⟨Nat.le_of_ble_eq_true rfl, Nat.le_of_ble_eq_true rfl⟩ ⟨(Nat.le_of_ble_eq_true rfl), (Nat.le_of_ble_eq_true rfl)⟩ (Nat.le_of_ble_eq_true rfl) ?_
      refine v_lstore_n (lv' := [some (vR (some o1)), some (vR (some (Hs A0))), some (vJ r5.1), none, none, none, none, none]) E dX7_tryTurns_29 (by decide) rfl ?_
      refine v_aload_n E dX7_tryTurns_30 rfl ?_
      refine v_lload_n E dX7_tryTurns_31 rfl ?_
      replace h := bnd_e h
      obtain ⟨A6, eA6, h⟩ := h
      refine p7_15 E eA6 dX7_tryTurns_32 ?_
      refine v_aload_n E dX7_tryTurns_35 rfl ?_
      refine v_iconst (v := 0) E dX7_tryTurns_36 (by decide) ?_
      replace h := bnd_e h
      obtain ⟨A7, eA7, h⟩ := h
      refine p7_19 E eA7 dX7_tryTurns_37 ?_
      refine v_iconst (v := 0) E dX7_tryTurns_40 (by decide) ?_
      refine v_istore (lv' := [some (vR (some o1)), some (vR (some (Hs A0))), some (vJ r5.1), none, some (vI 0), none, none, none]) E dX7_tryTurns_41 (by decide) rfl ?_
      replace h := bnd_e h
      obtain ⟨t9, et9, h⟩ := h
      refine iter_V (S := Int32 × AH) (T := AH) (Ph := fun s8 => V p l e { frames := 2, cells := 1, slots := 8, locals := 50 } s m ar below meth c (MQ below (Qd base D cy none r) ar s 1 8 (fun q => base ≤ q)) base D cy 8 43 [some (vR (some o1)), some (vR (some (Hs A0))), some (vJ r5.1), none, some (vI s8.1), none, none, none] [] s8.2 1 8) (Pt := fun t9 => V p l e { frames := 2, cells := 1, slots := 8, locals := 50 } s m ar below meth c (MQ below (Qd base D cy none r) ar s 1 8 (fun q => base ≤ q)) base D cy 8 123 [some (vR (some o1)), none, none, none, none, none, none, none] [] t9 1 8) et9 (fun s8 w10 h hx => ?_) ?_
      · try dsimp only at h
        refine v_iload E dX7_tryTurns_43 rfl ?_
        refine v_aload_n E dX7_tryTurns_45 rfl ?_
        replace h := bnd_e h
        obtain ⟨v11, ev11, h⟩ := h
        refine g7_48 E ev11 dX7_tryTurns_46 ?_
        refine v_icmp_ge (tgt := 123) E dX7_tryTurns_49 (by decide) (fun c29 => ?_) (fun c29 => ?_)
        · rw [if_pos c29] at h
          refine v_drop (lv' := [some (vR (some o1)), none, none, none, none, none, none, none]) [1, 2, 4] rfl ?_
          replace h := Option.some.inj h
          subst h
          exact hx
        · rw [if_neg c29] at h
          refine v_iconst (v := 0) E dX7_tryTurns_52 (by decide) ?_
          refine v_istore (lv' := [some (vR (some o1)), some (vR (some (Hs A0))), some (vJ r5.1), none, some (vI s8.1), some (vI 0), none, none]) E dX7_tryTurns_53 (by decide) rfl ?_
          replace h := bnd_e h
          obtain ⟨t13, et13, h⟩ := h
          refine iter_V (S := Int32 × AH) (T := AH) (Ph := fun s12 => V p l e { frames := 2, cells := 1, slots := 8, locals := 50 } s m ar below meth c (MQ below (Qd base D cy none r) ar s 1 8 (fun q => base ≤ q)) base D cy 8 55 [some (vR (some o1)), some (vR (some (Hs A0))), some (vJ r5.1), none, some (vI s8.1), some (vI s12.1), none, none] [] s12.2 1 8) (Pt := fun t13 => V p l e { frames := 2, cells := 1, slots := 8, locals := 50 } s m ar below meth c (MQ below (Qd base D cy none r) ar s 1 8 (fun q => base ≤ q)) base D cy 8 117 [some (vR (some o1)), some (vR (some (Hs A0))), some (vJ r5.1), none, some (vI s8.1), none, none, none] [] t13 1 8) et13 (fun s12 w14 h hx => ?_) ?_
          · try dsimp only at h
            refine v_iload E dX7_tryTurns_55 rfl ?_
            refine v_iconst (v := 2) E dX7_tryTurns_57 (by decide) ?_
            refine v_icmp_ge (tgt := 117) E dX7_tryTurns_58 (by decide) (fun c27 => ?_) (fun c27 => ?_)
            · rw [if_pos c27] at h
              refine v_drop (lv' := [some (vR (some o1)), some (vR (some (Hs A0))), some (vJ r5.1), none, some (vI s8.1), none, none, none]) [5] rfl ?_
              replace h := Option.some.inj h
              subst h
              exact hx
            · rw [if_neg c27] at h
              refine v_aload_n E dX7_tryTurns_61 rfl ?_
              refine v_iload E dX7_tryTurns_62 rfl ?_
              refine v_iload E dX7_tryTurns_64 rfl ?_
              refine v_iconst (v := 1) E dX7_tryTurns_66 (by decide) ?_
              refine jp1_use h (fun K15 eK15 h => ?_)
              have hK15 : ∀ x17 : Int32, K15 x17 = some w14 → V p l e { frames := 2, cells := 1, slots := 8, locals := 50 } s m ar below meth c (MQ below (Qd base D cy none r) ar s 1 8 (fun q => base ≤ q)) base D cy 8 75 [some (vR (some o1)), some (vR (some (Hs A0))), some (vJ r5.1), none, some (vI s8.1), some (vI s12.1), none, none] [vI x17, vI s8.1, vR (some o1)] s12.2 1 8 := by
                intro x17 h
                rw [eK15] at h
                try dsimp only at h
                refine v_aload_n E dX7_tryTurns_75 rfl ?_
                replace h := bnd_e h
                obtain ⟨r18, er18, h⟩ := h
                refine v_callV (na := 3) (As := [vI s8.1, vI x17, vR (some (Hs A0))]) (rest := []) (ci := 7) (q := (RX7, TX7, 14)) E gw7_137 (by decide +kernel) rfl rfl (by decide) (kX7_codeFrom l er18).2 (kX7_codeFrom l er18).1 rfl rfl dX7_tryTurns_76 ⟨Nat.le_of_ble_eq_true rfl, Nat.le_of_ble_eq_true rfl⟩ ⟨(Nat.le_of_ble_eq_true rfl), (Nat.le_of_ble_eq_true rfl)⟩ (Nat.le_of_ble_eq_true rfl) ?_
                refine v_lstore (lv' := [some (vR (some o1)), some (vR (some (Hs A0))), some (vJ r5.1), none, some (vI s8.1), some (vI s12.1), some (vJ r18.1), none]) E dX7_tryTurns_79 (by decide) rfl ?_
                refine v_aload_n E dX7_tryTurns_81 rfl ?_
                refine v_aload_n E dX7_tryTurns_82 rfl ?_
                replace h := bnd_e h
                obtain ⟨v19, ev19, h⟩ := h
                refine g7_15 E ev19 dX7_tryTurns_83 ?_
                refine v_lload E dX7_tryTurns_86 rfl ?_
                replace h := bnd_e h
                obtain ⟨r20, er20, h⟩ := h
                refine v_callS (na := 2) (As := [vJ v19, vJ r18.1]) (rest := [vR (some o1)]) E gw7_141 (by decide +kernel) (kJ9_min_f86c9 l er20) rfl rfl dX7_tryTurns_88 ⟨Nat.le_of_ble_eq_true rfl, Nat.le_of_ble_eq_true rfl⟩ ⟨(Nat.le_of_ble_eq_true rfl), (Nat.le_of_ble_eq_true rfl)⟩ (Nat.le_of_ble_eq_true rfl) ?_
                replace h := bnd_e h
                obtain ⟨A21, eA21, h⟩ := h
                refine p7_15 E eA21 dX7_tryTurns_91 ?_
                refine v_lload E dX7_tryTurns_94 rfl ?_
                refine v_lload_n E dX7_tryTurns_96 rfl ?_
                refine v_lcmp E dX7_tryTurns_97 ?_
                refine jp_use h (fun K22 eK22 h => ?_)
                have hK22 : ∀ x26 : AH, K22 x26 = some w14 → V p l e { frames := 2, cells := 1, slots := 8, locals := 50 } s m ar below meth c (MQ below (Qd base D cy none r) ar s 1 8 (fun q => base ≤ q)) base D cy 8 111 [some (vR (some o1)), some (vR (some (Hs A0))), some (vJ r5.1), none, some (vI s8.1), some (vI s12.1), none, none] [] x26 1 8 := by
                  intro x26 h
                  rw [eK22] at h
                  try dsimp only at h
                  refine v_iinc (v := (s12.1 + 1)) (lv' := [some (vR (some o1)), some (vR (some (Hs A0))), some (vJ r5.1), none, some (vI s8.1), some (vI (s12.1 + 1)), none, none]) E dX7_tryTurns_111 rfl (by rfl) (by decide) rfl ?_
                  refine v_goto (tgt := 55) E dX7_tryTurns_114 (by decide) ?_
                  replace h := Option.some.inj h
                  subst h
                  exact hx
                refine v_if_ne (tgt := 111) E dX7_tryTurns_98 (by decide) (fun c25 => ?_) (fun c25 => ?_)
                · rw [if_neg c25] at h
                  refine v_drop (lv' := [some (vR (some o1)), some (vR (some (Hs A0))), some (vJ r5.1), none, some (vI s8.1), some (vI s12.1), none, none]) [6] rfl ?_
                  exact hK22 A21 h
                · rw [if_pos c25] at h
                  refine v_aload_n E dX7_tryTurns_101 rfl ?_
                  refine v_dup E dX7_tryTurns_102 rfl ?_
                  replace h := bnd_e h
                  obtain ⟨v23, ev23, h⟩ := h
                  refine g7_19 E ev23 dX7_tryTurns_103 ?_
                  refine v_iconst (v := 1) E dX7_tryTurns_106 (by decide) ?_
                  refine v_iadd E dX7_tryTurns_107 ?_
                  replace h := bnd_e h
                  obtain ⟨A24, eA24, h⟩ := h
                  refine p7_19 E eA24 dX7_tryTurns_108 ?_
                  refine v_drop (lv' := [some (vR (some o1)), some (vR (some (Hs A0))), some (vJ r5.1), none, some (vI s8.1), some (vI s12.1), none, none]) [6] rfl ?_
                  exact hK22 A24 h
              refine v_icmp_ne (tgt := 74) E dX7_tryTurns_67 (by decide) (fun c16 => ?_) (fun c16 => ?_)
              · rw [if_neg c16] at h
                refine v_iconst (v := 0) E dX7_tryTurns_74 (by decide) ?_
                exact hK15 0 h
              · rw [if_pos c16] at h
                refine v_iconst (v := 1) E dX7_tryTurns_70 (by decide) ?_
                refine v_goto (tgt := 75) E dX7_tryTurns_71 (by decide) ?_
                exact hK15 1 h
          · refine v_iinc (v := (s8.1 + 1)) (lv' := [some (vR (some o1)), some (vR (some (Hs A0))), some (vJ r5.1), none, some (vI (s8.1 + 1)), none, none, none]) E dX7_tryTurns_117 rfl (by rfl) (by decide) rfl ?_
            refine v_goto (tgt := 43) E dX7_tryTurns_120 (by decide) ?_
            replace h := Option.some.inj h
            subst h
            exact hx
      · refine v_aload_n E dX7_tryTurns_123 rfl ?_
        refine v_iconst (v := 1) E dX7_tryTurns_124 (by decide) ?_
        replace h := bnd_e h
        obtain ⟨A30, eA30, h⟩ := h
        refine p7_9 E eA30 dX7_tryTurns_125 ?_
        replace h := Option.some.inj h
        subst h
        refine v_widen (k' := 1) (n' := 8) (Nat.le_of_ble_eq_true rfl) (Nat.le_of_ble_eq_true rfl) ?_
        exact v_vret E dX7_tryTurns_128
    · rw [if_pos c32] at h
      replace h := Option.some.inj h
      subst h
      refine v_widen (k' := 1) (n' := 8) (Nat.le_of_ble_eq_true rfl) (Nat.le_of_ble_eq_true rfl) ?_
      exact v_vret E dX7_tryTurns_14
noncomputable def fX7_isLike (A0 : AH) (o0 : Option Nat) (a1 : Option Nat) : Option (Int32 × AH) :=
  (rcv A0 8 o0).bind fun o0 =>
  (fX7_tryTurns A0 ((some o0))).bind fun r1 =>
  (fX7_tryTurns r1 a1).bind fun r2 =>
  (gI r2 8 224 ((some o0))).bind fun v3 =>
  (gI r2 8 224 a1).bind fun v4 =>
  if v3 = v4 then
    (gJ r2 8 231 ((some o0))).bind fun v5 =>
    (gJ r2 8 231 a1).bind fun v6 =>
    if (lg_cmp v5 v6) = 0 then
      some ((1, r2))
    else
      some ((0, r2))
  else
    some ((0, r2))
set_option maxRecDepth 100000 in
set_option maxHeartbeats 4000000 in
theorem kX7_isLike (l : Launch) {A0 : AH} {o0 : Option Nat} {a1 : Option Nat} {r : Int32 × AH} (h : fX7_isLike A0 o0 a1 = some r) : (∃ a, o0 = some a ∧ Hk A0 a = 8) ∧ Cn l yX7_isLike cX7_isLike 2 (some .boolean) 3 77 2 16 [vR o0, vR a1] A0 (some (vI r.1)) r.2 := by
  unfold fX7_isLike at h
  replace h := bnd_e h
  obtain ⟨o1, e1, h⟩ := h
  obtain ⟨rfl, hk0⟩ := rcv_e e1
  refine ⟨⟨o1, rfl, hk0⟩, ?_⟩
  refine Cn.of (pad := 0) (lv0 := [some (vR (some o1)), some (vR a1)]) (by decide +kernel) (Nat.le_of_ble_eq_true rfl) rfl ?_
  intro p e s m below meth c base D cy E
  generalize (List.map toV [vR (some o1), vR a1]).toArray = ar at E ⊢
  have E : EN p s m ar meth c D cy RX7 cX7_isLike 2 (some .boolean) "isLike" := E
  refine v_aload_n E dX7_isLike_0 rfl ?_
  replace h := bnd_e h
  obtain ⟨r1, er1, h⟩ := h
  refine v_callV (na := 0) (As := []) (rest := []) (ci := 7) (q := (RX7, TX7, 14)) E gw7_134 (by decide +kernel) rfl rfl (by decide) (kX7_tryTurns l er1).2 (kX7_tryTurns l er1).1 rfl rfl dX7_isLike_1 ⟨Nat.le_of_ble_eq_true rfl, Nat.le_of_ble_eq_true rfl⟩ ⟨(Nat.le_of_ble_eq_true rfl), (Nat.le_of_ble_eq_true rfl)⟩ (Nat.le_of_ble_eq_true rfl) ?_
  refine v_widen (k' := 1) (n' := 8) (Nat.le_of_ble_eq_true rfl) (Nat.le_of_ble_eq_true rfl) ?_
  refine v_aload_n E dX7_isLike_4 rfl ?_
  replace h := bnd_e h
  obtain ⟨r2, er2, h⟩ := h
  refine v_callV (na := 0) (As := []) (rest := []) (ci := 7) (q := (RX7, TX7, 14)) E gw7_134 (by decide +kernel) rfl rfl (by decide) (kX7_tryTurns l er2).2 (kX7_tryTurns l er2).1 rfl rfl dX7_isLike_5 ⟨Nat.le_of_ble_eq_true rfl, Nat.le_of_ble_eq_true rfl⟩ ⟨(Nat.le_of_ble_eq_true rfl), (Nat.le_of_ble_eq_true rfl)⟩ (Nat.le_of_ble_eq_true rfl) ?_
  refine v_widen (k' := 2) (n' := 16) (Nat.le_of_ble_eq_true rfl) (Nat.le_of_ble_eq_true rfl) ?_
  refine v_aload_n E dX7_isLike_8 rfl ?_
  replace h := bnd_e h
  obtain ⟨v3, ev3, h⟩ := h
  refine g7_45 E ev3 dX7_isLike_9 ?_
  refine v_aload_n E dX7_isLike_12 rfl ?_
  replace h := bnd_e h
  obtain ⟨v4, ev4, h⟩ := h
  refine g7_45 E ev4 dX7_isLike_13 ?_
  refine v_icmp_ne (tgt := 35) E dX7_isLike_16 (by decide) (fun c8 => ?_) (fun c8 => ?_)
  · rw [if_neg c8] at h
    refine v_iconst (v := 0) E dX7_isLike_35 (by decide) ?_
    replace h := Option.some.inj h
    subst h
    refine v_widen (k' := 2) (n' := 16) (Nat.le_of_ble_eq_true rfl) (Nat.le_of_ble_eq_true rfl) ?_
    exact v_zret E (Or.inl rfl) dX7_isLike_36
  · rw [if_pos c8] at h
    refine v_aload_n E dX7_isLike_19 rfl ?_
    replace h := bnd_e h
    obtain ⟨v5, ev5, h⟩ := h
    refine g7_15 E ev5 dX7_isLike_20 ?_
    refine v_aload_n E dX7_isLike_23 rfl ?_
    replace h := bnd_e h
    obtain ⟨v6, ev6, h⟩ := h
    refine g7_15 E ev6 dX7_isLike_24 ?_
    refine v_lcmp E dX7_isLike_27 ?_
    refine v_if_ne (tgt := 35) E dX7_isLike_28 (by decide) (fun c7 => ?_) (fun c7 => ?_)
    · rw [if_neg c7] at h
      refine v_iconst (v := 0) E dX7_isLike_35 (by decide) ?_
      replace h := Option.some.inj h
      subst h
      refine v_widen (k' := 2) (n' := 16) (Nat.le_of_ble_eq_true rfl) (Nat.le_of_ble_eq_true rfl) ?_
      exact v_zret E (Or.inl rfl) dX7_isLike_36
    · rw [if_pos c7] at h
      refine v_iconst (v := 1) E dX7_isLike_31 (by decide) ?_
      refine v_goto (tgt := 36) E dX7_isLike_32 (by decide) ?_
      replace h := Option.some.inj h
      subst h
      refine v_widen (k' := 2) (n' := 16) (Nat.le_of_ble_eq_true rfl) (Nat.le_of_ble_eq_true rfl) ?_
      exact v_zret E (Or.inr rfl) dX7_isLike_36
noncomputable def fX8_hasLikeAhead (A0 : AH) (o0 : Option Nat) (a1 : Int32) : Option (Int32 × AH) :=
  (rcv A0 9 o0).bind fun o0 =>
  (fX8_get A0 ((some o0)) a1).bind fun r1 =>
  (itN (S := Int32 × AH) (T := (AH) ⊕ (Int32 × AH)) (fun s2 =>
      if a1 ≤ s2.1 then
        some (.inr (.inl s2.2))
      else
        (fX8_get s2.2 ((some o0)) s2.1).bind fun r7 =>
        jp (fun (x15 : AH) =>
          some (.inl ((s2.1 + 1), x15))) fun K8 =>
          if r1 = none then
            K8 s2.2
          else
            if r7 = none then
              K8 s2.2
            else
              (fX10_row s2.2 r1).bind fun r9 =>
              (fX10_row s2.2 r7).bind fun r10 =>
              (fX7_isLike s2.2 r9 r10).bind fun r11 =>
              if r11.1 = 0 then
                K8 r11.2
              else
                some (.inr (.inr ((1, r11.2))))) 6 (0, A0)).bind fun t3 =>
  sm t3 (fun t3 =>
    some ((0, t3))) (fun r => some r)
set_option maxRecDepth 100000 in
set_option maxHeartbeats 4000000 in
theorem kX8_hasLikeAhead (l : Launch) {A0 : AH} {o0 : Option Nat} {a1 : Int32} {r : Int32 × AH} (h : fX8_hasLikeAhead A0 o0 a1 = some r) : (∃ a, o0 = some a ∧ Hk A0 a = 9) ∧ Cn l yX8_hasLikeAhead cX8_hasLikeAhead 5 (some .boolean) 4 98 14 112 [vR o0, vI a1] A0 (some (vI r.1)) r.2 := by
  unfold fX8_hasLikeAhead at h
  replace h := bnd_e h
  obtain ⟨o1, e1, h⟩ := h
  obtain ⟨rfl, hk0⟩ := rcv_e e1
  refine ⟨⟨o1, rfl, hk0⟩, ?_⟩
  refine Cn.of (pad := 3) (lv0 := [some (vR (some o1)), some (vI a1), none, none, none]) (by decide +kernel) (Nat.le_of_ble_eq_true rfl) rfl ?_
  intro p e s m below meth c base D cy E
  generalize (List.map toV [vR (some o1), vI a1]).toArray = ar at E ⊢
  have E : EN p s m ar meth c D cy RX8 cX8_hasLikeAhead 5 (some .boolean) "hasLikeAhead" := E
  refine v_aload_n E dX8_hasLikeAhead_0 rfl ?_
  refine v_iload_n E dX8_hasLikeAhead_1 rfl ?_
  replace h := bnd_e h
  obtain ⟨r1, er1, h⟩ := h
  refine v_callV (na := 1) (As := [vI a1]) (rest := []) (ci := 8) (q := (RX8, TX8, 2)) E gw8_28 (by decide +kernel) rfl rfl (by decide) (kX8_get l er1).2 (kX8_get l er1).1 rfl rfl dX8_hasLikeAhead_2 ⟨Nat.le_of_ble_eq_true rfl, Nat.le_of_ble_eq_true rfl⟩ ⟨(Nat.le_of_ble_eq_true rfl), (Nat.le_of_ble_eq_true rfl)⟩ (Nat.le_of_ble_eq_true rfl) ?_
  refine v_astore_n (lv' := [some (vR (some o1)), some (vI a1), some (vR r1), none, none]) E dX8_hasLikeAhead_5 (by decide) rfl ?_
  refine v_iconst (v := 0) E dX8_hasLikeAhead_6 (by decide) ?_
  refine v_istore_n (lv' := [some (vR (some o1)), some (vI a1), some (vR r1), some (vI 0), none]) E dX8_hasLikeAhead_7 (by decide) rfl ?_
  replace h := bnd_e h
  obtain ⟨t3, et3, h⟩ := h
  refine itB_V (S := Int32 × AH) (T := (AH) ⊕ (Int32 × AH)) (c := 2) (d := 16) (Ph := fun k5 n6 s2 => V p l e { frames := 4, cells := 14, slots := 112, locals := 98 } s m ar below meth c (MQ below (Qd base D cy (some (vI r.1)) r.2) ar s 14 112 (fun q => base ≤ q)) base D cy 5 8 [some (vR (some o1)), some (vI a1), some (vR r1), some (vI s2.1), none] [] s2.2 k5 n6) (Pt := itM (fun t3 => V p l e { frames := 4, cells := 14, slots := 112, locals := 98 } s m ar below meth c (MQ below (Qd base D cy (some (vI r.1)) r.2) ar s 14 112 (fun q => base ≤ q)) base D cy 5 52 [none, none, none, none, none] [] t3 12 96) (fun z => z = r)) 6 et3 (fun k5 n6 s2 w4 hkq hnq h hx => ?_) ?_
  · try dsimp only at h
    refine v_iload_n E dX8_hasLikeAhead_8 rfl ?_
    refine v_iload_n E dX8_hasLikeAhead_9 rfl ?_
    refine v_icmp_ge (tgt := 52) E dX8_hasLikeAhead_10 (by decide) (fun c16 => ?_) (fun c16 => ?_)
    · rw [if_pos c16] at h
      refine v_drop (lv' := [none, none, none, none, none]) [0, 1, 2, 3] rfl ?_
      refine v_widen (k' := 12) (n' := 96) (by omega) (by omega) ?_
      replace h := Option.some.inj h
      subst h
      exact hx
    · rw [if_neg c16] at h
      refine v_aload_n E dX8_hasLikeAhead_13 rfl ?_
      refine v_iload_n E dX8_hasLikeAhead_14 rfl ?_
      replace h := bnd_e h
      obtain ⟨r7, er7, h⟩ := h
      refine v_callV (na := 1) (As := [vI s2.1]) (rest := []) (ci := 8) (q := (RX8, TX8, 2)) E gw8_28 (by decide +kernel) rfl rfl (by decide) (kX8_get l er7).2 (kX8_get l er7).1 rfl rfl dX8_hasLikeAhead_15 ⟨Nat.le_of_ble_eq_true rfl, Nat.le_of_ble_eq_true rfl⟩ ⟨(by dsimp only; omega), (by dsimp only; omega)⟩ (Nat.le_of_ble_eq_true rfl) ?_
      refine v_astore (lv' := [some (vR (some o1)), some (vI a1), some (vR r1), some (vI s2.1), some (vR r7)]) E dX8_hasLikeAhead_18 (by decide) rfl ?_
      refine v_aload_n E dX8_hasLikeAhead_20 rfl ?_
      refine jp_use h (fun K8 eK8 h => ?_)
      have hK8 : ∀ x15 : AH, K8 x15 = some w4 → V p l e { frames := 4, cells := 14, slots := 112, locals := 98 } s m ar below meth c (MQ below (Qd base D cy (some (vI r.1)) r.2) ar s 14 112 (fun q => base ≤ q)) base D cy 5 46 [some (vR (some o1)), some (vI a1), some (vR r1), some (vI s2.1), none] [] x15 (k5 + 2) (n6 + 16) := by
        intro x15 h
        rw [eK8] at h
        try dsimp only at h
        refine v_iinc (v := (s2.1 + 1)) (lv' := [some (vR (some o1)), some (vI a1), some (vR r1), some (vI (s2.1 + 1)), none]) E dX8_hasLikeAhead_46 rfl (by rfl) (by decide) rfl ?_
        refine v_goto (tgt := 8) E dX8_hasLikeAhead_49 (by decide) ?_
        refine v_widen (k' := k5 + 2) (n' := n6 + 16) (by omega) (by omega) ?_
        replace h := Option.some.inj h
        subst h
        exact hx
      refine v_ifnull (tgt := 46) E dX8_hasLikeAhead_21 (by decide) (fun c14 => ?_) (fun c14 => ?_)
      · rw [if_pos c14] at h
        refine v_drop (lv' := [some (vR (some o1)), some (vI a1), some (vR r1), some (vI s2.1), none]) [4] rfl ?_
        refine v_widen (k' := (k5 + 2)) (n' := (n6 + 16)) (by omega) (by omega) ?_
        exact hK8 s2.2 h
      · rw [if_neg c14] at h
        refine v_aload E dX8_hasLikeAhead_24 rfl ?_
        refine v_ifnull (tgt := 46) E dX8_hasLikeAhead_26 (by decide) (fun c13 => ?_) (fun c13 => ?_)
        · rw [if_pos c13] at h
          refine v_drop (lv' := [some (vR (some o1)), some (vI a1), some (vR r1), some (vI s2.1), none]) [4] rfl ?_
          refine v_widen (k' := (k5 + 2)) (n' := (n6 + 16)) (by omega) (by omega) ?_
          exact hK8 s2.2 h
        · rw [if_neg c13] at h
          refine v_aload_n E dX8_hasLikeAhead_29 rfl ?_
          replace h := bnd_e h
          obtain ⟨r9, er9, h⟩ := h
          refine v_callV (na := 0) (As := []) (rest := []) (ci := 10) (q := (RX10, TX10, 3)) E gw8_36 (by decide +kernel) rfl rfl (by decide) (kX10_row l er9).2 (kX10_row l er9).1 rfl rfl dX8_hasLikeAhead_30 ⟨Nat.le_of_ble_eq_true rfl, Nat.le_of_ble_eq_true rfl⟩ ⟨(by dsimp only; omega), (by dsimp only; omega)⟩ (Nat.le_of_ble_eq_true rfl) ?_
          refine v_aload E dX8_hasLikeAhead_33 rfl ?_
          replace h := bnd_e h
          obtain ⟨r10, er10, h⟩ := h
          refine v_callV (na := 0) (As := []) (rest := [vR r9]) (ci := 10) (q := (RX10, TX10, 3)) E gw8_36 (by decide +kernel) rfl rfl (by decide) (kX10_row l er10).2 (kX10_row l er10).1 rfl rfl dX8_hasLikeAhead_35 ⟨Nat.le_of_ble_eq_true rfl, Nat.le_of_ble_eq_true rfl⟩ ⟨(by dsimp only; omega), (by dsimp only; omega)⟩ (Nat.le_of_ble_eq_true rfl) ?_
          replace h := bnd_e h
          obtain ⟨r11, er11, h⟩ := h
          refine v_callV (na := 1) (As := [vR r10]) (rest := []) (ci := 7) (q := (RX7, TX7, 14)) E gw8_40 (by decide +kernel) rfl rfl (by decide) (kX7_isLike l er11).2 (kX7_isLike l er11).1 rfl rfl dX8_hasLikeAhead_38 ⟨Nat.le_of_ble_eq_true rfl, Nat.le_of_ble_eq_true rfl⟩ ⟨(by dsimp only; omega), (by dsimp only; omega)⟩ (Nat.le_of_ble_eq_true rfl) ?_
          refine v_widen (k' := (k5 + 2)) (n' := (n6 + 16)) (by omega) (by omega) ?_
          refine v_if_eq (tgt := 46) E dX8_hasLikeAhead_41 (by decide) (fun c12 => ?_) (fun c12 => ?_)
          · rw [if_pos c12] at h
            refine v_drop (lv' := [some (vR (some o1)), some (vI a1), some (vR r1), some (vI s2.1), none]) [4] rfl ?_
            exact hK8 r11.2 h
          · rw [if_neg c12] at h
            refine v_iconst (v := 1) E dX8_hasLikeAhead_44 (by decide) ?_
            replace h := Option.some.inj h
            subst h
            have hx : _ = r := hx
            subst hx
            refine v_widen (k' := 14) (n' := 112) (by omega) (by omega) ?_
            exact v_zret E (Or.inr rfl) dX8_hasLikeAhead_45
  · cases t3 with
    | inl t3 =>
      dsimp only [sm] at h
      refine v_iconst (v := 0) E dX8_hasLikeAhead_52 (by decide) ?_
      replace h := Option.some.inj h
      subst h
      refine v_widen (k' := 14) (n' := 112) (Nat.le_of_ble_eq_true rfl) (Nat.le_of_ble_eq_true rfl) ?_
      exact v_zret E (Or.inl rfl) dX8_hasLikeAhead_53
    | inr z =>
      exact Option.some.inj h
noncomputable def fX8_unlike (A0 : AH) (o0 : Option Nat) : Option (Int32 × AH) :=
  (rcv A0 9 o0).bind fun o0 =>
  (itN (S := Int32 × Int32 × AH) (T := Int32 × AH) (fun s1 =>
      (gI s1.2.2 9 257 ((some o0))).bind fun v6 =>
      if v6 ≤ s1.2.1 then
        some (.inr (s1.1, s1.2.2))
      else
        (fX8_hasLikeAhead s1.2.2 ((some o0)) s1.2.1).bind fun r7 =>
        jp (fun (x10 : Int32) =>
          some (.inl (x10, (s1.2.1 + 1), r7.2))) fun K8 =>
          if r7.1 = 0 then
            K8 ((s1.1 + 1))
          else
            K8 s1.1) 7 (0, 0, A0)).bind fun t2 =>
  some ((t2.1, t2.2))
set_option maxRecDepth 100000 in
set_option maxHeartbeats 4000000 in
theorem kX8_unlike (l : Launch) {A0 : AH} {o0 : Option Nat} {r : Int32 × AH} (h : fX8_unlike A0 o0 = some r) : (∃ a, o0 = some a ∧ Hk A0 a = 9) ∧ Cn l yX8_unlike cX8_unlike 3 (some .int) 5 122 98 784 [vR o0] A0 (some (vI r.1)) r.2 := by
  unfold fX8_unlike at h
  replace h := bnd_e h
  obtain ⟨o1, e1, h⟩ := h
  obtain ⟨rfl, hk0⟩ := rcv_e e1
  refine ⟨⟨o1, rfl, hk0⟩, ?_⟩
  refine Cn.of (pad := 2) (lv0 := [some (vR (some o1)), none, none]) (by decide +kernel) (Nat.le_of_ble_eq_true rfl) rfl ?_
  intro p e s m below meth c base D cy E
  generalize (List.map toV [vR (some o1)]).toArray = ar at E ⊢
  have E : EN p s m ar meth c D cy RX8 cX8_unlike 3 (some .int) "unlike" := E
  refine v_iconst (v := 0) E dX8_unlike_0 (by decide) ?_
  refine v_istore_n (lv' := [some (vR (some o1)), some (vI 0), none]) E dX8_unlike_1 (by decide) rfl ?_
  refine v_iconst (v := 0) E dX8_unlike_2 (by decide) ?_
  refine v_istore_n (lv' := [some (vR (some o1)), some (vI 0), some (vI 0)]) E dX8_unlike_3 (by decide) rfl ?_
  replace h := bnd_e h
  obtain ⟨t2, et2, h⟩ := h
  refine itB_V (S := Int32 × Int32 × AH) (T := Int32 × AH) (c := 14) (d := 112) (Ph := fun k4 n5 s1 => V p l e { frames := 5, cells := 98, slots := 784, locals := 122 } s m ar below meth c (MQ below (Qd base D cy (some (vI r.1)) r.2) ar s 98 784 (fun q => base ≤ q)) base D cy 3 4 [some (vR (some o1)), some (vI s1.1), some (vI s1.2.1)] [] s1.2.2 k4 n5) (Pt := fun t2 => V p l e { frames := 5, cells := 98, slots := 784, locals := 122 } s m ar below meth c (MQ below (Qd base D cy (some (vI r.1)) r.2) ar s 98 784 (fun q => base ≤ q)) base D cy 3 29 [none, some (vI t2.1), none] [] t2.2 98 784) 7 et2 (fun k4 n5 s1 w3 hkq hnq h hx => ?_) ?_
  · try dsimp only at h
    refine v_iload_n E dX8_unlike_4 rfl ?_
    refine v_aload_n E dX8_unlike_5 rfl ?_
    replace h := bnd_e h
    obtain ⟨v6, ev6, h⟩ := h
    refine g8_17 E ev6 dX8_unlike_6 ?_
    refine v_icmp_ge (tgt := 29) E dX8_unlike_9 (by decide) (fun c11 => ?_) (fun c11 => ?_)
    · rw [if_pos c11] at h
      refine v_drop (lv' := [none, some (vI s1.1), none]) [0, 2] rfl ?_
      refine v_widen (k' := 98) (n' := 784) (by omega) (by omega) ?_
      replace h := Option.some.inj h
      subst h
      exact hx
    · rw [if_neg c11] at h
      refine v_aload_n E dX8_unlike_12 rfl ?_
      refine v_iload_n E dX8_unlike_13 rfl ?_
      replace h := bnd_e h
      obtain ⟨r7, er7, h⟩ := h
      refine v_callV (na := 1) (As := [vI s1.2.1]) (rest := []) (ci := 8) (q := (RX8, TX8, 2)) E gw8_32 (by decide +kernel) rfl rfl (by decide) (kX8_hasLikeAhead l er7).2 (kX8_hasLikeAhead l er7).1 rfl rfl dX8_unlike_14 ⟨Nat.le_of_ble_eq_true rfl, Nat.le_of_ble_eq_true rfl⟩ ⟨(by dsimp only; omega), (by dsimp only; omega)⟩ (Nat.le_of_ble_eq_true rfl) ?_
      refine v_widen (k' := (k4 + 14)) (n' := (n5 + 112)) (by omega) (by omega) ?_
      refine jp_use h (fun K8 eK8 h => ?_)
      have hK8 : ∀ x10 : Int32, K8 x10 = some w3 → V p l e { frames := 5, cells := 98, slots := 784, locals := 122 } s m ar below meth c (MQ below (Qd base D cy (some (vI r.1)) r.2) ar s 98 784 (fun q => base ≤ q)) base D cy 3 23 [some (vR (some o1)), some (vI x10), some (vI s1.2.1)] [] r7.2 (k4 + 14) (n5 + 112) := by
        intro x10 h
        rw [eK8] at h
        try dsimp only at h
        refine v_iinc (v := (s1.2.1 + 1)) (lv' := [some (vR (some o1)), some (vI x10), some (vI (s1.2.1 + 1))]) E dX8_unlike_23 rfl (by rfl) (by decide) rfl ?_
        refine v_goto (tgt := 4) E dX8_unlike_26 (by decide) ?_
        refine v_widen (k' := k4 + 14) (n' := n5 + 112) (by omega) (by omega) ?_
        replace h := Option.some.inj h
        subst h
        exact hx
      refine v_if_ne (tgt := 23) E dX8_unlike_17 (by decide) (fun c9 => ?_) (fun c9 => ?_)
      · rw [if_neg c9] at h
        exact hK8 s1.1 h
      · rw [if_pos c9] at h
        refine v_iinc (v := (s1.1 + 1)) (lv' := [some (vR (some o1)), some (vI (s1.1 + 1)), some (vI s1.2.1)]) E dX8_unlike_20 rfl (by rfl) (by decide) rfl ?_
        exact hK8 ((s1.1 + 1)) h
  · refine v_iload_n E dX8_unlike_29 rfl ?_
    replace h := Option.some.inj h
    subst h
    refine v_widen (k' := 98) (n' := 784) (Nat.le_of_ble_eq_true rfl) (Nat.le_of_ble_eq_true rfl) ?_
    exact v_iret E dX8_unlike_30
noncomputable def fX0_count (A0 : AH) (o0 : Option Nat) : Option (Int32) :=
  (rcv A0 1 o0).bind fun o0 =>
  (gI A0 1 2 ((some o0))).bind fun v1 =>
  some v1
set_option maxRecDepth 100000 in
set_option maxHeartbeats 4000000 in
theorem kX0_count (l : Launch) {A0 : AH} {o0 : Option Nat} {r : Int32} (h : fX0_count A0 o0 = some r) : (∃ a, o0 = some a ∧ Hk A0 a = 1) ∧ Cn l yX0_count cX0_count 1 (some .int) 0 0 0 0 [vR o0] A0 (some (vI r)) A0 := by
  unfold fX0_count at h
  replace h := bnd_e h
  obtain ⟨o1, e1, h⟩ := h
  obtain ⟨rfl, hk0⟩ := rcv_e e1
  refine ⟨⟨o1, rfl, hk0⟩, ?_⟩
  refine Cn.of (pad := 0) (lv0 := [some (vR (some o1))]) (by decide +kernel) (Nat.le_of_ble_eq_true rfl) rfl ?_
  intro p e s m below meth c base D cy E
  generalize (List.map toV [vR (some o1)]).toArray = ar at E ⊢
  have E : EN p s m ar meth c D cy RX0 cX0_count 1 (some .int) "count" := E
  refine v_aload_n E dX0_count_0 rfl ?_
  replace h := bnd_e h
  obtain ⟨v1, ev1, h⟩ := h
  refine g0_18 E ev1 dX0_count_1 ?_
  replace h := Option.some.inj h
  subst h
  refine v_widen (k' := 0) (n' := 0) (Nat.le_of_ble_eq_true rfl) (Nat.le_of_ble_eq_true rfl) ?_
  exact v_iret E dX0_count_4
noncomputable def fX4_scatter (A0 : AH) (o0 : Option Nat) (a1 : Int32) : Option (AH) :=
  (rcv A0 5 o0).bind fun o0 =>
  (gR A0 5 128 ((some o0))).bind fun v1 =>
  (aL A0 14 v1).bind fun v2 =>
  (fJ9_min_7cf53 A0 a1 v2).bind fun r3 =>
  (fJ9_max_7cf53 A0 0 r3).bind fun r4 =>
  (pI A0 5 129 ((some o0)) r4).bind fun A5 =>
  (gI A5 5 129 ((some o0))).bind fun v6 =>
  (pI A5 5 130 ((some o0)) v6).bind fun A7 =>
  (iter (S := Int32 × AH) (T := AH) (fun s8 =>
      (gI s8.2 5 129 ((some o0))).bind fun v11 =>
      if v11 ≤ s8.1 then
        some (.inr s8.2)
      else
        (gR s8.2 5 128 ((some o0))).bind fun v12 =>
        (sI s8.2 14 v12 s8.1 s8.1).bind fun A13 =>
        some (.inl ((s8.1 + 1), A13))) (0, A7)).bind fun t9 =>
  some t9
set_option maxRecDepth 100000 in
set_option maxHeartbeats 4000000 in
theorem kX4_scatter (l : Launch) {A0 : AH} {o0 : Option Nat} {a1 : Int32} {r : AH} (h : fX4_scatter A0 o0 a1 = some r) : (∃ a, o0 = some a ∧ Hk A0 a = 5) ∧ Cn l yX4_scatter cX4_scatter 3 none 1 21 0 0 [vR o0, vI a1] A0 none r := by
  unfold fX4_scatter at h
  replace h := bnd_e h
  obtain ⟨o1, e1, h⟩ := h
  obtain ⟨rfl, hk0⟩ := rcv_e e1
  refine ⟨⟨o1, rfl, hk0⟩, ?_⟩
  refine Cn.of (pad := 1) (lv0 := [some (vR (some o1)), some (vI a1), none]) (by decide +kernel) (Nat.le_of_ble_eq_true rfl) rfl ?_
  intro p e s m below meth c base D cy E
  generalize (List.map toV [vR (some o1), vI a1]).toArray = ar at E ⊢
  have E : EN p s m ar meth c D cy RX4 cX4_scatter 3 none "scatter" := E
  refine v_aload_n E dX4_scatter_0 rfl ?_
  refine v_iconst (v := 0) E dX4_scatter_1 (by decide) ?_
  refine v_iload_n E dX4_scatter_2 rfl ?_
  refine v_aload_n E dX4_scatter_3 rfl ?_
  replace h := bnd_e h
  obtain ⟨v1, ev1, h⟩ := h
  refine g4_9 E ev1 dX4_scatter_4 ?_
  replace h := bnd_e h
  obtain ⟨v2, ev2, h⟩ := h
  refine v_alen (kd := 14) (t0 := 0) E (by decide) rfl ev2 dX4_scatter_7 ?_
  replace h := bnd_e h
  obtain ⟨r3, er3, h⟩ := h
  refine v_callS (na := 2) (As := [vI a1, vI v2]) (rest := [vI 0, vR (some o1)]) E gw4_22 (by decide +kernel) (kJ9_min_7cf53 l er3) rfl rfl dX4_scatter_8 ⟨Nat.le_of_ble_eq_true rfl, Nat.le_of_ble_eq_true rfl⟩ ⟨(Nat.le_of_ble_eq_true rfl), (Nat.le_of_ble_eq_true rfl)⟩ (Nat.le_of_ble_eq_true rfl) ?_
  replace h := bnd_e h
  obtain ⟨r4, er4, h⟩ := h
  refine v_callS (na := 2) (As := [vI 0, vI r3]) (rest := [vR (some o1)]) E gw4_28 (by decide +kernel) (kJ9_max_7cf53 l er4) rfl rfl dX4_scatter_11 ⟨Nat.le_of_ble_eq_true rfl, Nat.le_of_ble_eq_true rfl⟩ ⟨(Nat.le_of_ble_eq_true rfl), (Nat.le_of_ble_eq_true rfl)⟩ (Nat.le_of_ble_eq_true rfl) ?_
  replace h := bnd_e h
  obtain ⟨A5, eA5, h⟩ := h
  refine p4_15 E eA5 dX4_scatter_14 ?_
  refine v_aload_n E dX4_scatter_17 rfl ?_
  refine v_aload_n E dX4_scatter_18 rfl ?_
  replace h := bnd_e h
  obtain ⟨v6, ev6, h⟩ := h
  refine g4_15 E ev6 dX4_scatter_19 ?_
  replace h := bnd_e h
  obtain ⟨A7, eA7, h⟩ := h
  refine p4_19 E eA7 dX4_scatter_22 ?_
  refine v_iconst (v := 0) E dX4_scatter_25 (by decide) ?_
  refine v_istore_n (lv' := [some (vR (some o1)), some (vI a1), some (vI 0)]) E dX4_scatter_26 (by decide) rfl ?_
  refine v_drop (lv' := [some (vR (some o1)), none, some (vI 0)]) [1] rfl ?_
  replace h := bnd_e h
  obtain ⟨t9, et9, h⟩ := h
  refine iter_V (S := Int32 × AH) (T := AH) (Ph := fun s8 => V p l e { frames := 1, cells := 0, slots := 0, locals := 21 } s m ar below meth c (MQ below (Qd base D cy none r) ar s 0 0 (fun q => base ≤ q)) base D cy 3 27 [some (vR (some o1)), none, some (vI s8.1)] [] s8.2 0 0) (Pt := fun t9 => V p l e { frames := 1, cells := 0, slots := 0, locals := 21 } s m ar below meth c (MQ below (Qd base D cy none r) ar s 0 0 (fun q => base ≤ q)) base D cy 3 48 [none, none, none] [] t9 0 0) et9 (fun s8 w10 h hx => ?_) ?_
  · try dsimp only at h
    refine v_iload_n E dX4_scatter_27 rfl ?_
    refine v_aload_n E dX4_scatter_28 rfl ?_
    replace h := bnd_e h
    obtain ⟨v11, ev11, h⟩ := h
    refine g4_15 E ev11 dX4_scatter_29 ?_
    refine v_icmp_ge (tgt := 48) E dX4_scatter_32 (by decide) (fun c14 => ?_) (fun c14 => ?_)
    · rw [if_pos c14] at h
      refine v_drop (lv' := [none, none, none]) [0, 2] rfl ?_
      replace h := Option.some.inj h
      subst h
      exact hx
    · rw [if_neg c14] at h
      refine v_aload_n E dX4_scatter_35 rfl ?_
      replace h := bnd_e h
      obtain ⟨v12, ev12, h⟩ := h
      refine g4_9 E ev12 dX4_scatter_36 ?_
      refine v_iload_n E dX4_scatter_39 rfl ?_
      refine v_iload_n E dX4_scatter_40 rfl ?_
      replace h := bnd_e h
      obtain ⟨A13, eA13, h⟩ := h
      refine v_iastore E eA13 dX4_scatter_41 ?_
      refine v_iinc (v := (s8.1 + 1)) (lv' := [some (vR (some o1)), none, some (vI (s8.1 + 1))]) E dX4_scatter_42 rfl (by rfl) (by decide) rfl ?_
      refine v_goto (tgt := 27) E dX4_scatter_45 (by decide) ?_
      replace h := Option.some.inj h
      subst h
      exact hx
  · replace h := Option.some.inj h
    subst h
    refine v_widen (k' := 0) (n' := 0) (Nat.le_of_ble_eq_true rfl) (Nat.le_of_ble_eq_true rfl) ?_
    exact v_vret E dX4_scatter_48
noncomputable def fX11_isIn (A0 : AH) (a1 : Int32) (a2 : Int32) : Option (Int32) :=
  if (((a1 : Int32) >>> ((a2 : Int32) &&& 31)) &&& 1) = 1 then
    some 1
  else
    some 0
set_option maxRecDepth 100000 in
set_option maxHeartbeats 4000000 in
theorem kX11_isIn (l : Launch) {A0 : AH} {a1 : Int32} {a2 : Int32} {r : Int32} (h : fX11_isIn A0 a1 a2 = some r) : Cn l yX11_isIn cX11_isIn 2 (some .boolean) 0 0 0 0 [vI a1, vI a2] A0 (some (vI r)) A0 := by
  unfold fX11_isIn at h
  refine Cn.of (pad := 0) (lv0 := [some (vI a1), some (vI a2)]) (by decide +kernel) (Nat.le_of_ble_eq_true rfl) rfl ?_
  intro p e s m below meth c base D cy E
  generalize (List.map toV [vI a1, vI a2]).toArray = ar at E ⊢
  have E : EN p s m ar meth c D cy RX11 cX11_isIn 2 (some .boolean) "isIn" := E
  refine v_iload_n E dX11_isIn_0 rfl ?_
  refine v_iload_n E dX11_isIn_1 rfl ?_
  refine v_ishr E dX11_isIn_2 ?_
  refine v_iconst (v := 1) E dX11_isIn_3 (by decide) ?_
  refine v_iand E dX11_isIn_4 ?_
  refine v_iconst (v := 1) E dX11_isIn_5 (by decide) ?_
  refine v_icmp_ne (tgt := 13) E dX11_isIn_6 (by decide) (fun c1 => ?_) (fun c1 => ?_)
  · rw [if_neg c1] at h
    refine v_iconst (v := 0) E dX11_isIn_13 (by decide) ?_
    replace h := Option.some.inj h
    subst h
    refine v_widen (k' := 0) (n' := 0) (Nat.le_of_ble_eq_true rfl) (Nat.le_of_ble_eq_true rfl) ?_
    exact v_zret E (Or.inl rfl) dX11_isIn_14
  · rw [if_pos c1] at h
    refine v_iconst (v := 1) E dX11_isIn_9 (by decide) ?_
    refine v_goto (tgt := 14) E dX11_isIn_10 (by decide) ?_
    replace h := Option.some.inj h
    subst h
    refine v_widen (k' := 0) (n' := 0) (Nat.le_of_ble_eq_true rfl) (Nat.le_of_ble_eq_true rfl) ?_
    exact v_zret E (Or.inr rfl) dX11_isIn_14
noncomputable def fX4_leastWith (A0 : AH) (o0 : Option Nat) (a1 : Int32) : Option (Int32) :=
  (rcv A0 5 o0).bind fun o0 =>
  if a1 < 0 then
    some ((-1))
  else
    (gI A0 5 129 ((some o0))).bind fun v1 =>
    if a1 < v1 then
      (iter (S := Int32 × Int32) (T := Int32) (fun s2 =>
          (gI A0 5 129 ((some o0))).bind fun v5 =>
          if v5 ≤ s2.2 then
            some (.inr s2.1)
          else
            (gR A0 5 128 ((some o0))).bind fun v6 =>
            (aI A0 14 v6 s2.1).bind fun v7 =>
            if v7 = s2.1 then
              some (.inr s2.1)
            else
              (gR A0 5 128 ((some o0))).bind fun v8 =>
              (aI A0 14 v8 s2.1).bind fun v9 =>
              some (.inl (v9, (s2.2 + 1)))) (a1, 0)).bind fun t3 =>
      some t3
    else
      some ((-1))
set_option maxRecDepth 100000 in
set_option maxHeartbeats 4000000 in
theorem kX4_leastWith (l : Launch) {A0 : AH} {o0 : Option Nat} {a1 : Int32} {r : Int32} (h : fX4_leastWith A0 o0 a1 = some r) : (∃ a, o0 = some a ∧ Hk A0 a = 5) ∧ Cn l yX4_leastWith cX4_leastWith 4 (some .int) 0 0 0 0 [vR o0, vI a1] A0 (some (vI r)) A0 := by
  unfold fX4_leastWith at h
  replace h := bnd_e h
  obtain ⟨o1, e1, h⟩ := h
  obtain ⟨rfl, hk0⟩ := rcv_e e1
  refine ⟨⟨o1, rfl, hk0⟩, ?_⟩
  refine Cn.of (pad := 2) (lv0 := [some (vR (some o1)), some (vI a1), none, none]) (by decide +kernel) (Nat.le_of_ble_eq_true rfl) rfl ?_
  intro p e s m below meth c base D cy E
  generalize (List.map toV [vR (some o1), vI a1]).toArray = ar at E ⊢
  have E : EN p s m ar meth c D cy RX4 cX4_leastWith 4 (some .int) "leastWith" := E
  refine v_iload_n E dX4_leastWith_0 rfl ?_
  refine v_if_lt (tgt := 12) E dX4_leastWith_1 (by decide) (fun c14 => ?_) (fun c14 => ?_)
  · rw [if_pos c14] at h
    refine v_iconst (v := (-1)) E dX4_leastWith_12 (by decide) ?_
    replace h := Option.some.inj h
    subst h
    refine v_widen (k' := 0) (n' := 0) (Nat.le_of_ble_eq_true rfl) (Nat.le_of_ble_eq_true rfl) ?_
    exact v_iret E dX4_leastWith_13
  · rw [if_neg c14] at h
    refine v_iload_n E dX4_leastWith_4 rfl ?_
    refine v_aload_n E dX4_leastWith_5 rfl ?_
    replace h := bnd_e h
    obtain ⟨v1, ev1, h⟩ := h
    refine g4_15 E ev1 dX4_leastWith_6 ?_
    refine v_icmp_lt (tgt := 14) E dX4_leastWith_9 (by decide) (fun c13 => ?_) (fun c13 => ?_)
    · rw [if_pos c13] at h
      refine v_iload_n E dX4_leastWith_14 rfl ?_
      refine v_istore_n (lv' := [some (vR (some o1)), some (vI a1), some (vI a1), none]) E dX4_leastWith_15 (by decide) rfl ?_
      refine v_iconst (v := 0) E dX4_leastWith_16 (by decide) ?_
      refine v_istore_n (lv' := [some (vR (some o1)), some (vI a1), some (vI a1), some (vI 0)]) E dX4_leastWith_17 (by decide) rfl ?_
      refine v_drop (lv' := [some (vR (some o1)), none, some (vI a1), some (vI 0)]) [1] rfl ?_
      replace h := bnd_e h
      obtain ⟨t3, et3, h⟩ := h
      refine iter_V (S := Int32 × Int32) (T := Int32) (Ph := fun s2 => V p l e { frames := 0, cells := 0, slots := 0, locals := 0 } s m ar below meth c (MQ below (Qd base D cy (some (vI r)) A0) ar s 0 0 (fun q => base ≤ q)) base D cy 4 18 [some (vR (some o1)), none, some (vI s2.1), some (vI s2.2)] [] A0 0 0) (Pt := fun t3 => V p l e { frames := 0, cells := 0, slots := 0, locals := 0 } s m ar below meth c (MQ below (Qd base D cy (some (vI r)) A0) ar s 0 0 (fun q => base ≤ q)) base D cy 4 49 [none, none, some (vI t3), none] [] A0 0 0) et3 (fun s2 w4 h hx => ?_) ?_
      · try dsimp only at h
        refine v_iload_n E dX4_leastWith_18 rfl ?_
        refine v_aload_n E dX4_leastWith_19 rfl ?_
        replace h := bnd_e h
        obtain ⟨v5, ev5, h⟩ := h
        refine g4_15 E ev5 dX4_leastWith_20 ?_
        refine v_icmp_ge (tgt := 49) E dX4_leastWith_23 (by decide) (fun c11 => ?_) (fun c11 => ?_)
        · rw [if_pos c11] at h
          refine v_drop (lv' := [none, none, some (vI s2.1), none]) [0, 3] rfl ?_
          replace h := Option.some.inj h
          subst h
          exact hx
        · rw [if_neg c11] at h
          refine v_aload_n E dX4_leastWith_26 rfl ?_
          replace h := bnd_e h
          obtain ⟨v6, ev6, h⟩ := h
          refine g4_9 E ev6 dX4_leastWith_27 ?_
          refine v_iload_n E dX4_leastWith_30 rfl ?_
          replace h := bnd_e h
          obtain ⟨v7, ev7, h⟩ := h
          refine v_iaload E ev7 dX4_leastWith_31 ?_
          refine v_iload_n E dX4_leastWith_32 rfl ?_
          refine v_icmp_eq (tgt := 49) E dX4_leastWith_33 (by decide) (fun c10 => ?_) (fun c10 => ?_)
          · rw [if_pos c10] at h
            refine v_drop (lv' := [none, none, some (vI s2.1), none]) [0, 3] rfl ?_
            replace h := Option.some.inj h
            subst h
            exact hx
          · rw [if_neg c10] at h
            refine v_aload_n E dX4_leastWith_36 rfl ?_
            replace h := bnd_e h
            obtain ⟨v8, ev8, h⟩ := h
            refine g4_9 E ev8 dX4_leastWith_37 ?_
            refine v_iload_n E dX4_leastWith_40 rfl ?_
            replace h := bnd_e h
            obtain ⟨v9, ev9, h⟩ := h
            refine v_iaload E ev9 dX4_leastWith_41 ?_
            refine v_istore_n (lv' := [some (vR (some o1)), none, some (vI v9), some (vI s2.2)]) E dX4_leastWith_42 (by decide) rfl ?_
            refine v_iinc (v := (s2.2 + 1)) (lv' := [some (vR (some o1)), none, some (vI v9), some (vI (s2.2 + 1))]) E dX4_leastWith_43 rfl (by rfl) (by decide) rfl ?_
            refine v_goto (tgt := 18) E dX4_leastWith_46 (by decide) ?_
            replace h := Option.some.inj h
            subst h
            exact hx
      · refine v_iload_n E dX4_leastWith_49 rfl ?_
        replace h := Option.some.inj h
        subst h
        refine v_widen (k' := 0) (n' := 0) (Nat.le_of_ble_eq_true rfl) (Nat.le_of_ble_eq_true rfl) ?_
        exact v_iret E dX4_leastWith_50
    · rw [if_neg c13] at h
      refine v_iconst (v := (-1)) E dX4_leastWith_12 (by decide) ?_
      replace h := Option.some.inj h
      subst h
      refine v_widen (k' := 0) (n' := 0) (Nat.le_of_ble_eq_true rfl) (Nat.le_of_ble_eq_true rfl) ?_
      exact v_iret E dX4_leastWith_13
noncomputable def fX4_join (A0 : AH) (o0 : Option Nat) (a1 : Int32) (a2 : Int32) : Option (AH) :=
  (rcv A0 5 o0).bind fun o0 =>
  (fX4_leastWith A0 ((some o0)) a1).bind fun r1 =>
  (fX4_leastWith A0 ((some o0)) a2).bind fun r2 =>
  if r1 = (-1) then
    some A0
  else
    if r2 = (-1) then
      some A0
    else
      if r1 = r2 then
        some A0
      else
        (gR A0 5 128 ((some o0))).bind fun v3 =>
        (fJ9_max_7cf53 A0 r1 r2).bind fun r4 =>
        (fJ9_min_7cf53 A0 r1 r2).bind fun r5 =>
        (sI A0 14 v3 r4 r5).bind fun A6 =>
        (gI A6 5 130 ((some o0))).bind fun v7 =>
        (pI A6 5 130 ((some o0)) ((v7 - 1))).bind fun A8 =>
        some A8
set_option maxRecDepth 100000 in
set_option maxHeartbeats 4000000 in
theorem kX4_join (l : Launch) {A0 : AH} {o0 : Option Nat} {a1 : Int32} {a2 : Int32} {r : AH} (h : fX4_join A0 o0 a1 a2 = some r) : (∃ a, o0 = some a ∧ Hk A0 a = 5) ∧ Cn l yX4_join cX4_join 5 none 1 23 0 0 [vR o0, vI a1, vI a2] A0 none r := by
  unfold fX4_join at h
  replace h := bnd_e h
  obtain ⟨o1, e1, h⟩ := h
  obtain ⟨rfl, hk0⟩ := rcv_e e1
  refine ⟨⟨o1, rfl, hk0⟩, ?_⟩
  refine Cn.of (pad := 2) (lv0 := [some (vR (some o1)), some (vI a1), some (vI a2), none, none]) (by decide +kernel) (Nat.le_of_ble_eq_true rfl) rfl ?_
  intro p e s m below meth c base D cy E
  generalize (List.map toV [vR (some o1), vI a1, vI a2]).toArray = ar at E ⊢
  have E : EN p s m ar meth c D cy RX4 cX4_join 5 none "join" := E
  refine v_aload_n E dX4_join_0 rfl ?_
  refine v_iload_n E dX4_join_1 rfl ?_
  replace h := bnd_e h
  obtain ⟨r1, er1, h⟩ := h
  refine v_callV (na := 1) (As := [vI a1]) (rest := []) (ci := 4) (q := (RX4, TX4, 3)) E gw4_31 (by decide +kernel) rfl rfl (by decide) (kX4_leastWith l er1).2 (kX4_leastWith l er1).1 rfl rfl dX4_join_2 ⟨Nat.le_of_ble_eq_true rfl, Nat.le_of_ble_eq_true rfl⟩ ⟨(Nat.le_of_ble_eq_true rfl), (Nat.le_of_ble_eq_true rfl)⟩ (Nat.le_of_ble_eq_true rfl) ?_
  refine v_istore_n (lv' := [some (vR (some o1)), some (vI a1), some (vI a2), some (vI r1), none]) E dX4_join_5 (by decide) rfl ?_
  refine v_aload_n E dX4_join_6 rfl ?_
  refine v_iload_n E dX4_join_7 rfl ?_
  replace h := bnd_e h
  obtain ⟨r2, er2, h⟩ := h
  refine v_callV (na := 1) (As := [vI a2]) (rest := []) (ci := 4) (q := (RX4, TX4, 3)) E gw4_31 (by decide +kernel) rfl rfl (by decide) (kX4_leastWith l er2).2 (kX4_leastWith l er2).1 rfl rfl dX4_join_8 ⟨Nat.le_of_ble_eq_true rfl, Nat.le_of_ble_eq_true rfl⟩ ⟨(Nat.le_of_ble_eq_true rfl), (Nat.le_of_ble_eq_true rfl)⟩ (Nat.le_of_ble_eq_true rfl) ?_
  refine v_istore (lv' := [some (vR (some o1)), some (vI a1), some (vI a2), some (vI r1), some (vI r2)]) E dX4_join_11 (by decide) rfl ?_
  refine v_iload_n E dX4_join_13 rfl ?_
  refine v_iconst (v := (-1)) E dX4_join_14 (by decide) ?_
  refine v_icmp_eq (tgt := 57) E dX4_join_15 (by decide) (fun c11 => ?_) (fun c11 => ?_)
  · rw [if_pos c11] at h
    replace h := Option.some.inj h
    subst h
    refine v_widen (k' := 0) (n' := 0) (Nat.le_of_ble_eq_true rfl) (Nat.le_of_ble_eq_true rfl) ?_
    exact v_vret E dX4_join_57
  · rw [if_neg c11] at h
    refine v_iload E dX4_join_18 rfl ?_
    refine v_iconst (v := (-1)) E dX4_join_20 (by decide) ?_
    refine v_icmp_eq (tgt := 57) E dX4_join_21 (by decide) (fun c10 => ?_) (fun c10 => ?_)
    · rw [if_pos c10] at h
      replace h := Option.some.inj h
      subst h
      refine v_widen (k' := 0) (n' := 0) (Nat.le_of_ble_eq_true rfl) (Nat.le_of_ble_eq_true rfl) ?_
      exact v_vret E dX4_join_57
    · rw [if_neg c10] at h
      refine v_iload_n E dX4_join_24 rfl ?_
      refine v_iload E dX4_join_25 rfl ?_
      refine v_icmp_eq (tgt := 57) E dX4_join_27 (by decide) (fun c9 => ?_) (fun c9 => ?_)
      · rw [if_pos c9] at h
        replace h := Option.some.inj h
        subst h
        refine v_widen (k' := 0) (n' := 0) (Nat.le_of_ble_eq_true rfl) (Nat.le_of_ble_eq_true rfl) ?_
        exact v_vret E dX4_join_57
      · rw [if_neg c9] at h
        refine v_aload_n E dX4_join_30 rfl ?_
        replace h := bnd_e h
        obtain ⟨v3, ev3, h⟩ := h
        refine g4_9 E ev3 dX4_join_31 ?_
        refine v_iload_n E dX4_join_34 rfl ?_
        refine v_iload E dX4_join_35 rfl ?_
        replace h := bnd_e h
        obtain ⟨r4, er4, h⟩ := h
        refine v_callS (na := 2) (As := [vI r1, vI r2]) (rest := [vR v3]) E gw4_28 (by decide +kernel) (kJ9_max_7cf53 l er4) rfl rfl dX4_join_37 ⟨Nat.le_of_ble_eq_true rfl, Nat.le_of_ble_eq_true rfl⟩ ⟨(Nat.le_of_ble_eq_true rfl), (Nat.le_of_ble_eq_true rfl)⟩ (Nat.le_of_ble_eq_true rfl) ?_
        refine v_iload_n E dX4_join_40 rfl ?_
        refine v_iload E dX4_join_41 rfl ?_
        replace h := bnd_e h
        obtain ⟨r5, er5, h⟩ := h
        refine v_callS (na := 2) (As := [vI r1, vI r2]) (rest := [vI r4, vR v3]) E gw4_22 (by decide +kernel) (kJ9_min_7cf53 l er5) rfl rfl dX4_join_43 ⟨Nat.le_of_ble_eq_true rfl, Nat.le_of_ble_eq_true rfl⟩ ⟨(Nat.le_of_ble_eq_true rfl), (Nat.le_of_ble_eq_true rfl)⟩ (Nat.le_of_ble_eq_true rfl) ?_
        replace h := bnd_e h
        obtain ⟨A6, eA6, h⟩ := h
        refine v_iastore E eA6 dX4_join_46 ?_
        refine v_aload_n E dX4_join_47 rfl ?_
        refine v_dup E dX4_join_48 rfl ?_
        replace h := bnd_e h
        obtain ⟨v7, ev7, h⟩ := h
        refine g4_19 E ev7 dX4_join_49 ?_
        refine v_iconst (v := 1) E dX4_join_52 (by decide) ?_
        refine v_isub E dX4_join_53 ?_
        replace h := bnd_e h
        obtain ⟨A8, eA8, h⟩ := h
        refine p4_19 E eA8 dX4_join_54 ?_
        replace h := Option.some.inj h
        subst h
        refine v_widen (k' := 0) (n' := 0) (Nat.le_of_ble_eq_true rfl) (Nat.le_of_ble_eq_true rfl) ?_
        exact v_vret E dX4_join_57
noncomputable def fX4_count (A0 : AH) (o0 : Option Nat) : Option (Int32) :=
  (rcv A0 5 o0).bind fun o0 =>
  (gI A0 5 130 ((some o0))).bind fun v1 =>
  some v1
set_option maxRecDepth 100000 in
set_option maxHeartbeats 4000000 in
theorem kX4_count (l : Launch) {A0 : AH} {o0 : Option Nat} {r : Int32} (h : fX4_count A0 o0 = some r) : (∃ a, o0 = some a ∧ Hk A0 a = 5) ∧ Cn l yX4_count cX4_count 1 (some .int) 0 0 0 0 [vR o0] A0 (some (vI r)) A0 := by
  unfold fX4_count at h
  replace h := bnd_e h
  obtain ⟨o1, e1, h⟩ := h
  obtain ⟨rfl, hk0⟩ := rcv_e e1
  refine ⟨⟨o1, rfl, hk0⟩, ?_⟩
  refine Cn.of (pad := 0) (lv0 := [some (vR (some o1))]) (by decide +kernel) (Nat.le_of_ble_eq_true rfl) rfl ?_
  intro p e s m below meth c base D cy E
  generalize (List.map toV [vR (some o1)]).toArray = ar at E ⊢
  have E : EN p s m ar meth c D cy RX4 cX4_count 1 (some .int) "count" := E
  refine v_aload_n E dX4_count_0 rfl ?_
  replace h := bnd_e h
  obtain ⟨v1, ev1, h⟩ := h
  refine g4_19 E ev1 dX4_count_1 ?_
  replace h := Option.some.inj h
  subst h
  refine v_widen (k' := 0) (n' := 0) (Nat.le_of_ble_eq_true rfl) (Nat.le_of_ble_eq_true rfl) ?_
  exact v_iret E dX4_count_4
noncomputable def fX7_ringsOf (A0 : AH) (o0 : Option Nat) (a1 : Int32) (a2 : Option Nat) : Option (Int32 × AH) :=
  (rcv A0 8 o0).bind fun o0 =>
  (gI A0 8 224 ((some o0))).bind fun v1 =>
  if v1 = 0 then
    some ((1, A0))
  else
    (gI A0 8 225 ((some o0))).bind fun v2 =>
    (fX4_scatter A0 a2 v2).bind fun r3 =>
    (iter (S := Int32 × AH) (T := AH) (fun s4 =>
        (gI s4.2 8 224 ((some o0))).bind fun v7 =>
        if v7 ≤ s4.1 then
          some (.inr s4.2)
        else
          (gR s4.2 8 227 ((some o0))).bind fun v8 =>
          (aI s4.2 14 v8 s4.1).bind fun v9 =>
          (gR s4.2 8 228 ((some o0))).bind fun v10 =>
          (aI s4.2 14 v10 s4.1).bind fun v11 =>
          (fX7_placeAhead s4.2 ((some o0)) v9).bind fun r12 =>
          (fX7_placeAhead s4.2 ((some o0)) v11).bind fun r13 =>
          (fX11_isIn s4.2 a1 s4.1).bind fun r14 =>
          jp1 (α := Int32) (if r14 = 0 then
              v11
            else
              r13) fun x17 =>
          (fX4_join s4.2 a2 r12 x17).bind fun r18 =>
            jp1 (α := Int32) (if r14 = 0 then
                r13
              else
                v11) fun x21 =>
            (fX4_join r18 a2 v9 x21).bind fun r22 =>
              some (.inl ((s4.1 + 1), r22))) (0, r3)).bind fun t5 =>
    (fX4_count t5 a2).bind fun r24 =>
    some ((r24, t5))
set_option maxRecDepth 100000 in
set_option maxHeartbeats 4000000 in
theorem kX7_ringsOf (l : Launch) {A0 : AH} {o0 : Option Nat} {a1 : Int32} {a2 : Option Nat} {r : Int32 × AH} (h : fX7_ringsOf A0 o0 a1 a2 = some r) : (∃ a, o0 = some a ∧ Hk A0 a = 8) ∧ Cn l yX7_ringsOf cX7_ringsOf 9 (some .int) 2 47 0 0 [vR o0, vI a1, vR a2] A0 (some (vI r.1)) r.2 := by
  unfold fX7_ringsOf at h
  replace h := bnd_e h
  obtain ⟨o1, e1, h⟩ := h
  obtain ⟨rfl, hk0⟩ := rcv_e e1
  refine ⟨⟨o1, rfl, hk0⟩, ?_⟩
  refine Cn.of (pad := 6) (lv0 := [some (vR (some o1)), some (vI a1), some (vR a2), none, none, none, none, none, none]) (by decide +kernel) (Nat.le_of_ble_eq_true rfl) rfl ?_
  intro p e s m below meth c base D cy E
  generalize (List.map toV [vR (some o1), vI a1, vR a2]).toArray = ar at E ⊢
  have E : EN p s m ar meth c D cy RX7 cX7_ringsOf 9 (some .int) "ringsOf" := E
  refine v_aload_n E dX7_ringsOf_0 rfl ?_
  replace h := bnd_e h
  obtain ⟨v1, ev1, h⟩ := h
  refine g7_45 E ev1 dX7_ringsOf_1 ?_
  refine v_if_ne (tgt := 9) E dX7_ringsOf_4 (by decide) (fun c26 => ?_) (fun c26 => ?_)
  · rw [if_neg c26] at h
    refine v_aload_n E dX7_ringsOf_9 rfl ?_
    refine v_aload_n E dX7_ringsOf_10 rfl ?_
    replace h := bnd_e h
    obtain ⟨v2, ev2, h⟩ := h
    refine g7_48 E ev2 dX7_ringsOf_11 ?_
    replace h := bnd_e h
    obtain ⟨r3, er3, h⟩ := h
    refine v_callV (na := 1) (As := [vI v2]) (rest := []) (ci := 4) (q := (RX4, TX4, 3)) E gw7_98 (by decide +kernel) rfl rfl (by decide) (kX4_scatter l er3).2 (kX4_scatter l er3).1 rfl rfl dX7_ringsOf_14 ⟨Nat.le_of_ble_eq_true rfl, Nat.le_of_ble_eq_true rfl⟩ ⟨(Nat.le_of_ble_eq_true rfl), (Nat.le_of_ble_eq_true rfl)⟩ (Nat.le_of_ble_eq_true rfl) ?_
    refine v_iconst (v := 0) E dX7_ringsOf_17 (by decide) ?_
    refine v_istore_n (lv' := [some (vR (some o1)), some (vI a1), some (vR a2), some (vI 0), none, none, none, none, none]) E dX7_ringsOf_18 (by decide) rfl ?_
    replace h := bnd_e h
    obtain ⟨t5, et5, h⟩ := h
    refine iter_V (S := Int32 × AH) (T := AH) (Ph := fun s4 => V p l e { frames := 2, cells := 0, slots := 0, locals := 47 } s m ar below meth c (MQ below (Qd base D cy (some (vI r.1)) r.2) ar s 0 0 (fun q => base ≤ q)) base D cy 9 19 [some (vR (some o1)), some (vI a1), some (vR a2), some (vI s4.1), none, none, none, none, none] [] s4.2 0 0) (Pt := fun t5 => V p l e { frames := 2, cells := 0, slots := 0, locals := 47 } s m ar below meth c (MQ below (Qd base D cy (some (vI r.1)) r.2) ar s 0 0 (fun q => base ≤ q)) base D cy 9 108 [none, none, some (vR a2), none, none, none, none, none, none] [] t5 0 0) et5 (fun s4 w6 h hx => ?_) ?_
    · try dsimp only at h
      refine v_iload_n E dX7_ringsOf_19 rfl ?_
      refine v_aload_n E dX7_ringsOf_20 rfl ?_
      replace h := bnd_e h
      obtain ⟨v7, ev7, h⟩ := h
      refine g7_45 E ev7 dX7_ringsOf_21 ?_
      refine v_icmp_ge (tgt := 108) E dX7_ringsOf_24 (by decide) (fun c23 => ?_) (fun c23 => ?_)
      · rw [if_pos c23] at h
        refine v_drop (lv' := [none, none, some (vR a2), none, none, none, none, none, none]) [0, 1, 3] rfl ?_
        replace h := Option.some.inj h
        subst h
        exact hx
      · rw [if_neg c23] at h
        refine v_aload_n E dX7_ringsOf_27 rfl ?_
        replace h := bnd_e h
        obtain ⟨v8, ev8, h⟩ := h
        refine g7_54 E ev8 dX7_ringsOf_28 ?_
        refine v_iload_n E dX7_ringsOf_31 rfl ?_
        replace h := bnd_e h
        obtain ⟨v9, ev9, h⟩ := h
        refine v_iaload E ev9 dX7_ringsOf_32 ?_
        refine v_istore (lv' := [some (vR (some o1)), some (vI a1), some (vR a2), some (vI s4.1), some (vI v9), none, none, none, none]) E dX7_ringsOf_33 (by decide) rfl ?_
        refine v_aload_n E dX7_ringsOf_35 rfl ?_
        replace h := bnd_e h
        obtain ⟨v10, ev10, h⟩ := h
        refine g7_57 E ev10 dX7_ringsOf_36 ?_
        refine v_iload_n E dX7_ringsOf_39 rfl ?_
        replace h := bnd_e h
        obtain ⟨v11, ev11, h⟩ := h
        refine v_iaload E ev11 dX7_ringsOf_40 ?_
        refine v_istore (lv' := [some (vR (some o1)), some (vI a1), some (vR a2), some (vI s4.1), some (vI v9), some (vI v11), none, none, none]) E dX7_ringsOf_41 (by decide) rfl ?_
        refine v_aload_n E dX7_ringsOf_43 rfl ?_
        refine v_iload E dX7_ringsOf_44 rfl ?_
        replace h := bnd_e h
        obtain ⟨r12, er12, h⟩ := h
        refine v_callV (na := 1) (As := [vI v9]) (rest := []) (ci := 7) (q := (RX7, TX7, 14)) E gw7_147 (by decide +kernel) rfl rfl (by decide) (kX7_placeAhead l er12).2 (kX7_placeAhead l er12).1 rfl rfl dX7_ringsOf_46 ⟨Nat.le_of_ble_eq_true rfl, Nat.le_of_ble_eq_true rfl⟩ ⟨(Nat.le_of_ble_eq_true rfl), (Nat.le_of_ble_eq_true rfl)⟩ (Nat.le_of_ble_eq_true rfl) ?_
        refine v_istore (lv' := [some (vR (some o1)), some (vI a1), some (vR a2), some (vI s4.1), some (vI v9), some (vI v11), some (vI r12), none, none]) E dX7_ringsOf_49 (by decide) rfl ?_
        refine v_aload_n E dX7_ringsOf_51 rfl ?_
        refine v_iload E dX7_ringsOf_52 rfl ?_
        replace h := bnd_e h
        obtain ⟨r13, er13, h⟩ := h
        refine v_callV (na := 1) (As := [vI v11]) (rest := []) (ci := 7) (q := (RX7, TX7, 14)) E gw7_147 (by decide +kernel) rfl rfl (by decide) (kX7_placeAhead l er13).2 (kX7_placeAhead l er13).1 rfl rfl dX7_ringsOf_54 ⟨Nat.le_of_ble_eq_true rfl, Nat.le_of_ble_eq_true rfl⟩ ⟨(Nat.le_of_ble_eq_true rfl), (Nat.le_of_ble_eq_true rfl)⟩ (Nat.le_of_ble_eq_true rfl) ?_
        refine v_istore (lv' := [some (vR (some o1)), some (vI a1), some (vR a2), some (vI s4.1), some (vI v9), some (vI v11), some (vI r12), some (vI r13), none]) E dX7_ringsOf_57 (by decide) rfl ?_
        refine v_iload_n E dX7_ringsOf_59 rfl ?_
        refine v_iload_n E dX7_ringsOf_60 rfl ?_
        replace h := bnd_e h
        obtain ⟨r14, er14, h⟩ := h
        refine v_callSN (na := 2) (As := [vI a1, vI s4.1]) (rest := []) E gw7_104 gn7_104 q489 q86 (by decide +kernel) (kX11_isIn l er14) rfl rfl dX7_ringsOf_61 ⟨Nat.le_of_ble_eq_true rfl, Nat.le_of_ble_eq_true rfl⟩ ⟨(Nat.le_of_ble_eq_true rfl), (Nat.le_of_ble_eq_true rfl)⟩ (Nat.le_of_ble_eq_true rfl) ?_
        refine v_istore (lv' := [some (vR (some o1)), some (vI a1), some (vR a2), some (vI s4.1), some (vI v9), some (vI v11), some (vI r12), some (vI r13), some (vI r14)]) E dX7_ringsOf_64 (by decide) rfl ?_
        refine v_aload_n E dX7_ringsOf_66 rfl ?_
        refine v_iload E dX7_ringsOf_67 rfl ?_
        refine v_iload E dX7_ringsOf_69 rfl ?_
        refine jp1_use h (fun K15 eK15 h => ?_)
        have hK15 : ∀ x17 : Int32, K15 x17 = some w6 → V p l e { frames := 2, cells := 0, slots := 0, locals := 47 } s m ar below meth c (MQ below (Qd base D cy (some (vI r.1)) r.2) ar s 0 0 (fun q => base ≤ q)) base D cy 9 81 [some (vR (some o1)), some (vI a1), some (vR a2), some (vI s4.1), some (vI v9), some (vI v11), none, some (vI r13), some (vI r14)] [vI x17, vI r12, vR a2] s4.2 0 0 := by
          intro x17 h
          rw [eK15] at h
          try dsimp only at h
          replace h := bnd_e h
          obtain ⟨r18, er18, h⟩ := h
          refine v_callV (na := 2) (As := [vI r12, vI x17]) (rest := []) (ci := 4) (q := (RX4, TX4, 3)) E gw7_107 (by decide +kernel) rfl rfl (by decide) (kX4_join l er18).2 (kX4_join l er18).1 rfl rfl dX7_ringsOf_81 ⟨Nat.le_of_ble_eq_true rfl, Nat.le_of_ble_eq_true rfl⟩ ⟨(Nat.le_of_ble_eq_true rfl), (Nat.le_of_ble_eq_true rfl)⟩ (Nat.le_of_ble_eq_true rfl) ?_
          refine v_aload_n E dX7_ringsOf_84 rfl ?_
          refine v_iload E dX7_ringsOf_85 rfl ?_
          refine v_iload E dX7_ringsOf_87 rfl ?_
          refine jp1_use h (fun K19 eK19 h => ?_)
          have hK19 : ∀ x21 : Int32, K19 x21 = some w6 → V p l e { frames := 2, cells := 0, slots := 0, locals := 47 } s m ar below meth c (MQ below (Qd base D cy (some (vI r.1)) r.2) ar s 0 0 (fun q => base ≤ q)) base D cy 9 99 [some (vR (some o1)), some (vI a1), some (vR a2), some (vI s4.1), none, none, none, none, none] [vI x21, vI v9, vR a2] r18 0 0 := by
            intro x21 h
            rw [eK19] at h
            try dsimp only at h
            replace h := bnd_e h
            obtain ⟨r22, er22, h⟩ := h
            refine v_callV (na := 2) (As := [vI v9, vI x21]) (rest := []) (ci := 4) (q := (RX4, TX4, 3)) E gw7_107 (by decide +kernel) rfl rfl (by decide) (kX4_join l er22).2 (kX4_join l er22).1 rfl rfl dX7_ringsOf_99 ⟨Nat.le_of_ble_eq_true rfl, Nat.le_of_ble_eq_true rfl⟩ ⟨(Nat.le_of_ble_eq_true rfl), (Nat.le_of_ble_eq_true rfl)⟩ (Nat.le_of_ble_eq_true rfl) ?_
            refine v_iinc (v := (s4.1 + 1)) (lv' := [some (vR (some o1)), some (vI a1), some (vR a2), some (vI (s4.1 + 1)), none, none, none, none, none]) E dX7_ringsOf_102 rfl (by rfl) (by decide) rfl ?_
            refine v_goto (tgt := 19) E dX7_ringsOf_105 (by decide) ?_
            replace h := Option.some.inj h
            subst h
            exact hx
          refine v_if_eq (tgt := 97) E dX7_ringsOf_89 (by decide) (fun c20 => ?_) (fun c20 => ?_)
          · rw [if_pos c20] at h
            refine v_iload E dX7_ringsOf_97 rfl ?_
            refine v_drop (lv' := [some (vR (some o1)), some (vI a1), some (vR a2), some (vI s4.1), none, none, none, none, none]) [4, 5, 7, 8] rfl ?_
            exact hK19 r13 h
          · rw [if_neg c20] at h
            refine v_iload E dX7_ringsOf_92 rfl ?_
            refine v_goto (tgt := 99) E dX7_ringsOf_94 (by decide) ?_
            refine v_drop (lv' := [some (vR (some o1)), some (vI a1), some (vR a2), some (vI s4.1), none, none, none, none, none]) [4, 5, 7, 8] rfl ?_
            exact hK19 v11 h
        refine v_if_eq (tgt := 79) E dX7_ringsOf_71 (by decide) (fun c16 => ?_) (fun c16 => ?_)
        · rw [if_pos c16] at h
          refine v_iload E dX7_ringsOf_79 rfl ?_
          refine v_drop (lv' := [some (vR (some o1)), some (vI a1), some (vR a2), some (vI s4.1), some (vI v9), some (vI v11), none, some (vI r13), some (vI r14)]) [6] rfl ?_
          exact hK15 v11 h
        · rw [if_neg c16] at h
          refine v_iload E dX7_ringsOf_74 rfl ?_
          refine v_goto (tgt := 81) E dX7_ringsOf_76 (by decide) ?_
          refine v_drop (lv' := [some (vR (some o1)), some (vI a1), some (vR a2), some (vI s4.1), some (vI v9), some (vI v11), none, some (vI r13), some (vI r14)]) [6] rfl ?_
          exact hK15 r13 h
    · refine v_aload_n E dX7_ringsOf_108 rfl ?_
      replace h := bnd_e h
      obtain ⟨r24, er24, h⟩ := h
      refine v_callV (na := 0) (As := []) (rest := []) (ci := 4) (q := (RX4, TX4, 3)) E gw7_111 (by decide +kernel) rfl rfl (by decide) (kX4_count l er24).2 (kX4_count l er24).1 rfl rfl dX7_ringsOf_109 ⟨Nat.le_of_ble_eq_true rfl, Nat.le_of_ble_eq_true rfl⟩ ⟨(Nat.le_of_ble_eq_true rfl), (Nat.le_of_ble_eq_true rfl)⟩ (Nat.le_of_ble_eq_true rfl) ?_
      replace h := Option.some.inj h
      subst h
      refine v_widen (k' := 0) (n' := 0) (Nat.le_of_ble_eq_true rfl) (Nat.le_of_ble_eq_true rfl) ?_
      exact v_iret E dX7_ringsOf_112
  · rw [if_pos c26] at h
    refine v_iconst (v := 1) E dX7_ringsOf_7 (by decide) ?_
    replace h := Option.some.inj h
    subst h
    refine v_widen (k' := 0) (n' := 0) (Nat.le_of_ble_eq_true rfl) (Nat.le_of_ble_eq_true rfl) ?_
    exact v_iret E dX7_ringsOf_8
noncomputable def fX7_setsWithRings (A0 : AH) (o0 : Option Nat) (a1 : Int32) (a2 : Option Nat) : Option (Int32 × AH) :=
  (rcv A0 8 o0).bind fun o0 =>
  (gI A0 8 236 ((some o0))).bind fun v1 =>
  jp (fun (x21 : AH) =>
    if a1 < 0 then
      some ((0, x21))
    else
      (gR x21 8 237 ((some o0))).bind fun v22 =>
      (aL x21 14 v22).bind fun v23 =>
      if v23 ≤ a1 then
        some ((0, x21))
      else
        (gR x21 8 237 ((some o0))).bind fun v24 =>
        (aI x21 14 v24 a1).bind fun v25 =>
        some ((v25, x21))) fun K2 =>
    if v1 = 0 then
      (iter (S := Int32 × AH) (T := AH) (fun s3 =>
          (gI s3.2 8 224 ((some o0))).bind fun v6 =>
          if ((1 : Int32) <<< ((v6 : Int32) &&& 31)) ≤ s3.1 then
            some (.inr s3.2)
          else
            (fX7_ringsOf s3.2 ((some o0)) s3.1 a2).bind fun r7 =>
            jp (fun (x16 : AH) =>
              some (.inl ((s3.1 + 1), x16))) fun K8 =>
              if r7.1 < 0 then
                K8 r7.2
              else
                (gR r7.2 8 237 ((some o0))).bind fun v9 =>
                (aL r7.2 14 v9).bind fun v10 =>
                if v10 ≤ r7.1 then
                  K8 r7.2
                else
                  (gR r7.2 8 237 ((some o0))).bind fun v11 =>
                  (aI r7.2 14 v11 r7.1).bind fun v12 =>
                  (sI r7.2 14 v11 r7.1 ((v12 + 1))).bind fun A13 =>
                  K8 A13) (0, A0)).bind fun t4 =>
      (pZ t4 8 236 ((some o0)) 1).bind fun A18 =>
      K2 A18
    else
      K2 A0
set_option maxRecDepth 100000 in
set_option maxHeartbeats 4000000 in
theorem kX7_setsWithRings (l : Launch) {A0 : AH} {o0 : Option Nat} {a1 : Int32} {a2 : Option Nat} {r : Int32 × AH} (h : fX7_setsWithRings A0 o0 a1 a2 = some r) : (∃ a, o0 = some a ∧ Hk A0 a = 8) ∧ Cn l yX7_setsWithRings cX7_setsWithRings 5 (some .int) 3 75 0 0 [vR o0, vI a1, vR a2] A0 (some (vI r.1)) r.2 := by
  unfold fX7_setsWithRings at h
  replace h := bnd_e h
  obtain ⟨o1, e1, h⟩ := h
  obtain ⟨rfl, hk0⟩ := rcv_e e1
  refine ⟨⟨o1, rfl, hk0⟩, ?_⟩
  refine Cn.of (pad := 2) (lv0 := [some (vR (some o1)), some (vI a1), some (vR a2), none, none]) (by decide +kernel) (Nat.le_of_ble_eq_true rfl) rfl ?_
  intro p e s m below meth c base D cy E
  generalize (List.map toV [vR (some o1), vI a1, vR a2]).toArray = ar at E ⊢
  have E : EN p s m ar meth c D cy RX7 cX7_setsWithRings 5 (some .int) "setsWithRings" := E
  refine v_aload_n E dX7_setsWithRings_0 rfl ?_
  replace h := bnd_e h
  obtain ⟨v1, ev1, h⟩ := h
  refine g7_32 E ev1 dX7_setsWithRings_1 ?_
  refine jp_use h (fun K2 eK2 h => ?_)
  have hK2 : ∀ x21 : AH, K2 x21 = some r → V p l e { frames := 3, cells := 0, slots := 0, locals := 75 } s m ar below meth c (MQ below (Qd base D cy (some (vI r.1)) r.2) ar s 0 0 (fun q => base ≤ q)) base D cy 5 64 [some (vR (some o1)), some (vI a1), none, none, none] [] x21 0 0 := by
    intro x21 h
    rw [eK2] at h
    try dsimp only at h
    refine v_iload_n E dX7_setsWithRings_64 rfl ?_
    refine v_if_lt (tgt := 86) E dX7_setsWithRings_65 (by decide) (fun c27 => ?_) (fun c27 => ?_)
    · rw [if_pos c27] at h
      refine v_iconst (v := 0) E dX7_setsWithRings_86 (by decide) ?_
      replace h := Option.some.inj h
      subst h
      refine v_widen (k' := 0) (n' := 0) (Nat.le_of_ble_eq_true rfl) (Nat.le_of_ble_eq_true rfl) ?_
      exact v_iret E dX7_setsWithRings_87
    · rw [if_neg c27] at h
      refine v_iload_n E dX7_setsWithRings_68 rfl ?_
      refine v_aload_n E dX7_setsWithRings_69 rfl ?_
      replace h := bnd_e h
      obtain ⟨v22, ev22, h⟩ := h
      refine g7_35 E ev22 dX7_setsWithRings_70 ?_
      replace h := bnd_e h
      obtain ⟨v23, ev23, h⟩ := h
      refine v_alen (kd := 14) (t0 := 0) E (by decide) rfl ev23 dX7_setsWithRings_73 ?_
      refine v_icmp_ge (tgt := 86) E dX7_setsWithRings_74 (by decide) (fun c26 => ?_) (fun c26 => ?_)
      · rw [if_pos c26] at h
        refine v_iconst (v := 0) E dX7_setsWithRings_86 (by decide) ?_
        replace h := Option.some.inj h
        subst h
        refine v_widen (k' := 0) (n' := 0) (Nat.le_of_ble_eq_true rfl) (Nat.le_of_ble_eq_true rfl) ?_
        exact v_iret E dX7_setsWithRings_87
      · rw [if_neg c26] at h
        refine v_aload_n E dX7_setsWithRings_77 rfl ?_
        replace h := bnd_e h
        obtain ⟨v24, ev24, h⟩ := h
        refine g7_35 E ev24 dX7_setsWithRings_78 ?_
        refine v_iload_n E dX7_setsWithRings_81 rfl ?_
        replace h := bnd_e h
        obtain ⟨v25, ev25, h⟩ := h
        refine v_iaload E ev25 dX7_setsWithRings_82 ?_
        refine v_goto (tgt := 87) E dX7_setsWithRings_83 (by decide) ?_
        replace h := Option.some.inj h
        subst h
        refine v_widen (k' := 0) (n' := 0) (Nat.le_of_ble_eq_true rfl) (Nat.le_of_ble_eq_true rfl) ?_
        exact v_iret E dX7_setsWithRings_87
  refine v_if_ne (tgt := 64) E dX7_setsWithRings_4 (by decide) (fun c20 => ?_) (fun c20 => ?_)
  · rw [if_neg c20] at h
    refine v_drop (lv' := [some (vR (some o1)), some (vI a1), none, none, none]) [2] rfl ?_
    exact hK2 A0 h
  · rw [if_pos c20] at h
    refine v_iconst (v := 0) E dX7_setsWithRings_7 (by decide) ?_
    refine v_istore_n (lv' := [some (vR (some o1)), some (vI a1), some (vR a2), some (vI 0), none]) E dX7_setsWithRings_8 (by decide) rfl ?_
    replace h := bnd_e h
    obtain ⟨t4, et4, h⟩ := h
    refine iter_V (S := Int32 × AH) (T := AH) (Ph := fun s3 => V p l e { frames := 3, cells := 0, slots := 0, locals := 75 } s m ar below meth c (MQ below (Qd base D cy (some (vI r.1)) r.2) ar s 0 0 (fun q => base ≤ q)) base D cy 5 9 [some (vR (some o1)), some (vI a1), some (vR a2), some (vI s3.1), none] [] s3.2 0 0) (Pt := fun t4 => V p l e { frames := 3, cells := 0, slots := 0, locals := 75 } s m ar below meth c (MQ below (Qd base D cy (some (vI r.1)) r.2) ar s 0 0 (fun q => base ≤ q)) base D cy 5 59 [some (vR (some o1)), some (vI a1), none, none, none] [] t4 0 0) et4 (fun s3 w5 h hx => ?_) ?_
    · try dsimp only at h
      refine v_iload_n E dX7_setsWithRings_9 rfl ?_
      refine v_iconst (v := 1) E dX7_setsWithRings_10 (by decide) ?_
      refine v_aload_n E dX7_setsWithRings_11 rfl ?_
      replace h := bnd_e h
      obtain ⟨v6, ev6, h⟩ := h
      refine g7_45 E ev6 dX7_setsWithRings_12 ?_
      refine v_ishl E dX7_setsWithRings_15 ?_
      refine v_icmp_ge (tgt := 59) E dX7_setsWithRings_16 (by decide) (fun c17 => ?_) (fun c17 => ?_)
      · rw [if_pos c17] at h
        refine v_drop (lv' := [some (vR (some o1)), some (vI a1), none, none, none]) [2, 3] rfl ?_
        replace h := Option.some.inj h
        subst h
        exact hx
      · rw [if_neg c17] at h
        refine v_aload_n E dX7_setsWithRings_19 rfl ?_
        refine v_iload_n E dX7_setsWithRings_20 rfl ?_
        refine v_aload_n E dX7_setsWithRings_21 rfl ?_
        replace h := bnd_e h
        obtain ⟨r7, er7, h⟩ := h
        refine v_callV (na := 2) (As := [vI s3.1, vR a2]) (rest := []) (ci := 7) (q := (RX7, TX7, 14)) E gw7_160 (by decide +kernel) rfl rfl (by decide) (kX7_ringsOf l er7).2 (kX7_ringsOf l er7).1 rfl rfl dX7_setsWithRings_22 ⟨Nat.le_of_ble_eq_true rfl, Nat.le_of_ble_eq_true rfl⟩ ⟨(Nat.le_of_ble_eq_true rfl), (Nat.le_of_ble_eq_true rfl)⟩ (Nat.le_of_ble_eq_true rfl) ?_
        refine v_istore (lv' := [some (vR (some o1)), some (vI a1), some (vR a2), some (vI s3.1), some (vI r7.1)]) E dX7_setsWithRings_25 (by decide) rfl ?_
        refine v_iload E dX7_setsWithRings_27 rfl ?_
        refine jp_use h (fun K8 eK8 h => ?_)
        have hK8 : ∀ x16 : AH, K8 x16 = some w5 → V p l e { frames := 3, cells := 0, slots := 0, locals := 75 } s m ar below meth c (MQ below (Qd base D cy (some (vI r.1)) r.2) ar s 0 0 (fun q => base ≤ q)) base D cy 5 53 [some (vR (some o1)), some (vI a1), some (vR a2), some (vI s3.1), none] [] x16 0 0 := by
          intro x16 h
          rw [eK8] at h
          try dsimp only at h
          refine v_iinc (v := (s3.1 + 1)) (lv' := [some (vR (some o1)), some (vI a1), some (vR a2), some (vI (s3.1 + 1)), none]) E dX7_setsWithRings_53 rfl (by rfl) (by decide) rfl ?_
          refine v_goto (tgt := 9) E dX7_setsWithRings_56 (by decide) ?_
          replace h := Option.some.inj h
          subst h
          exact hx
        refine v_if_lt (tgt := 53) E dX7_setsWithRings_29 (by decide) (fun c15 => ?_) (fun c15 => ?_)
        · rw [if_pos c15] at h
          refine v_drop (lv' := [some (vR (some o1)), some (vI a1), some (vR a2), some (vI s3.1), none]) [4] rfl ?_
          exact hK8 r7.2 h
        · rw [if_neg c15] at h
          refine v_iload E dX7_setsWithRings_32 rfl ?_
          refine v_aload_n E dX7_setsWithRings_34 rfl ?_
          replace h := bnd_e h
          obtain ⟨v9, ev9, h⟩ := h
          refine g7_35 E ev9 dX7_setsWithRings_35 ?_
          replace h := bnd_e h
          obtain ⟨v10, ev10, h⟩ := h
          refine v_alen (kd := 14) (t0 := 0) E (by decide) rfl ev10 dX7_setsWithRings_38 ?_
          refine v_icmp_ge (tgt := 53) E dX7_setsWithRings_39 (by decide) (fun c14 => ?_) (fun c14 => ?_)
          · rw [if_pos c14] at h
            refine v_drop (lv' := [some (vR (some o1)), some (vI a1), some (vR a2), some (vI s3.1), none]) [4] rfl ?_
            exact hK8 r7.2 h
          · rw [if_neg c14] at h
            refine v_aload_n E dX7_setsWithRings_42 rfl ?_
            replace h := bnd_e h
            obtain ⟨v11, ev11, h⟩ := h
            refine g7_35 E ev11 dX7_setsWithRings_43 ?_
            refine v_iload E dX7_setsWithRings_46 rfl ?_
            refine v_dup2 E dX7_setsWithRings_48 rfl rfl ?_
            replace h := bnd_e h
            obtain ⟨v12, ev12, h⟩ := h
            refine v_iaload E ev12 dX7_setsWithRings_49 ?_
            refine v_iconst (v := 1) E dX7_setsWithRings_50 (by decide) ?_
            refine v_iadd E dX7_setsWithRings_51 ?_
            replace h := bnd_e h
            obtain ⟨A13, eA13, h⟩ := h
            refine v_iastore E eA13 dX7_setsWithRings_52 ?_
            refine v_drop (lv' := [some (vR (some o1)), some (vI a1), some (vR a2), some (vI s3.1), none]) [4] rfl ?_
            exact hK8 A13 h
    · refine v_aload_n E dX7_setsWithRings_59 rfl ?_
      refine v_iconst (v := 1) E dX7_setsWithRings_60 (by decide) ?_
      replace h := bnd_e h
      obtain ⟨A18, eA18, h⟩ := h
      refine p7_32 E eA18 dX7_setsWithRings_61 ?_
      exact hK2 A18 h
noncomputable def fX0_firstWrong (A0 : AH) (o0 : Option Nat) (a1 : Option Nat) (a2 : Option Nat) : Option (Int32 × AH) :=
  (rcv A0 1 o0).bind fun o0 =>
  (iter (S := Int32 × AH) (T := (AH) ⊕ (Int32 × AH)) (fun s1 =>
      (gI s1.2 1 2 ((some o0))).bind fun v4 =>
      if v4 ≤ s1.1 then
        some (.inr (.inl s1.2))
      else
        (gR s1.2 1 0 ((some o0))).bind fun v5 =>
        (aI s1.2 14 v5 s1.1).bind fun v6 =>
        (fX8_get s1.2 a1 v6).bind fun r7 =>
        if r7 = none then
          some (.inr (.inr ((s1.1, s1.2))))
        else
          (fX10_row s1.2 r7).bind fun r8 =>
          (fX7_setsWithRings s1.2 r8 1 a2).bind fun r9 =>
          (gR r9.2 1 1 ((some o0))).bind fun v10 =>
          (aI r9.2 14 v10 s1.1).bind fun v11 =>
          if r9.1 = v11 then
            some (.inl ((s1.1 + 1), r9.2))
          else
            some (.inr (.inr ((s1.1, r9.2))))) (0, A0)).bind fun t2 =>
  sm t2 (fun t2 =>
    some (((-1), t2))) (fun r => some r)
set_option maxRecDepth 100000 in
set_option maxHeartbeats 4000000 in
theorem kX0_firstWrong (l : Launch) {A0 : AH} {o0 : Option Nat} {a1 : Option Nat} {a2 : Option Nat} {r : Int32 × AH} (h : fX0_firstWrong A0 o0 a1 a2 = some r) : (∃ a, o0 = some a ∧ Hk A0 a = 1) ∧ Cn l yX0_firstWrong cX0_firstWrong 5 (some .int) 4 99 0 0 [vR o0, vR a1, vR a2] A0 (some (vI r.1)) r.2 := by
  unfold fX0_firstWrong at h
  replace h := bnd_e h
  obtain ⟨o1, e1, h⟩ := h
  obtain ⟨rfl, hk0⟩ := rcv_e e1
  refine ⟨⟨o1, rfl, hk0⟩, ?_⟩
  refine Cn.of (pad := 2) (lv0 := [some (vR (some o1)), some (vR a1), some (vR a2), none, none]) (by decide +kernel) (Nat.le_of_ble_eq_true rfl) rfl ?_
  intro p e s m below meth c base D cy E
  generalize (List.map toV [vR (some o1), vR a1, vR a2]).toArray = ar at E ⊢
  have E : EN p s m ar meth c D cy RX0 cX0_firstWrong 5 (some .int) "firstWrong" := E
  refine v_iconst (v := 0) E dX0_firstWrong_0 (by decide) ?_
  refine v_istore_n (lv' := [some (vR (some o1)), some (vR a1), some (vR a2), some (vI 0), none]) E dX0_firstWrong_1 (by decide) rfl ?_
  replace h := bnd_e h
  obtain ⟨t2, et2, h⟩ := h
  refine iter_V (S := Int32 × AH) (T := (AH) ⊕ (Int32 × AH)) (Ph := fun s1 => V p l e { frames := 4, cells := 0, slots := 0, locals := 99 } s m ar below meth c (MQ below (Qd base D cy (some (vI r.1)) r.2) ar s 0 0 (fun q => base ≤ q)) base D cy 5 2 [some (vR (some o1)), some (vR a1), some (vR a2), some (vI s1.1), none] [] s1.2 0 0) (Pt := itM (fun t2 => V p l e { frames := 4, cells := 0, slots := 0, locals := 99 } s m ar below meth c (MQ below (Qd base D cy (some (vI r.1)) r.2) ar s 0 0 (fun q => base ≤ q)) base D cy 5 54 [none, none, none, none, none] [] t2 0 0) (fun z => z = r)) et2 (fun s1 w3 h hx => ?_) ?_
  · try dsimp only at h
    refine v_iload_n E dX0_firstWrong_2 rfl ?_
    refine v_aload_n E dX0_firstWrong_3 rfl ?_
    replace h := bnd_e h
    obtain ⟨v4, ev4, h⟩ := h
    refine g0_18 E ev4 dX0_firstWrong_4 ?_
    refine v_icmp_ge (tgt := 54) E dX0_firstWrong_7 (by decide) (fun c14 => ?_) (fun c14 => ?_)
    · rw [if_pos c14] at h
      refine v_drop (lv' := [none, none, none, none, none]) [0, 1, 2, 3] rfl ?_
      replace h := Option.some.inj h
      subst h
      exact hx
    · rw [if_neg c14] at h
      refine v_aload_n E dX0_firstWrong_10 rfl ?_
      refine v_aload_n E dX0_firstWrong_11 rfl ?_
      replace h := bnd_e h
      obtain ⟨v5, ev5, h⟩ := h
      refine g0_9 E ev5 dX0_firstWrong_12 ?_
      refine v_iload_n E dX0_firstWrong_15 rfl ?_
      replace h := bnd_e h
      obtain ⟨v6, ev6, h⟩ := h
      refine v_iaload E ev6 dX0_firstWrong_16 ?_
      replace h := bnd_e h
      obtain ⟨r7, er7, h⟩ := h
      refine v_callV (na := 1) (As := [vI v6]) (rest := []) (ci := 8) (q := (RX8, TX8, 2)) E gw0_22 (by decide +kernel) rfl rfl (by decide) (kX8_get l er7).2 (kX8_get l er7).1 rfl rfl dX0_firstWrong_17 ⟨Nat.le_of_ble_eq_true rfl, Nat.le_of_ble_eq_true rfl⟩ ⟨(Nat.le_of_ble_eq_true rfl), (Nat.le_of_ble_eq_true rfl)⟩ (Nat.le_of_ble_eq_true rfl) ?_
      refine v_astore (lv' := [some (vR (some o1)), some (vR a1), some (vR a2), some (vI s1.1), some (vR r7)]) E dX0_firstWrong_20 (by decide) rfl ?_
      refine v_aload E dX0_firstWrong_22 rfl ?_
      refine v_ifnull (tgt := 46) E dX0_firstWrong_24 (by decide) (fun c13 => ?_) (fun c13 => ?_)
      · rw [if_pos c13] at h
        refine v_iload_n E dX0_firstWrong_46 rfl ?_
        replace h := Option.some.inj h
        subst h
        have hx : _ = r := hx
        subst hx
        refine v_widen (k' := 0) (n' := 0) (Nat.le_of_ble_eq_true rfl) (Nat.le_of_ble_eq_true rfl) ?_
        exact v_iret E dX0_firstWrong_47
      · rw [if_neg c13] at h
        refine v_aload E dX0_firstWrong_27 rfl ?_
        replace h := bnd_e h
        obtain ⟨r8, er8, h⟩ := h
        refine v_callV (na := 0) (As := []) (rest := []) (ci := 10) (q := (RX10, TX10, 3)) E gw0_28 (by decide +kernel) rfl rfl (by decide) (kX10_row l er8).2 (kX10_row l er8).1 rfl rfl dX0_firstWrong_29 ⟨Nat.le_of_ble_eq_true rfl, Nat.le_of_ble_eq_true rfl⟩ ⟨(Nat.le_of_ble_eq_true rfl), (Nat.le_of_ble_eq_true rfl)⟩ (Nat.le_of_ble_eq_true rfl) ?_
        refine v_iconst (v := 1) E dX0_firstWrong_32 (by decide) ?_
        refine v_aload_n E dX0_firstWrong_33 rfl ?_
        replace h := bnd_e h
        obtain ⟨r9, er9, h⟩ := h
        refine v_callV (na := 2) (As := [vI 1, vR a2]) (rest := []) (ci := 7) (q := (RX7, TX7, 14)) E gw0_34 (by decide +kernel) rfl rfl (by decide) (kX7_setsWithRings l er9).2 (kX7_setsWithRings l er9).1 rfl rfl dX0_firstWrong_34 ⟨Nat.le_of_ble_eq_true rfl, Nat.le_of_ble_eq_true rfl⟩ ⟨(Nat.le_of_ble_eq_true rfl), (Nat.le_of_ble_eq_true rfl)⟩ (Nat.le_of_ble_eq_true rfl) ?_
        refine v_aload_n E dX0_firstWrong_37 rfl ?_
        replace h := bnd_e h
        obtain ⟨v10, ev10, h⟩ := h
        refine g0_15 E ev10 dX0_firstWrong_38 ?_
        refine v_iload_n E dX0_firstWrong_41 rfl ?_
        replace h := bnd_e h
        obtain ⟨v11, ev11, h⟩ := h
        refine v_iaload E ev11 dX0_firstWrong_42 ?_
        refine v_icmp_eq (tgt := 48) E dX0_firstWrong_43 (by decide) (fun c12 => ?_) (fun c12 => ?_)
        · rw [if_pos c12] at h
          refine v_iinc (v := (s1.1 + 1)) (lv' := [some (vR (some o1)), some (vR a1), some (vR a2), some (vI (s1.1 + 1)), some (vR r7)]) E dX0_firstWrong_48 rfl (by rfl) (by decide) rfl ?_
          refine v_goto (tgt := 2) E dX0_firstWrong_51 (by decide) ?_
          refine v_drop (lv' := [some (vR (some o1)), some (vR a1), some (vR a2), some (vI (s1.1 + 1)), none]) [4] rfl ?_
          replace h := Option.some.inj h
          subst h
          exact hx
        · rw [if_neg c12] at h
          refine v_iload_n E dX0_firstWrong_46 rfl ?_
          replace h := Option.some.inj h
          subst h
          have hx : _ = r := hx
          subst hx
          refine v_widen (k' := 0) (n' := 0) (Nat.le_of_ble_eq_true rfl) (Nat.le_of_ble_eq_true rfl) ?_
          exact v_iret E dX0_firstWrong_47
  · cases t2 with
    | inl t2 =>
      dsimp only [sm] at h
      refine v_iconst (v := (-1)) E dX0_firstWrong_54 (by decide) ?_
      replace h := Option.some.inj h
      subst h
      refine v_widen (k' := 0) (n' := 0) (Nat.le_of_ble_eq_true rfl) (Nat.le_of_ble_eq_true rfl) ?_
      exact v_iret E dX0_firstWrong_55
    | inr z =>
      exact Option.some.inj h
noncomputable def fX5_count (A0 : AH) (o0 : Option Nat) : Option (Int32) :=
  (rcv A0 6 o0).bind fun o0 =>
  (gI A0 6 162 ((some o0))).bind fun v1 =>
  some v1
set_option maxRecDepth 100000 in
set_option maxHeartbeats 4000000 in
theorem kX5_count (l : Launch) {A0 : AH} {o0 : Option Nat} {r : Int32} (h : fX5_count A0 o0 = some r) : (∃ a, o0 = some a ∧ Hk A0 a = 6) ∧ Cn l yX5_count cX5_count 1 (some .int) 0 0 0 0 [vR o0] A0 (some (vI r)) A0 := by
  unfold fX5_count at h
  replace h := bnd_e h
  obtain ⟨o1, e1, h⟩ := h
  obtain ⟨rfl, hk0⟩ := rcv_e e1
  refine ⟨⟨o1, rfl, hk0⟩, ?_⟩
  refine Cn.of (pad := 0) (lv0 := [some (vR (some o1))]) (by decide +kernel) (Nat.le_of_ble_eq_true rfl) rfl ?_
  intro p e s m below meth c base D cy E
  generalize (List.map toV [vR (some o1)]).toArray = ar at E ⊢
  have E : EN p s m ar meth c D cy RX5 cX5_count 1 (some .int) "count" := E
  refine v_aload_n E dX5_count_0 rfl ?_
  replace h := bnd_e h
  obtain ⟨v1, ev1, h⟩ := h
  refine g5_21 E ev1 dX5_count_1 ?_
  replace h := Option.some.inj h
  subst h
  refine v_widen (k' := 0) (n' := 0) (Nat.le_of_ble_eq_true rfl) (Nat.le_of_ble_eq_true rfl) ?_
  exact v_iret E dX5_count_4
noncomputable def fX2_current (A0 : AH) (o0 : Option Nat) : Option (Int32) :=
  (rcv A0 3 o0).bind fun o0 =>
  (gI A0 3 64 ((some o0))).bind fun v1 =>
  some v1
set_option maxRecDepth 100000 in
set_option maxHeartbeats 4000000 in
theorem kX2_current (l : Launch) {A0 : AH} {o0 : Option Nat} {r : Int32} (h : fX2_current A0 o0 = some r) : (∃ a, o0 = some a ∧ Hk A0 a = 3) ∧ Cn l yX2_current cX2_current 1 (some .int) 0 0 0 0 [vR o0] A0 (some (vI r)) A0 := by
  unfold fX2_current at h
  replace h := bnd_e h
  obtain ⟨o1, e1, h⟩ := h
  obtain ⟨rfl, hk0⟩ := rcv_e e1
  refine ⟨⟨o1, rfl, hk0⟩, ?_⟩
  refine Cn.of (pad := 0) (lv0 := [some (vR (some o1))]) (by decide +kernel) (Nat.le_of_ble_eq_true rfl) rfl ?_
  intro p e s m below meth c base D cy E
  generalize (List.map toV [vR (some o1)]).toArray = ar at E ⊢
  have E : EN p s m ar meth c D cy RX2 cX2_current 1 (some .int) "current" := E
  refine v_aload_n E dX2_current_0 rfl ?_
  replace h := bnd_e h
  obtain ⟨v1, ev1, h⟩ := h
  refine g2_7 E ev1 dX2_current_1 ?_
  replace h := Option.some.inj h
  subst h
  refine v_widen (k' := 0) (n' := 0) (Nat.le_of_ble_eq_true rfl) (Nat.le_of_ble_eq_true rfl) ?_
  exact v_iret E dX2_current_4
noncomputable def fX11_told (A0 : AH) (o0 : Option Nat) (a1 : Int32) : Option (Int32 × AH) :=
  (rcv A0 12 o0).bind fun o0 =>
  if a1 = 0 then
    (gR A0 12 352 ((some o0))).bind fun v2 =>
    (fX8_count A0 v2).bind fun r3 =>
    some ((r3, A0))
  else if a1 = 1 then
    (gR A0 12 352 ((some o0))).bind fun v5 =>
    (fX8_unlike A0 v5).bind fun r6 =>
    some ((r6.1, r6.2))
  else if a1 = 2 then
    (gR A0 12 353 ((some o0))).bind fun v8 =>
    (fX9_length A0 v8).bind fun r9 =>
    some ((r9, A0))
  else if a1 = 3 then
    (gR A0 12 354 ((some o0))).bind fun v11 =>
    (fX0_count A0 v11).bind fun r12 =>
    some ((r12, A0))
  else if a1 = 4 then
    (gR A0 12 354 ((some o0))).bind fun v14 =>
    (gR A0 12 352 ((some o0))).bind fun v15 =>
    (gR A0 12 359 ((some o0))).bind fun v16 =>
    (fX0_firstWrong A0 v14 v15 v16).bind fun r17 =>
    some ((r17.1, r17.2))
  else if a1 = 5 then
    (gR A0 12 355 ((some o0))).bind fun v19 =>
    (fX5_count A0 v19).bind fun r20 =>
    some ((r20, A0))
  else if a1 = 6 then
    (gR A0 12 357 ((some o0))).bind fun v22 =>
    (fX2_current A0 v22).bind fun r23 =>
    some ((r23, A0))
  else 
    some (((-1000000002), A0))
set_option maxRecDepth 100000 in
set_option maxHeartbeats 4000000 in
theorem kX11_told (l : Launch) {A0 : AH} {o0 : Option Nat} {a1 : Int32} {r : Int32 × AH} (h : fX11_told A0 o0 a1 = some r) : (∃ a, o0 = some a ∧ Hk A0 a = 12) ∧ Cn l yX11_told cX11_told 2 (some .int) 6 144 98 784 [vR o0, vI a1] A0 (some (vI r.1)) r.2 := by
  unfold fX11_told at h
  replace h := bnd_e h
  obtain ⟨o1, e1, h⟩ := h
  obtain ⟨rfl, hk0⟩ := rcv_e e1
  refine ⟨⟨o1, rfl, hk0⟩, ?_⟩
  refine Cn.of (pad := 0) (lv0 := [some (vR (some o1)), some (vI a1)]) (by decide +kernel) (Nat.le_of_ble_eq_true rfl) rfl ?_
  intro p e s m below meth c base D cy E
  generalize (List.map toV [vR (some o1), vI a1]).toArray = ar at E ⊢
  have E : EN p s m ar meth c D cy RX11 cX11_told 2 (some .int) "told" := E
  refine v_iload_n E dX11_told_0 rfl ?_
  refine v_tsw (tgts := [44, 52, 60, 68, 76, 92, 100, 108]) E dX11_told_1 (fun j off hj => ?_) (by decide) (by decide) (by decide) (by decide) (fun j t hj ht => ?_)
  · match j, hj with
    | 0, hj => cases hj; exact ⟨_, rfl, by decide⟩
    | 1, hj => cases hj; exact ⟨_, rfl, by decide⟩
    | 2, hj => cases hj; exact ⟨_, rfl, by decide⟩
    | 3, hj => cases hj; exact ⟨_, rfl, by decide⟩
    | 4, hj => cases hj; exact ⟨_, rfl, by decide⟩
    | 5, hj => cases hj; exact ⟨_, rfl, by decide⟩
    | 6, hj => cases hj; exact ⟨_, rfl, by decide⟩
    | j + 7, hj => simp at hj
  · by_cases c1 : a1 = 0
    · rw [if_pos c1] at h
      rw [c1] at hj
      obtain rfl : j = 0 := hj.symm
      cases ht
      refine v_aload_n E dX11_told_44 rfl ?_
      replace h := bnd_e h
      obtain ⟨v2, ev2, h⟩ := h
      refine g11_10 E ev2 dX11_told_45 ?_
      replace h := bnd_e h
      obtain ⟨r3, er3, h⟩ := h
      refine v_callV (na := 0) (As := []) (rest := []) (ci := 8) (q := (RX8, TX8, 2)) E gw11_95 (by decide +kernel) rfl rfl (by decide) (kX8_count l er3).2 (kX8_count l er3).1 rfl rfl dX11_told_48 ⟨Nat.le_of_ble_eq_true rfl, Nat.le_of_ble_eq_true rfl⟩ ⟨(Nat.le_of_ble_eq_true rfl), (Nat.le_of_ble_eq_true rfl)⟩ (Nat.le_of_ble_eq_true rfl) ?_
      replace h := Option.some.inj h
      subst h
      refine v_widen (k' := 98) (n' := 784) (Nat.le_of_ble_eq_true rfl) (Nat.le_of_ble_eq_true rfl) ?_
      exact v_iret E dX11_told_51
    rw [if_neg c1] at h
    by_cases c4 : a1 = 1
    · rw [if_pos c4] at h
      rw [c4] at hj
      obtain rfl : j = 1 := hj.symm
      cases ht
      refine v_aload_n E dX11_told_52 rfl ?_
      replace h := bnd_e h
      obtain ⟨v5, ev5, h⟩ := h
      refine g11_10 E ev5 dX11_told_53 ?_
      replace h := bnd_e h
      obtain ⟨r6, er6, h⟩ := h
      refine v_callV (na := 0) (As := []) (rest := []) (ci := 8) (q := (RX8, TX8, 2)) E gw11_98 (by decide +kernel) rfl rfl (by decide) (kX8_unlike l er6).2 (kX8_unlike l er6).1 rfl rfl dX11_told_56 ⟨Nat.le_of_ble_eq_true rfl, Nat.le_of_ble_eq_true rfl⟩ ⟨(Nat.le_of_ble_eq_true rfl), (Nat.le_of_ble_eq_true rfl)⟩ (Nat.le_of_ble_eq_true rfl) ?_
      refine v_widen (k' := 98) (n' := 784) (Nat.le_of_ble_eq_true rfl) (Nat.le_of_ble_eq_true rfl) ?_
      replace h := Option.some.inj h
      subst h
      refine v_widen (k' := 98) (n' := 784) (Nat.le_of_ble_eq_true rfl) (Nat.le_of_ble_eq_true rfl) ?_
      exact v_iret E dX11_told_59
    rw [if_neg c4] at h
    by_cases c7 : a1 = 2
    · rw [if_pos c7] at h
      rw [c7] at hj
      obtain rfl : j = 2 := hj.symm
      cases ht
      refine v_aload_n E dX11_told_60 rfl ?_
      replace h := bnd_e h
      obtain ⟨v8, ev8, h⟩ := h
      refine g11_19 E ev8 dX11_told_61 ?_
      replace h := bnd_e h
      obtain ⟨r9, er9, h⟩ := h
      refine v_callV (na := 0) (As := []) (rest := []) (ci := 9) (q := (RX9, TX9, 3)) E gw11_70 (by decide +kernel) rfl rfl (by decide) (kX9_length l er9).2 (kX9_length l er9).1 rfl rfl dX11_told_64 ⟨Nat.le_of_ble_eq_true rfl, Nat.le_of_ble_eq_true rfl⟩ ⟨(Nat.le_of_ble_eq_true rfl), (Nat.le_of_ble_eq_true rfl)⟩ (Nat.le_of_ble_eq_true rfl) ?_
      replace h := Option.some.inj h
      subst h
      refine v_widen (k' := 98) (n' := 784) (Nat.le_of_ble_eq_true rfl) (Nat.le_of_ble_eq_true rfl) ?_
      exact v_iret E dX11_told_67
    rw [if_neg c7] at h
    by_cases c10 : a1 = 3
    · rw [if_pos c10] at h
      rw [c10] at hj
      obtain rfl : j = 3 := hj.symm
      cases ht
      refine v_aload_n E dX11_told_68 rfl ?_
      replace h := bnd_e h
      obtain ⟨v11, ev11, h⟩ := h
      refine g11_26 E ev11 dX11_told_69 ?_
      replace h := bnd_e h
      obtain ⟨r12, er12, h⟩ := h
      refine v_callV (na := 0) (As := []) (rest := []) (ci := 0) (q := (RX0, TX0, 3)) E gw11_101 (by decide +kernel) rfl rfl (by decide) (kX0_count l er12).2 (kX0_count l er12).1 rfl rfl dX11_told_72 ⟨Nat.le_of_ble_eq_true rfl, Nat.le_of_ble_eq_true rfl⟩ ⟨(Nat.le_of_ble_eq_true rfl), (Nat.le_of_ble_eq_true rfl)⟩ (Nat.le_of_ble_eq_true rfl) ?_
      replace h := Option.some.inj h
      subst h
      refine v_widen (k' := 98) (n' := 784) (Nat.le_of_ble_eq_true rfl) (Nat.le_of_ble_eq_true rfl) ?_
      exact v_iret E dX11_told_75
    rw [if_neg c10] at h
    by_cases c13 : a1 = 4
    · rw [if_pos c13] at h
      rw [c13] at hj
      obtain rfl : j = 4 := hj.symm
      cases ht
      refine v_aload_n E dX11_told_76 rfl ?_
      replace h := bnd_e h
      obtain ⟨v14, ev14, h⟩ := h
      refine g11_26 E ev14 dX11_told_77 ?_
      refine v_aload_n E dX11_told_80 rfl ?_
      replace h := bnd_e h
      obtain ⟨v15, ev15, h⟩ := h
      refine g11_10 E ev15 dX11_told_81 ?_
      refine v_aload_n E dX11_told_84 rfl ?_
      replace h := bnd_e h
      obtain ⟨v16, ev16, h⟩ := h
      refine g11_61 E ev16 dX11_told_85 ?_
      replace h := bnd_e h
      obtain ⟨r17, er17, h⟩ := h
      refine v_callV (na := 2) (As := [vR v15, vR v16]) (rest := []) (ci := 0) (q := (RX0, TX0, 3)) E gw11_102 (by decide +kernel) rfl rfl (by decide) (kX0_firstWrong l er17).2 (kX0_firstWrong l er17).1 rfl rfl dX11_told_88 ⟨Nat.le_of_ble_eq_true rfl, Nat.le_of_ble_eq_true rfl⟩ ⟨(Nat.le_of_ble_eq_true rfl), (Nat.le_of_ble_eq_true rfl)⟩ (Nat.le_of_ble_eq_true rfl) ?_
      replace h := Option.some.inj h
      subst h
      refine v_widen (k' := 98) (n' := 784) (Nat.le_of_ble_eq_true rfl) (Nat.le_of_ble_eq_true rfl) ?_
      exact v_iret E dX11_told_91
    rw [if_neg c13] at h
    by_cases c18 : a1 = 5
    · rw [if_pos c18] at h
      rw [c18] at hj
      obtain rfl : j = 5 := hj.symm
      cases ht
      refine v_aload_n E dX11_told_92 rfl ?_
      replace h := bnd_e h
      obtain ⟨v19, ev19, h⟩ := h
      refine g11_33 E ev19 dX11_told_93 ?_
      replace h := bnd_e h
      obtain ⟨r20, er20, h⟩ := h
      refine v_callV (na := 0) (As := []) (rest := []) (ci := 5) (q := (RX5, TX5, 3)) E gw11_106 (by decide +kernel) rfl rfl (by decide) (kX5_count l er20).2 (kX5_count l er20).1 rfl rfl dX11_told_96 ⟨Nat.le_of_ble_eq_true rfl, Nat.le_of_ble_eq_true rfl⟩ ⟨(Nat.le_of_ble_eq_true rfl), (Nat.le_of_ble_eq_true rfl)⟩ (Nat.le_of_ble_eq_true rfl) ?_
      replace h := Option.some.inj h
      subst h
      refine v_widen (k' := 98) (n' := 784) (Nat.le_of_ble_eq_true rfl) (Nat.le_of_ble_eq_true rfl) ?_
      exact v_iret E dX11_told_99
    rw [if_neg c18] at h
    by_cases c21 : a1 = 6
    · rw [if_pos c21] at h
      rw [c21] at hj
      obtain rfl : j = 6 := hj.symm
      cases ht
      refine v_aload_n E dX11_told_100 rfl ?_
      replace h := bnd_e h
      obtain ⟨v22, ev22, h⟩ := h
      refine g11_47 E ev22 dX11_told_101 ?_
      replace h := bnd_e h
      obtain ⟨r23, er23, h⟩ := h
      refine v_callV (na := 0) (As := []) (rest := []) (ci := 2) (q := (RX2, TX2, 1)) E gw11_107 (by decide +kernel) rfl rfl (by decide) (kX2_current l er23).2 (kX2_current l er23).1 rfl rfl dX11_told_104 ⟨Nat.le_of_ble_eq_true rfl, Nat.le_of_ble_eq_true rfl⟩ ⟨(Nat.le_of_ble_eq_true rfl), (Nat.le_of_ble_eq_true rfl)⟩ (Nat.le_of_ble_eq_true rfl) ?_
      replace h := Option.some.inj h
      subst h
      refine v_widen (k' := 98) (n' := 784) (Nat.le_of_ble_eq_true rfl) (Nat.le_of_ble_eq_true rfl) ?_
      exact v_iret E dX11_told_107
    rw [if_neg c21] at h
    have hd : t = 108 := by
      match j, hj, ht with
      | 0, hj, ht => exact absurd (Int32.toInt_inj.mp ((swi_val hj (by decide)).trans (by decide : (0 : Int) + ((0 : Nat) : Int) = (0 : Int32).toInt))) c1
      | 1, hj, ht => exact absurd (Int32.toInt_inj.mp ((swi_val hj (by decide)).trans (by decide : (0 : Int) + ((1 : Nat) : Int) = (1 : Int32).toInt))) c4
      | 2, hj, ht => exact absurd (Int32.toInt_inj.mp ((swi_val hj (by decide)).trans (by decide : (0 : Int) + ((2 : Nat) : Int) = (2 : Int32).toInt))) c7
      | 3, hj, ht => exact absurd (Int32.toInt_inj.mp ((swi_val hj (by decide)).trans (by decide : (0 : Int) + ((3 : Nat) : Int) = (3 : Int32).toInt))) c10
      | 4, hj, ht => exact absurd (Int32.toInt_inj.mp ((swi_val hj (by decide)).trans (by decide : (0 : Int) + ((4 : Nat) : Int) = (4 : Int32).toInt))) c13
      | 5, hj, ht => exact absurd (Int32.toInt_inj.mp ((swi_val hj (by decide)).trans (by decide : (0 : Int) + ((5 : Nat) : Int) = (5 : Int32).toInt))) c18
      | 6, hj, ht => exact absurd (Int32.toInt_inj.mp ((swi_val hj (by decide)).trans (by decide : (0 : Int) + ((6 : Nat) : Int) = (6 : Int32).toInt))) c21
      | 7, hj, ht => cases ht; rfl
      | j + 8, hj, ht => simp at ht
    subst hd
    refine v_ldc (v := (-1000000002)) E dX11_told_108 q262 ?_
    replace h := Option.some.inj h
    subst h
    refine v_widen (k' := 98) (n' := 784) (Nat.le_of_ble_eq_true rfl) (Nat.le_of_ble_eq_true rfl) ?_
    exact v_iret E dX11_told_110
noncomputable def fX7_letterCount (A0 : AH) (o0 : Option Nat) : Option (Int32) :=
  (rcv A0 8 o0).bind fun o0 =>
  (gI A0 8 224 ((some o0))).bind fun v1 =>
  some v1
set_option maxRecDepth 100000 in
set_option maxHeartbeats 4000000 in
theorem kX7_letterCount (l : Launch) {A0 : AH} {o0 : Option Nat} {r : Int32} (h : fX7_letterCount A0 o0 = some r) : (∃ a, o0 = some a ∧ Hk A0 a = 8) ∧ Cn l yX7_letterCount cX7_letterCount 1 (some .int) 0 0 0 0 [vR o0] A0 (some (vI r)) A0 := by
  unfold fX7_letterCount at h
  replace h := bnd_e h
  obtain ⟨o1, e1, h⟩ := h
  obtain ⟨rfl, hk0⟩ := rcv_e e1
  refine ⟨⟨o1, rfl, hk0⟩, ?_⟩
  refine Cn.of (pad := 0) (lv0 := [some (vR (some o1))]) (by decide +kernel) (Nat.le_of_ble_eq_true rfl) rfl ?_
  intro p e s m below meth c base D cy E
  generalize (List.map toV [vR (some o1)]).toArray = ar at E ⊢
  have E : EN p s m ar meth c D cy RX7 cX7_letterCount 1 (some .int) "letterCount" := E
  refine v_aload_n E dX7_letterCount_0 rfl ?_
  replace h := bnd_e h
  obtain ⟨v1, ev1, h⟩ := h
  refine g7_45 E ev1 dX7_letterCount_1 ?_
  replace h := Option.some.inj h
  subst h
  refine v_widen (k' := 0) (n' := 0) (Nat.le_of_ble_eq_true rfl) (Nat.le_of_ble_eq_true rfl) ?_
  exact v_iret E dX7_letterCount_4
noncomputable def fX7_parts (A0 : AH) (o0 : Option Nat) (a1 : Option Nat) : Option (Int32 × AH) :=
  (rcv A0 8 o0).bind fun o0 =>
  (gI A0 8 224 ((some o0))).bind fun v1 =>
  (fX4_scatter A0 a1 v1).bind fun r2 =>
  (iter (S := Int32 × AH) (T := AH) (fun s3 =>
      (gI s3.2 8 224 ((some o0))).bind fun v6 =>
      if v6 ≤ s3.1 then
        some (.inr s3.2)
      else
        (iter (S := Int32 × AH) (T := AH) (fun s7 =>
            if s3.1 ≤ s7.1 then
              some (.inr s7.2)
            else
              (gR s7.2 8 229 ((some o0))).bind fun v10 =>
              (aI s7.2 14 v10 s3.1).bind fun v11 =>
              (fX11_isIn s7.2 v11 s7.1).bind fun r12 =>
              jp (fun (x16 : AH) =>
                some (.inl ((s7.1 + 1), x16))) fun K13 =>
                if r12 = 0 then
                  K13 s7.2
                else
                  (fX4_join s7.2 a1 s3.1 s7.1).bind fun r14 =>
                  K13 r14) (0, s3.2)).bind fun t8 =>
        some (.inl ((s3.1 + 1), t8))) (0, r2)).bind fun t4 =>
  (fX4_count t4 a1).bind fun r20 =>
  some ((r20, t4))
set_option maxRecDepth 100000 in
set_option maxHeartbeats 4000000 in
theorem kX7_parts (l : Launch) {A0 : AH} {o0 : Option Nat} {a1 : Option Nat} {r : Int32 × AH} (h : fX7_parts A0 o0 a1 = some r) : (∃ a, o0 = some a ∧ Hk A0 a = 8) ∧ Cn l yX7_parts cX7_parts 4 (some .int) 2 47 0 0 [vR o0, vR a1] A0 (some (vI r.1)) r.2 := by
  unfold fX7_parts at h
  replace h := bnd_e h
  obtain ⟨o1, e1, h⟩ := h
  obtain ⟨rfl, hk0⟩ := rcv_e e1
  refine ⟨⟨o1, rfl, hk0⟩, ?_⟩
  refine Cn.of (pad := 2) (lv0 := [some (vR (some o1)), some (vR a1), none, none]) (by decide +kernel) (Nat.le_of_ble_eq_true rfl) rfl ?_
  intro p e s m below meth c base D cy E
  generalize (List.map toV [vR (some o1), vR a1]).toArray = ar at E ⊢
  have E : EN p s m ar meth c D cy RX7 cX7_parts 4 (some .int) "parts" := E
  refine v_aload_n E dX7_parts_0 rfl ?_
  refine v_aload_n E dX7_parts_1 rfl ?_
  replace h := bnd_e h
  obtain ⟨v1, ev1, h⟩ := h
  refine g7_45 E ev1 dX7_parts_2 ?_
  replace h := bnd_e h
  obtain ⟨r2, er2, h⟩ := h
  refine v_callV (na := 1) (As := [vI v1]) (rest := []) (ci := 4) (q := (RX4, TX4, 3)) E gw7_98 (by decide +kernel) rfl rfl (by decide) (kX4_scatter l er2).2 (kX4_scatter l er2).1 rfl rfl dX7_parts_5 ⟨Nat.le_of_ble_eq_true rfl, Nat.le_of_ble_eq_true rfl⟩ ⟨(Nat.le_of_ble_eq_true rfl), (Nat.le_of_ble_eq_true rfl)⟩ (Nat.le_of_ble_eq_true rfl) ?_
  refine v_iconst (v := 0) E dX7_parts_8 (by decide) ?_
  refine v_istore_n (lv' := [some (vR (some o1)), some (vR a1), some (vI 0), none]) E dX7_parts_9 (by decide) rfl ?_
  replace h := bnd_e h
  obtain ⟨t4, et4, h⟩ := h
  refine iter_V (S := Int32 × AH) (T := AH) (Ph := fun s3 => V p l e { frames := 2, cells := 0, slots := 0, locals := 47 } s m ar below meth c (MQ below (Qd base D cy (some (vI r.1)) r.2) ar s 0 0 (fun q => base ≤ q)) base D cy 4 10 [some (vR (some o1)), some (vR a1), some (vI s3.1), none] [] s3.2 0 0) (Pt := fun t4 => V p l e { frames := 2, cells := 0, slots := 0, locals := 47 } s m ar below meth c (MQ below (Qd base D cy (some (vI r.1)) r.2) ar s 0 0 (fun q => base ≤ q)) base D cy 4 56 [none, some (vR a1), none, none] [] t4 0 0) et4 (fun s3 w5 h hx => ?_) ?_
  · try dsimp only at h
    refine v_iload_n E dX7_parts_10 rfl ?_
    refine v_aload_n E dX7_parts_11 rfl ?_
    replace h := bnd_e h
    obtain ⟨v6, ev6, h⟩ := h
    refine g7_45 E ev6 dX7_parts_12 ?_
    refine v_icmp_ge (tgt := 56) E dX7_parts_15 (by decide) (fun c19 => ?_) (fun c19 => ?_)
    · rw [if_pos c19] at h
      refine v_drop (lv' := [none, some (vR a1), none, none]) [0, 2] rfl ?_
      replace h := Option.some.inj h
      subst h
      exact hx
    · rw [if_neg c19] at h
      refine v_iconst (v := 0) E dX7_parts_18 (by decide) ?_
      refine v_istore_n (lv' := [some (vR (some o1)), some (vR a1), some (vI s3.1), some (vI 0)]) E dX7_parts_19 (by decide) rfl ?_
      replace h := bnd_e h
      obtain ⟨t8, et8, h⟩ := h
      refine iter_V (S := Int32 × AH) (T := AH) (Ph := fun s7 => V p l e { frames := 2, cells := 0, slots := 0, locals := 47 } s m ar below meth c (MQ below (Qd base D cy (some (vI r.1)) r.2) ar s 0 0 (fun q => base ≤ q)) base D cy 4 20 [some (vR (some o1)), some (vR a1), some (vI s3.1), some (vI s7.1)] [] s7.2 0 0) (Pt := fun t8 => V p l e { frames := 2, cells := 0, slots := 0, locals := 47 } s m ar below meth c (MQ below (Qd base D cy (some (vI r.1)) r.2) ar s 0 0 (fun q => base ≤ q)) base D cy 4 50 [some (vR (some o1)), some (vR a1), some (vI s3.1), none] [] t8 0 0) et8 (fun s7 w9 h hx => ?_) ?_
      · try dsimp only at h
        refine v_iload_n E dX7_parts_20 rfl ?_
        refine v_iload_n E dX7_parts_21 rfl ?_
        refine v_icmp_ge (tgt := 50) E dX7_parts_22 (by decide) (fun c17 => ?_) (fun c17 => ?_)
        · rw [if_pos c17] at h
          refine v_drop (lv' := [some (vR (some o1)), some (vR a1), some (vI s3.1), none]) [3] rfl ?_
          replace h := Option.some.inj h
          subst h
          exact hx
        · rw [if_neg c17] at h
          refine v_aload_n E dX7_parts_25 rfl ?_
          replace h := bnd_e h
          obtain ⟨v10, ev10, h⟩ := h
          refine g7_60 E ev10 dX7_parts_26 ?_
          refine v_iload_n E dX7_parts_29 rfl ?_
          replace h := bnd_e h
          obtain ⟨v11, ev11, h⟩ := h
          refine v_iaload E ev11 dX7_parts_30 ?_
          refine v_iload_n E dX7_parts_31 rfl ?_
          replace h := bnd_e h
          obtain ⟨r12, er12, h⟩ := h
          refine v_callSN (na := 2) (As := [vI v11, vI s7.1]) (rest := []) E gw7_104 gn7_104 q489 q86 (by decide +kernel) (kX11_isIn l er12) rfl rfl dX7_parts_32 ⟨Nat.le_of_ble_eq_true rfl, Nat.le_of_ble_eq_true rfl⟩ ⟨(Nat.le_of_ble_eq_true rfl), (Nat.le_of_ble_eq_true rfl)⟩ (Nat.le_of_ble_eq_true rfl) ?_
          refine jp_use h (fun K13 eK13 h => ?_)
          have hK13 : ∀ x16 : AH, K13 x16 = some w9 → V p l e { frames := 2, cells := 0, slots := 0, locals := 47 } s m ar below meth c (MQ below (Qd base D cy (some (vI r.1)) r.2) ar s 0 0 (fun q => base ≤ q)) base D cy 4 44 [some (vR (some o1)), some (vR a1), some (vI s3.1), some (vI s7.1)] [] x16 0 0 := by
            intro x16 h
            rw [eK13] at h
            try dsimp only at h
            refine v_iinc (v := (s7.1 + 1)) (lv' := [some (vR (some o1)), some (vR a1), some (vI s3.1), some (vI (s7.1 + 1))]) E dX7_parts_44 rfl (by rfl) (by decide) rfl ?_
            refine v_goto (tgt := 20) E dX7_parts_47 (by decide) ?_
            replace h := Option.some.inj h
            subst h
            exact hx
          refine v_if_eq (tgt := 44) E dX7_parts_35 (by decide) (fun c15 => ?_) (fun c15 => ?_)
          · rw [if_pos c15] at h
            exact hK13 s7.2 h
          · rw [if_neg c15] at h
            refine v_aload_n E dX7_parts_38 rfl ?_
            refine v_iload_n E dX7_parts_39 rfl ?_
            refine v_iload_n E dX7_parts_40 rfl ?_
            replace h := bnd_e h
            obtain ⟨r14, er14, h⟩ := h
            refine v_callV (na := 2) (As := [vI s3.1, vI s7.1]) (rest := []) (ci := 4) (q := (RX4, TX4, 3)) E gw7_107 (by decide +kernel) rfl rfl (by decide) (kX4_join l er14).2 (kX4_join l er14).1 rfl rfl dX7_parts_41 ⟨Nat.le_of_ble_eq_true rfl, Nat.le_of_ble_eq_true rfl⟩ ⟨(Nat.le_of_ble_eq_true rfl), (Nat.le_of_ble_eq_true rfl)⟩ (Nat.le_of_ble_eq_true rfl) ?_
            exact hK13 r14 h
      · refine v_iinc (v := (s3.1 + 1)) (lv' := [some (vR (some o1)), some (vR a1), some (vI (s3.1 + 1)), none]) E dX7_parts_50 rfl (by rfl) (by decide) rfl ?_
        refine v_goto (tgt := 10) E dX7_parts_53 (by decide) ?_
        replace h := Option.some.inj h
        subst h
        exact hx
  · refine v_aload_n E dX7_parts_56 rfl ?_
    replace h := bnd_e h
    obtain ⟨r20, er20, h⟩ := h
    refine v_callV (na := 0) (As := []) (rest := []) (ci := 4) (q := (RX4, TX4, 3)) E gw7_111 (by decide +kernel) rfl rfl (by decide) (kX4_count l er20).2 (kX4_count l er20).1 rfl rfl dX7_parts_57 ⟨Nat.le_of_ble_eq_true rfl, Nat.le_of_ble_eq_true rfl⟩ ⟨(Nat.le_of_ble_eq_true rfl), (Nat.le_of_ble_eq_true rfl)⟩ (Nat.le_of_ble_eq_true rfl) ?_
    replace h := Option.some.inj h
    subst h
    refine v_widen (k' := 0) (n' := 0) (Nat.le_of_ble_eq_true rfl) (Nat.le_of_ble_eq_true rfl) ?_
    exact v_iret E dX7_parts_60
noncomputable def fX11_isEven (A0 : AH) (a1 : Int32) : Option (Int32) :=
  if (a1 &&& 1) = 0 then
    some 1
  else
    some 0
set_option maxRecDepth 100000 in
set_option maxHeartbeats 4000000 in
theorem kX11_isEven (l : Launch) {A0 : AH} {a1 : Int32} {r : Int32} (h : fX11_isEven A0 a1 = some r) : Cn l yX11_isEven cX11_isEven 1 (some .boolean) 0 0 0 0 [vI a1] A0 (some (vI r)) A0 := by
  unfold fX11_isEven at h
  refine Cn.of (pad := 0) (lv0 := [some (vI a1)]) (by decide +kernel) (Nat.le_of_ble_eq_true rfl) rfl ?_
  intro p e s m below meth c base D cy E
  generalize (List.map toV [vI a1]).toArray = ar at E ⊢
  have E : EN p s m ar meth c D cy RX11 cX11_isEven 1 (some .boolean) "isEven" := E
  refine v_iload_n E dX11_isEven_0 rfl ?_
  refine v_iconst (v := 1) E dX11_isEven_1 (by decide) ?_
  refine v_iand E dX11_isEven_2 ?_
  refine v_if_ne (tgt := 10) E dX11_isEven_3 (by decide) (fun c1 => ?_) (fun c1 => ?_)
  · rw [if_neg c1] at h
    refine v_iconst (v := 0) E dX11_isEven_10 (by decide) ?_
    replace h := Option.some.inj h
    subst h
    refine v_widen (k' := 0) (n' := 0) (Nat.le_of_ble_eq_true rfl) (Nat.le_of_ble_eq_true rfl) ?_
    exact v_zret E (Or.inl rfl) dX11_isEven_11
  · rw [if_pos c1] at h
    refine v_iconst (v := 1) E dX11_isEven_6 (by decide) ?_
    refine v_goto (tgt := 11) E dX11_isEven_7 (by decide) ?_
    replace h := Option.some.inj h
    subst h
    refine v_widen (k' := 0) (n' := 0) (Nat.le_of_ble_eq_true rfl) (Nat.le_of_ble_eq_true rfl) ?_
    exact v_zret E (Or.inr rfl) dX11_isEven_11
noncomputable def fX7_eachIsBetweenEvenly (A0 : AH) (o0 : Option Nat) : Option (Int32) :=
  (rcv A0 8 o0).bind fun o0 =>
  (iter (S := Int32) (T := (Unit) ⊕ (Int32)) (fun s1 =>
      (gI A0 8 224 ((some o0))).bind fun v4 =>
      if v4 ≤ s1 then
        some (.inr (.inl ()))
      else
        (gR A0 8 229 ((some o0))).bind fun v5 =>
        (aI A0 14 v5 s1).bind fun v6 =>
        (fJ6_bitCount_0f7a4 A0 v6).bind fun r7 =>
        (fX11_isEven A0 r7).bind fun r8 =>
        if r8 = 0 then
          some (.inr (.inr 0))
        else
          some (.inl ((s1 + 1)))) 0).bind fun t2 =>
  sm t2 (fun t2 =>
    some 1) (fun r => some r)
set_option maxRecDepth 100000 in
set_option maxHeartbeats 4000000 in
theorem kX7_eachIsBetweenEvenly (l : Launch) {A0 : AH} {o0 : Option Nat} {r : Int32} (h : fX7_eachIsBetweenEvenly A0 o0 = some r) : (∃ a, o0 = some a ∧ Hk A0 a = 8) ∧ Cn l yX7_eachIsBetweenEvenly cX7_eachIsBetweenEvenly 2 (some .boolean) 1 20 0 0 [vR o0] A0 (some (vI r)) A0 := by
  unfold fX7_eachIsBetweenEvenly at h
  replace h := bnd_e h
  obtain ⟨o1, e1, h⟩ := h
  obtain ⟨rfl, hk0⟩ := rcv_e e1
  refine ⟨⟨o1, rfl, hk0⟩, ?_⟩
  refine Cn.of (pad := 1) (lv0 := [some (vR (some o1)), none]) (by decide +kernel) (Nat.le_of_ble_eq_true rfl) rfl ?_
  intro p e s m below meth c base D cy E
  generalize (List.map toV [vR (some o1)]).toArray = ar at E ⊢
  have E : EN p s m ar meth c D cy RX7 cX7_eachIsBetweenEvenly 2 (some .boolean) "eachIsBetweenEvenly" := E
  refine v_iconst (v := 0) E dX7_eachIsBetweenEvenly_0 (by decide) ?_
  refine v_istore_n (lv' := [some (vR (some o1)), some (vI 0)]) E dX7_eachIsBetweenEvenly_1 (by decide) rfl ?_
  replace h := bnd_e h
  obtain ⟨t2, et2, h⟩ := h
  refine iter_V (S := Int32) (T := (Unit) ⊕ (Int32)) (Ph := fun s1 => V p l e { frames := 1, cells := 0, slots := 0, locals := 20 } s m ar below meth c (MQ below (Qd base D cy (some (vI r)) A0) ar s 0 0 (fun q => base ≤ q)) base D cy 2 2 [some (vR (some o1)), some (vI s1)] [] A0 0 0) (Pt := itM (fun t2 => V p l e { frames := 1, cells := 0, slots := 0, locals := 20 } s m ar below meth c (MQ below (Qd base D cy (some (vI r)) A0) ar s 0 0 (fun q => base ≤ q)) base D cy 2 33 [none, none] [] A0 0 0) (fun z => z = r)) et2 (fun s1 w3 h hx => ?_) ?_
  · try dsimp only at h
    refine v_iload_n E dX7_eachIsBetweenEvenly_2 rfl ?_
    refine v_aload_n E dX7_eachIsBetweenEvenly_3 rfl ?_
    replace h := bnd_e h
    obtain ⟨v4, ev4, h⟩ := h
    refine g7_45 E ev4 dX7_eachIsBetweenEvenly_4 ?_
    refine v_icmp_ge (tgt := 33) E dX7_eachIsBetweenEvenly_7 (by decide) (fun c10 => ?_) (fun c10 => ?_)
    · rw [if_pos c10] at h
      refine v_drop (lv' := [none, none]) [0, 1] rfl ?_
      replace h := Option.some.inj h
      subst h
      exact hx
    · rw [if_neg c10] at h
      refine v_aload_n E dX7_eachIsBetweenEvenly_10 rfl ?_
      replace h := bnd_e h
      obtain ⟨v5, ev5, h⟩ := h
      refine g7_60 E ev5 dX7_eachIsBetweenEvenly_11 ?_
      refine v_iload_n E dX7_eachIsBetweenEvenly_14 rfl ?_
      replace h := bnd_e h
      obtain ⟨v6, ev6, h⟩ := h
      refine v_iaload E ev6 dX7_eachIsBetweenEvenly_15 ?_
      replace h := bnd_e h
      obtain ⟨r7, er7, h⟩ := h
      refine v_callS (na := 1) (As := [vI v6]) (rest := []) E gw7_93 (by decide +kernel) (kJ6_bitCount_0f7a4 l er7) rfl rfl dX7_eachIsBetweenEvenly_16 ⟨Nat.le_of_ble_eq_true rfl, Nat.le_of_ble_eq_true rfl⟩ ⟨(Nat.le_of_ble_eq_true rfl), (Nat.le_of_ble_eq_true rfl)⟩ (Nat.le_of_ble_eq_true rfl) ?_
      replace h := bnd_e h
      obtain ⟨r8, er8, h⟩ := h
      refine v_callSN (na := 1) (As := [vI r7]) (rest := []) E gw7_125 gn7_125 q541 q86 (by decide +kernel) (kX11_isEven l er8) rfl rfl dX7_eachIsBetweenEvenly_19 ⟨Nat.le_of_ble_eq_true rfl, Nat.le_of_ble_eq_true rfl⟩ ⟨(Nat.le_of_ble_eq_true rfl), (Nat.le_of_ble_eq_true rfl)⟩ (Nat.le_of_ble_eq_true rfl) ?_
      refine v_if_ne (tgt := 27) E dX7_eachIsBetweenEvenly_22 (by decide) (fun c9 => ?_) (fun c9 => ?_)
      · rw [if_neg c9] at h
        refine v_iinc (v := (s1 + 1)) (lv' := [some (vR (some o1)), some (vI (s1 + 1))]) E dX7_eachIsBetweenEvenly_27 rfl (by rfl) (by decide) rfl ?_
        refine v_goto (tgt := 2) E dX7_eachIsBetweenEvenly_30 (by decide) ?_
        replace h := Option.some.inj h
        subst h
        exact hx
      · rw [if_pos c9] at h
        refine v_iconst (v := 0) E dX7_eachIsBetweenEvenly_25 (by decide) ?_
        replace h := Option.some.inj h
        subst h
        have hx : _ = r := hx
        subst hx
        refine v_widen (k' := 0) (n' := 0) (Nat.le_of_ble_eq_true rfl) (Nat.le_of_ble_eq_true rfl) ?_
        exact v_zret E (Or.inl rfl) dX7_eachIsBetweenEvenly_26
  · cases t2 with
    | inl t2 =>
      dsimp only [sm] at h
      refine v_iconst (v := 1) E dX7_eachIsBetweenEvenly_33 (by decide) ?_
      replace h := Option.some.inj h
      subst h
      refine v_widen (k' := 0) (n' := 0) (Nat.le_of_ble_eq_true rfl) (Nat.le_of_ble_eq_true rfl) ?_
      exact v_zret E (Or.inr rfl) dX7_eachIsBetweenEvenly_34
    | inr z =>
      exact Option.some.inj h
noncomputable def fX7_hasLetter (A0 : AH) (o0 : Option Nat) (a1 : Int32) : Option (Int32) :=
  (rcv A0 8 o0).bind fun o0 =>
  if a1 < 0 then
    some 0
  else
    (gI A0 8 224 ((some o0))).bind fun v1 =>
    if v1 ≤ a1 then
      some 0
    else
      some 1
set_option maxRecDepth 100000 in
set_option maxHeartbeats 4000000 in
theorem kX7_hasLetter (l : Launch) {A0 : AH} {o0 : Option Nat} {a1 : Int32} {r : Int32} (h : fX7_hasLetter A0 o0 a1 = some r) : (∃ a, o0 = some a ∧ Hk A0 a = 8) ∧ Cn l yX7_hasLetter cX7_hasLetter 2 (some .boolean) 0 0 0 0 [vR o0, vI a1] A0 (some (vI r)) A0 := by
  unfold fX7_hasLetter at h
  replace h := bnd_e h
  obtain ⟨o1, e1, h⟩ := h
  obtain ⟨rfl, hk0⟩ := rcv_e e1
  refine ⟨⟨o1, rfl, hk0⟩, ?_⟩
  refine Cn.of (pad := 0) (lv0 := [some (vR (some o1)), some (vI a1)]) (by decide +kernel) (Nat.le_of_ble_eq_true rfl) rfl ?_
  intro p e s m below meth c base D cy E
  generalize (List.map toV [vR (some o1), vI a1]).toArray = ar at E ⊢
  have E : EN p s m ar meth c D cy RX7 cX7_hasLetter 2 (some .boolean) "hasLetter" := E
  refine v_iload_n E dX7_hasLetter_0 rfl ?_
  refine v_if_lt (tgt := 16) E dX7_hasLetter_1 (by decide) (fun c3 => ?_) (fun c3 => ?_)
  · rw [if_pos c3] at h
    refine v_iconst (v := 0) E dX7_hasLetter_16 (by decide) ?_
    replace h := Option.some.inj h
    subst h
    refine v_widen (k' := 0) (n' := 0) (Nat.le_of_ble_eq_true rfl) (Nat.le_of_ble_eq_true rfl) ?_
    exact v_zret E (Or.inl rfl) dX7_hasLetter_17
  · rw [if_neg c3] at h
    refine v_iload_n E dX7_hasLetter_4 rfl ?_
    refine v_aload_n E dX7_hasLetter_5 rfl ?_
    replace h := bnd_e h
    obtain ⟨v1, ev1, h⟩ := h
    refine g7_45 E ev1 dX7_hasLetter_6 ?_
    refine v_icmp_ge (tgt := 16) E dX7_hasLetter_9 (by decide) (fun c2 => ?_) (fun c2 => ?_)
    · rw [if_pos c2] at h
      refine v_iconst (v := 0) E dX7_hasLetter_16 (by decide) ?_
      replace h := Option.some.inj h
      subst h
      refine v_widen (k' := 0) (n' := 0) (Nat.le_of_ble_eq_true rfl) (Nat.le_of_ble_eq_true rfl) ?_
      exact v_zret E (Or.inl rfl) dX7_hasLetter_17
    · rw [if_neg c2] at h
      refine v_iconst (v := 1) E dX7_hasLetter_12 (by decide) ?_
      refine v_goto (tgt := 17) E dX7_hasLetter_13 (by decide) ?_
      replace h := Option.some.inj h
      subst h
      refine v_widen (k' := 0) (n' := 0) (Nat.le_of_ble_eq_true rfl) (Nat.le_of_ble_eq_true rfl) ?_
      exact v_zret E (Or.inr rfl) dX7_hasLetter_17
noncomputable def fX7_betweenSet (A0 : AH) (o0 : Option Nat) (a1 : Int32) : Option (Int32) :=
  (rcv A0 8 o0).bind fun o0 =>
  (fX7_hasLetter A0 ((some o0)) a1).bind fun r1 =>
  if r1 = 0 then
    some 0
  else
    (gR A0 8 229 ((some o0))).bind fun v2 =>
    (aI A0 14 v2 a1).bind fun v3 =>
    some v3
set_option maxRecDepth 100000 in
set_option maxHeartbeats 4000000 in
theorem kX7_betweenSet (l : Launch) {A0 : AH} {o0 : Option Nat} {a1 : Int32} {r : Int32} (h : fX7_betweenSet A0 o0 a1 = some r) : (∃ a, o0 = some a ∧ Hk A0 a = 8) ∧ Cn l yX7_betweenSet cX7_betweenSet 2 (some .int) 1 21 0 0 [vR o0, vI a1] A0 (some (vI r)) A0 := by
  unfold fX7_betweenSet at h
  replace h := bnd_e h
  obtain ⟨o1, e1, h⟩ := h
  obtain ⟨rfl, hk0⟩ := rcv_e e1
  refine ⟨⟨o1, rfl, hk0⟩, ?_⟩
  refine Cn.of (pad := 0) (lv0 := [some (vR (some o1)), some (vI a1)]) (by decide +kernel) (Nat.le_of_ble_eq_true rfl) rfl ?_
  intro p e s m below meth c base D cy E
  generalize (List.map toV [vR (some o1), vI a1]).toArray = ar at E ⊢
  have E : EN p s m ar meth c D cy RX7 cX7_betweenSet 2 (some .int) "betweenSet" := E
  refine v_aload_n E dX7_betweenSet_0 rfl ?_
  refine v_iload_n E dX7_betweenSet_1 rfl ?_
  replace h := bnd_e h
  obtain ⟨r1, er1, h⟩ := h
  refine v_callV (na := 1) (As := [vI a1]) (rest := []) (ci := 7) (q := (RX7, TX7, 14)) E gw7_71 (by decide +kernel) rfl rfl (by decide) (kX7_hasLetter l er1).2 (kX7_hasLetter l er1).1 rfl rfl dX7_betweenSet_2 ⟨Nat.le_of_ble_eq_true rfl, Nat.le_of_ble_eq_true rfl⟩ ⟨(Nat.le_of_ble_eq_true rfl), (Nat.le_of_ble_eq_true rfl)⟩ (Nat.le_of_ble_eq_true rfl) ?_
  refine v_if_eq (tgt := 17) E dX7_betweenSet_5 (by decide) (fun c4 => ?_) (fun c4 => ?_)
  · rw [if_pos c4] at h
    refine v_iconst (v := 0) E dX7_betweenSet_17 (by decide) ?_
    replace h := Option.some.inj h
    subst h
    refine v_widen (k' := 0) (n' := 0) (Nat.le_of_ble_eq_true rfl) (Nat.le_of_ble_eq_true rfl) ?_
    exact v_iret E dX7_betweenSet_18
  · rw [if_neg c4] at h
    refine v_aload_n E dX7_betweenSet_8 rfl ?_
    replace h := bnd_e h
    obtain ⟨v2, ev2, h⟩ := h
    refine g7_60 E ev2 dX7_betweenSet_9 ?_
    refine v_iload_n E dX7_betweenSet_12 rfl ?_
    replace h := bnd_e h
    obtain ⟨v3, ev3, h⟩ := h
    refine v_iaload E ev3 dX7_betweenSet_13 ?_
    refine v_goto (tgt := 18) E dX7_betweenSet_14 (by decide) ?_
    replace h := Option.some.inj h
    subst h
    refine v_widen (k' := 0) (n' := 0) (Nat.le_of_ble_eq_true rfl) (Nat.le_of_ble_eq_true rfl) ?_
    exact v_iret E dX7_betweenSet_18
noncomputable def fX7_sharedBetween (A0 : AH) (o0 : Option Nat) (a1 : Int32) (a2 : Int32) : Option (Int32) :=
  (rcv A0 8 o0).bind fun o0 =>
  (fX7_betweenSet A0 ((some o0)) a1).bind fun r1 =>
  (fX7_betweenSet A0 ((some o0)) a2).bind fun r2 =>
  (fJ6_bitCount_0f7a4 A0 ((r1 &&& r2))).bind fun r3 =>
  some r3
set_option maxRecDepth 100000 in
set_option maxHeartbeats 4000000 in
theorem kX7_sharedBetween (l : Launch) {A0 : AH} {o0 : Option Nat} {a1 : Int32} {a2 : Int32} {r : Int32} (h : fX7_sharedBetween A0 o0 a1 a2 = some r) : (∃ a, o0 = some a ∧ Hk A0 a = 8) ∧ Cn l yX7_sharedBetween cX7_sharedBetween 3 (some .int) 2 42 0 0 [vR o0, vI a1, vI a2] A0 (some (vI r)) A0 := by
  unfold fX7_sharedBetween at h
  replace h := bnd_e h
  obtain ⟨o1, e1, h⟩ := h
  obtain ⟨rfl, hk0⟩ := rcv_e e1
  refine ⟨⟨o1, rfl, hk0⟩, ?_⟩
  refine Cn.of (pad := 0) (lv0 := [some (vR (some o1)), some (vI a1), some (vI a2)]) (by decide +kernel) (Nat.le_of_ble_eq_true rfl) rfl ?_
  intro p e s m below meth c base D cy E
  generalize (List.map toV [vR (some o1), vI a1, vI a2]).toArray = ar at E ⊢
  have E : EN p s m ar meth c D cy RX7 cX7_sharedBetween 3 (some .int) "sharedBetween" := E
  refine v_aload_n E dX7_sharedBetween_0 rfl ?_
  refine v_iload_n E dX7_sharedBetween_1 rfl ?_
  replace h := bnd_e h
  obtain ⟨r1, er1, h⟩ := h
  refine v_callV (na := 1) (As := [vI a1]) (rest := []) (ci := 7) (q := (RX7, TX7, 14)) E gw7_90 (by decide +kernel) rfl rfl (by decide) (kX7_betweenSet l er1).2 (kX7_betweenSet l er1).1 rfl rfl dX7_sharedBetween_2 ⟨Nat.le_of_ble_eq_true rfl, Nat.le_of_ble_eq_true rfl⟩ ⟨(Nat.le_of_ble_eq_true rfl), (Nat.le_of_ble_eq_true rfl)⟩ (Nat.le_of_ble_eq_true rfl) ?_
  refine v_aload_n E dX7_sharedBetween_5 rfl ?_
  refine v_iload_n E dX7_sharedBetween_6 rfl ?_
  replace h := bnd_e h
  obtain ⟨r2, er2, h⟩ := h
  refine v_callV (na := 1) (As := [vI a2]) (rest := [vI r1]) (ci := 7) (q := (RX7, TX7, 14)) E gw7_90 (by decide +kernel) rfl rfl (by decide) (kX7_betweenSet l er2).2 (kX7_betweenSet l er2).1 rfl rfl dX7_sharedBetween_7 ⟨Nat.le_of_ble_eq_true rfl, Nat.le_of_ble_eq_true rfl⟩ ⟨(Nat.le_of_ble_eq_true rfl), (Nat.le_of_ble_eq_true rfl)⟩ (Nat.le_of_ble_eq_true rfl) ?_
  refine v_iand E dX7_sharedBetween_10 ?_
  replace h := bnd_e h
  obtain ⟨r3, er3, h⟩ := h
  refine v_callS (na := 1) (As := [vI (r1 &&& r2)]) (rest := []) E gw7_93 (by decide +kernel) (kJ6_bitCount_0f7a4 l er3) rfl rfl dX7_sharedBetween_11 ⟨Nat.le_of_ble_eq_true rfl, Nat.le_of_ble_eq_true rfl⟩ ⟨(Nat.le_of_ble_eq_true rfl), (Nat.le_of_ble_eq_true rfl)⟩ (Nat.le_of_ble_eq_true rfl) ?_
  replace h := Option.some.inj h
  subst h
  refine v_widen (k' := 0) (n' := 0) (Nat.le_of_ble_eq_true rfl) (Nat.le_of_ble_eq_true rfl) ?_
  exact v_iret E dX7_sharedBetween_14
noncomputable def fX7_eachTwoApartShareEvenly (A0 : AH) (o0 : Option Nat) : Option (Int32) :=
  (rcv A0 8 o0).bind fun o0 =>
  (iter (S := Int32) (T := (Unit) ⊕ (Int32)) (fun s1 =>
      (gI A0 8 224 ((some o0))).bind fun v4 =>
      if v4 ≤ s1 then
        some (.inr (.inl ()))
      else
        (iter (S := Int32) (T := (Unit) ⊕ (Int32)) (fun s5 =>
            if s1 ≤ s5 then
              some (.inr (.inl ()))
            else
              (gR A0 8 229 ((some o0))).bind fun v8 =>
              (aI A0 14 v8 s1).bind fun v9 =>
              (fX11_isIn A0 v9 s5).bind fun r10 =>
              jp (fun (x16 : Unit) =>
                some (.inl ((s5 + 1)))) fun K11 =>
                if r10 = 0 then
                  (fX7_sharedBetween A0 ((some o0)) s1 s5).bind fun r12 =>
                  (fX11_isEven A0 r12).bind fun r13 =>
                  if r13 = 0 then
                    some (.inr (.inr 0))
                  else
                    K11 ()
                else
                  K11 ()) 0).bind fun t6 =>
        sm t6 (fun t6 =>
          some (.inl ((s1 + 1)))) (fun r => some (.inr (.inr r)))) 0).bind fun t2 =>
  sm t2 (fun t2 =>
    some 1) (fun r => some r)
set_option maxRecDepth 100000 in
set_option maxHeartbeats 4000000 in
theorem kX7_eachTwoApartShareEvenly (l : Launch) {A0 : AH} {o0 : Option Nat} {r : Int32} (h : fX7_eachTwoApartShareEvenly A0 o0 = some r) : (∃ a, o0 = some a ∧ Hk A0 a = 8) ∧ Cn l yX7_eachTwoApartShareEvenly cX7_eachTwoApartShareEvenly 3 (some .boolean) 3 64 0 0 [vR o0] A0 (some (vI r)) A0 := by
  unfold fX7_eachTwoApartShareEvenly at h
  replace h := bnd_e h
  obtain ⟨o1, e1, h⟩ := h
  obtain ⟨rfl, hk0⟩ := rcv_e e1
  refine ⟨⟨o1, rfl, hk0⟩, ?_⟩
  refine Cn.of (pad := 2) (lv0 := [some (vR (some o1)), none, none]) (by decide +kernel) (Nat.le_of_ble_eq_true rfl) rfl ?_
  intro p e s m below meth c base D cy E
  generalize (List.map toV [vR (some o1)]).toArray = ar at E ⊢
  have E : EN p s m ar meth c D cy RX7 cX7_eachTwoApartShareEvenly 3 (some .boolean) "eachTwoApartShareEvenly" := E
  refine v_iconst (v := 0) E dX7_eachTwoApartShareEvenly_0 (by decide) ?_
  refine v_istore_n (lv' := [some (vR (some o1)), some (vI 0), none]) E dX7_eachTwoApartShareEvenly_1 (by decide) rfl ?_
  replace h := bnd_e h
  obtain ⟨t2, et2, h⟩ := h
  refine iter_V (S := Int32) (T := (Unit) ⊕ (Int32)) (Ph := fun s1 => V p l e { frames := 3, cells := 0, slots := 0, locals := 64 } s m ar below meth c (MQ below (Qd base D cy (some (vI r)) A0) ar s 0 0 (fun q => base ≤ q)) base D cy 3 2 [some (vR (some o1)), some (vI s1), none] [] A0 0 0) (Pt := itM (fun t2 => V p l e { frames := 3, cells := 0, slots := 0, locals := 64 } s m ar below meth c (MQ below (Qd base D cy (some (vI r)) A0) ar s 0 0 (fun q => base ≤ q)) base D cy 3 56 [none, none, none] [] A0 0 0) (fun z => z = r)) et2 (fun s1 w3 h hx => ?_) ?_
  · try dsimp only at h
    refine v_iload_n E dX7_eachTwoApartShareEvenly_2 rfl ?_
    refine v_aload_n E dX7_eachTwoApartShareEvenly_3 rfl ?_
    replace h := bnd_e h
    obtain ⟨v4, ev4, h⟩ := h
    refine g7_45 E ev4 dX7_eachTwoApartShareEvenly_4 ?_
    refine v_icmp_ge (tgt := 56) E dX7_eachTwoApartShareEvenly_7 (by decide) (fun c19 => ?_) (fun c19 => ?_)
    · rw [if_pos c19] at h
      refine v_drop (lv' := [none, none, none]) [0, 1] rfl ?_
      replace h := Option.some.inj h
      subst h
      exact hx
    · rw [if_neg c19] at h
      refine v_iconst (v := 0) E dX7_eachTwoApartShareEvenly_10 (by decide) ?_
      refine v_istore_n (lv' := [some (vR (some o1)), some (vI s1), some (vI 0)]) E dX7_eachTwoApartShareEvenly_11 (by decide) rfl ?_
      replace h := bnd_e h
      obtain ⟨t6, et6, h⟩ := h
      refine iter_V (S := Int32) (T := (Unit) ⊕ (Int32)) (Ph := fun s5 => V p l e { frames := 3, cells := 0, slots := 0, locals := 64 } s m ar below meth c (MQ below (Qd base D cy (some (vI r)) A0) ar s 0 0 (fun q => base ≤ q)) base D cy 3 12 [some (vR (some o1)), some (vI s1), some (vI s5)] [] A0 0 0) (Pt := itM (fun t6 => V p l e { frames := 3, cells := 0, slots := 0, locals := 64 } s m ar below meth c (MQ below (Qd base D cy (some (vI r)) A0) ar s 0 0 (fun q => base ≤ q)) base D cy 3 50 [some (vR (some o1)), some (vI s1), none] [] A0 0 0) (fun z => z = r)) et6 (fun s5 w7 h hx => ?_) ?_
      · try dsimp only at h
        refine v_iload_n E dX7_eachTwoApartShareEvenly_12 rfl ?_
        refine v_iload_n E dX7_eachTwoApartShareEvenly_13 rfl ?_
        refine v_icmp_ge (tgt := 50) E dX7_eachTwoApartShareEvenly_14 (by decide) (fun c17 => ?_) (fun c17 => ?_)
        · rw [if_pos c17] at h
          refine v_drop (lv' := [some (vR (some o1)), some (vI s1), none]) [2] rfl ?_
          replace h := Option.some.inj h
          subst h
          exact hx
        · rw [if_neg c17] at h
          refine v_aload_n E dX7_eachTwoApartShareEvenly_17 rfl ?_
          replace h := bnd_e h
          obtain ⟨v8, ev8, h⟩ := h
          refine g7_60 E ev8 dX7_eachTwoApartShareEvenly_18 ?_
          refine v_iload_n E dX7_eachTwoApartShareEvenly_21 rfl ?_
          replace h := bnd_e h
          obtain ⟨v9, ev9, h⟩ := h
          refine v_iaload E ev9 dX7_eachTwoApartShareEvenly_22 ?_
          refine v_iload_n E dX7_eachTwoApartShareEvenly_23 rfl ?_
          replace h := bnd_e h
          obtain ⟨r10, er10, h⟩ := h
          refine v_callSN (na := 2) (As := [vI v9, vI s5]) (rest := []) E gw7_104 gn7_104 q489 q86 (by decide +kernel) (kX11_isIn l er10) rfl rfl dX7_eachTwoApartShareEvenly_24 ⟨Nat.le_of_ble_eq_true rfl, Nat.le_of_ble_eq_true rfl⟩ ⟨(Nat.le_of_ble_eq_true rfl), (Nat.le_of_ble_eq_true rfl)⟩ (Nat.le_of_ble_eq_true rfl) ?_
          refine jp_use h (fun K11 eK11 h => ?_)
          have hK11 : ∀ x16 : Unit, K11 x16 = some w7 → V p l e { frames := 3, cells := 0, slots := 0, locals := 64 } s m ar below meth c (MQ below (Qd base D cy (some (vI r)) A0) ar s 0 0 (fun q => base ≤ q)) base D cy 3 44 [some (vR (some o1)), some (vI s1), some (vI s5)] [] A0 0 0 := by
            intro x16 h
            rw [eK11] at h
            try dsimp only at h
            refine v_iinc (v := (s5 + 1)) (lv' := [some (vR (some o1)), some (vI s1), some (vI (s5 + 1))]) E dX7_eachTwoApartShareEvenly_44 rfl (by rfl) (by decide) rfl ?_
            refine v_goto (tgt := 12) E dX7_eachTwoApartShareEvenly_47 (by decide) ?_
            replace h := Option.some.inj h
            subst h
            exact hx
          refine v_if_ne (tgt := 44) E dX7_eachTwoApartShareEvenly_27 (by decide) (fun c15 => ?_) (fun c15 => ?_)
          · rw [if_neg c15] at h
            exact hK11 () h
          · rw [if_pos c15] at h
            refine v_aload_n E dX7_eachTwoApartShareEvenly_30 rfl ?_
            refine v_iload_n E dX7_eachTwoApartShareEvenly_31 rfl ?_
            refine v_iload_n E dX7_eachTwoApartShareEvenly_32 rfl ?_
            replace h := bnd_e h
            obtain ⟨r12, er12, h⟩ := h
            refine v_callV (na := 2) (As := [vI s1, vI s5]) (rest := []) (ci := 7) (q := (RX7, TX7, 14)) E gw7_128 (by decide +kernel) rfl rfl (by decide) (kX7_sharedBetween l er12).2 (kX7_sharedBetween l er12).1 rfl rfl dX7_eachTwoApartShareEvenly_33 ⟨Nat.le_of_ble_eq_true rfl, Nat.le_of_ble_eq_true rfl⟩ ⟨(Nat.le_of_ble_eq_true rfl), (Nat.le_of_ble_eq_true rfl)⟩ (Nat.le_of_ble_eq_true rfl) ?_
            replace h := bnd_e h
            obtain ⟨r13, er13, h⟩ := h
            refine v_callSN (na := 1) (As := [vI r12]) (rest := []) E gw7_125 gn7_125 q541 q86 (by decide +kernel) (kX11_isEven l er13) rfl rfl dX7_eachTwoApartShareEvenly_36 ⟨Nat.le_of_ble_eq_true rfl, Nat.le_of_ble_eq_true rfl⟩ ⟨(Nat.le_of_ble_eq_true rfl), (Nat.le_of_ble_eq_true rfl)⟩ (Nat.le_of_ble_eq_true rfl) ?_
            refine v_if_ne (tgt := 44) E dX7_eachTwoApartShareEvenly_39 (by decide) (fun c14 => ?_) (fun c14 => ?_)
            · rw [if_neg c14] at h
              exact hK11 () h
            · rw [if_pos c14] at h
              refine v_iconst (v := 0) E dX7_eachTwoApartShareEvenly_42 (by decide) ?_
              replace h := Option.some.inj h
              subst h
              have hx : _ = r := hx
              subst hx
              refine v_widen (k' := 0) (n' := 0) (Nat.le_of_ble_eq_true rfl) (Nat.le_of_ble_eq_true rfl) ?_
              exact v_zret E (Or.inl rfl) dX7_eachTwoApartShareEvenly_43
      · cases t6 with
        | inl t6 =>
          dsimp only [sm] at h
          refine v_iinc (v := (s1 + 1)) (lv' := [some (vR (some o1)), some (vI (s1 + 1)), none]) E dX7_eachTwoApartShareEvenly_50 rfl (by rfl) (by decide) rfl ?_
          refine v_goto (tgt := 2) E dX7_eachTwoApartShareEvenly_53 (by decide) ?_
          replace h := Option.some.inj h
          subst h
          exact hx
        | inr z =>
          replace h := Option.some.inj h
          subst h
          exact hx
  · cases t2 with
    | inl t2 =>
      dsimp only [sm] at h
      refine v_iconst (v := 1) E dX7_eachTwoApartShareEvenly_56 (by decide) ?_
      replace h := Option.some.inj h
      subst h
      refine v_widen (k' := 0) (n' := 0) (Nat.le_of_ble_eq_true rfl) (Nat.le_of_ble_eq_true rfl) ?_
      exact v_zret E (Or.inr rfl) dX7_eachTwoApartShareEvenly_57
    | inr z =>
      exact Option.some.inj h
noncomputable def fX7_sidesCanBeChosen (A0 : AH) (o0 : Option Nat) (a1 : Option Nat) : Option (Int32 × AH) :=
  (rcv A0 8 o0).bind fun o0 =>
  (gI A0 8 224 ((some o0))).bind fun v1 =>
  (fX4_scatter A0 a1 ((2 * v1))).bind fun r2 =>
  (iter (S := Int32 × AH) (T := AH) (fun s3 =>
      (gI s3.2 8 224 ((some o0))).bind fun v6 =>
      if v6 ≤ s3.1 then
        some (.inr s3.2)
      else
        (iter (S := Int32 × AH) (T := AH) (fun s7 =>
            if s3.1 ≤ s7.1 then
              some (.inr s7.2)
            else
              (gR s7.2 8 229 ((some o0))).bind fun v10 =>
              (aI s7.2 14 v10 s3.1).bind fun v11 =>
              (fX11_isIn s7.2 v11 s7.1).bind fun r12 =>
              jp (fun (x25 : AH) =>
                some (.inl ((s7.1 + 1), x25))) fun K13 =>
                if r12 = 0 then
                  K13 s7.2
                else
                  (fX7_sharedBetween s7.2 ((some o0)) s3.1 s7.1).bind fun r14 =>
                  (fX11_isEven s7.2 r14).bind fun r15 =>
                  jp1 (α := Int32) (if r15 = 0 then
                      ((2 * s7.1))
                    else
                      (((2 * s7.1) + 1))) fun x18 =>
                  (fX4_join s7.2 a1 ((2 * s3.1)) x18).bind fun r19 =>
                    jp1 (α := Int32) (if r15 = 0 then
                        (((2 * s7.1) + 1))
                      else
                        ((2 * s7.1))) fun x22 =>
                    (fX4_join r19 a1 (((2 * s3.1) + 1)) x22).bind fun r23 =>
                      K13 r23) (0, s3.2)).bind fun t8 =>
        some (.inl ((s3.1 + 1), t8))) (0, r2)).bind fun t4 =>
  (iter (S := Int32) (T := (Unit) ⊕ (Int32 × AH)) (fun s29 =>
      (gI t4 8 224 ((some o0))).bind fun v32 =>
      if v32 ≤ s29 then
        some (.inr (.inl ()))
      else
        (fX4_leastWith t4 a1 ((2 * s29))).bind fun r33 =>
        (fX4_leastWith t4 a1 (((2 * s29) + 1))).bind fun r34 =>
        if r33 = r34 then
          some (.inr (.inr ((0, t4))))
        else
          some (.inl ((s29 + 1)))) 0).bind fun t30 =>
  sm t30 (fun t30 =>
    some ((1, t4))) (fun r => some r)
set_option maxRecDepth 100000 in
set_option maxHeartbeats 4000000 in
theorem kX7_sidesCanBeChosen (l : Launch) {A0 : AH} {o0 : Option Nat} {a1 : Option Nat} {r : Int32 × AH} (h : fX7_sidesCanBeChosen A0 o0 a1 = some r) : (∃ a, o0 = some a ∧ Hk A0 a = 8) ∧ Cn l yX7_sidesCanBeChosen cX7_sidesCanBeChosen 5 (some .boolean) 3 64 0 0 [vR o0, vR a1] A0 (some (vI r.1)) r.2 := by
  unfold fX7_sidesCanBeChosen at h
  replace h := bnd_e h
  obtain ⟨o1, e1, h⟩ := h
  obtain ⟨rfl, hk0⟩ := rcv_e e1
  refine ⟨⟨o1, rfl, hk0⟩, ?_⟩
  refine Cn.of (pad := 3) (lv0 := [some (vR (some o1)), some (vR a1), none, none, none]) (by decide +kernel) (Nat.le_of_ble_eq_true rfl) rfl ?_
  intro p e s m below meth c base D cy E
  generalize (List.map toV [vR (some o1), vR a1]).toArray = ar at E ⊢
  have E : EN p s m ar meth c D cy RX7 cX7_sidesCanBeChosen 5 (some .boolean) "sidesCanBeChosen" := E
  refine v_aload_n E dX7_sidesCanBeChosen_0 rfl ?_
  refine v_iconst (v := 2) E dX7_sidesCanBeChosen_1 (by decide) ?_
  refine v_aload_n E dX7_sidesCanBeChosen_2 rfl ?_
  replace h := bnd_e h
  obtain ⟨v1, ev1, h⟩ := h
  refine g7_45 E ev1 dX7_sidesCanBeChosen_3 ?_
  refine v_imul E dX7_sidesCanBeChosen_6 ?_
  replace h := bnd_e h
  obtain ⟨r2, er2, h⟩ := h
  refine v_callV (na := 1) (As := [vI (2 * v1)]) (rest := []) (ci := 4) (q := (RX4, TX4, 3)) E gw7_98 (by decide +kernel) rfl rfl (by decide) (kX4_scatter l er2).2 (kX4_scatter l er2).1 rfl rfl dX7_sidesCanBeChosen_7 ⟨Nat.le_of_ble_eq_true rfl, Nat.le_of_ble_eq_true rfl⟩ ⟨(Nat.le_of_ble_eq_true rfl), (Nat.le_of_ble_eq_true rfl)⟩ (Nat.le_of_ble_eq_true rfl) ?_
  refine v_iconst (v := 0) E dX7_sidesCanBeChosen_10 (by decide) ?_
  refine v_istore_n (lv' := [some (vR (some o1)), some (vR a1), some (vI 0), none, none]) E dX7_sidesCanBeChosen_11 (by decide) rfl ?_
  replace h := bnd_e h
  obtain ⟨t4, et4, h⟩ := h
  refine iter_V (S := Int32 × AH) (T := AH) (Ph := fun s3 => V p l e { frames := 3, cells := 0, slots := 0, locals := 64 } s m ar below meth c (MQ below (Qd base D cy (some (vI r.1)) r.2) ar s 0 0 (fun q => base ≤ q)) base D cy 5 12 [some (vR (some o1)), some (vR a1), some (vI s3.1), none, none] [] s3.2 0 0) (Pt := fun t4 => V p l e { frames := 3, cells := 0, slots := 0, locals := 64 } s m ar below meth c (MQ below (Qd base D cy (some (vI r.1)) r.2) ar s 0 0 (fun q => base ≤ q)) base D cy 5 111 [some (vR (some o1)), some (vR a1), none, none, none] [] t4 0 0) et4 (fun s3 w5 h hx => ?_) ?_
  · try dsimp only at h
    refine v_iload_n E dX7_sidesCanBeChosen_12 rfl ?_
    refine v_aload_n E dX7_sidesCanBeChosen_13 rfl ?_
    replace h := bnd_e h
    obtain ⟨v6, ev6, h⟩ := h
    refine g7_45 E ev6 dX7_sidesCanBeChosen_14 ?_
    refine v_icmp_ge (tgt := 111) E dX7_sidesCanBeChosen_17 (by decide) (fun c28 => ?_) (fun c28 => ?_)
    · rw [if_pos c28] at h
      refine v_drop (lv' := [some (vR (some o1)), some (vR a1), none, none, none]) [2] rfl ?_
      replace h := Option.some.inj h
      subst h
      exact hx
    · rw [if_neg c28] at h
      refine v_iconst (v := 0) E dX7_sidesCanBeChosen_20 (by decide) ?_
      refine v_istore_n (lv' := [some (vR (some o1)), some (vR a1), some (vI s3.1), some (vI 0), none]) E dX7_sidesCanBeChosen_21 (by decide) rfl ?_
      replace h := bnd_e h
      obtain ⟨t8, et8, h⟩ := h
      refine iter_V (S := Int32 × AH) (T := AH) (Ph := fun s7 => V p l e { frames := 3, cells := 0, slots := 0, locals := 64 } s m ar below meth c (MQ below (Qd base D cy (some (vI r.1)) r.2) ar s 0 0 (fun q => base ≤ q)) base D cy 5 22 [some (vR (some o1)), some (vR a1), some (vI s3.1), some (vI s7.1), none] [] s7.2 0 0) (Pt := fun t8 => V p l e { frames := 3, cells := 0, slots := 0, locals := 64 } s m ar below meth c (MQ below (Qd base D cy (some (vI r.1)) r.2) ar s 0 0 (fun q => base ≤ q)) base D cy 5 105 [some (vR (some o1)), some (vR a1), some (vI s3.1), none, none] [] t8 0 0) et8 (fun s7 w9 h hx => ?_) ?_
      · try dsimp only at h
        refine v_iload_n E dX7_sidesCanBeChosen_22 rfl ?_
        refine v_iload_n E dX7_sidesCanBeChosen_23 rfl ?_
        refine v_icmp_ge (tgt := 105) E dX7_sidesCanBeChosen_24 (by decide) (fun c26 => ?_) (fun c26 => ?_)
        · rw [if_pos c26] at h
          refine v_drop (lv' := [some (vR (some o1)), some (vR a1), some (vI s3.1), none, none]) [3] rfl ?_
          replace h := Option.some.inj h
          subst h
          exact hx
        · rw [if_neg c26] at h
          refine v_aload_n E dX7_sidesCanBeChosen_27 rfl ?_
          replace h := bnd_e h
          obtain ⟨v10, ev10, h⟩ := h
          refine g7_60 E ev10 dX7_sidesCanBeChosen_28 ?_
          refine v_iload_n E dX7_sidesCanBeChosen_31 rfl ?_
          replace h := bnd_e h
          obtain ⟨v11, ev11, h⟩ := h
          refine v_iaload E ev11 dX7_sidesCanBeChosen_32 ?_
          refine v_iload_n E dX7_sidesCanBeChosen_33 rfl ?_
          replace h := bnd_e h
          obtain ⟨r12, er12, h⟩ := h
          refine v_callSN (na := 2) (As := [vI v11, vI s7.1]) (rest := []) E gw7_104 gn7_104 q489 q86 (by decide +kernel) (kX11_isIn l er12) rfl rfl dX7_sidesCanBeChosen_34 ⟨Nat.le_of_ble_eq_true rfl, Nat.le_of_ble_eq_true rfl⟩ ⟨(Nat.le_of_ble_eq_true rfl), (Nat.le_of_ble_eq_true rfl)⟩ (Nat.le_of_ble_eq_true rfl) ?_
          refine jp_use h (fun K13 eK13 h => ?_)
          have hK13 : ∀ x25 : AH, K13 x25 = some w9 → V p l e { frames := 3, cells := 0, slots := 0, locals := 64 } s m ar below meth c (MQ below (Qd base D cy (some (vI r.1)) r.2) ar s 0 0 (fun q => base ≤ q)) base D cy 5 99 [some (vR (some o1)), some (vR a1), some (vI s3.1), some (vI s7.1), none] [] x25 0 0 := by
            intro x25 h
            rw [eK13] at h
            try dsimp only at h
            refine v_iinc (v := (s7.1 + 1)) (lv' := [some (vR (some o1)), some (vR a1), some (vI s3.1), some (vI (s7.1 + 1)), none]) E dX7_sidesCanBeChosen_99 rfl (by rfl) (by decide) rfl ?_
            refine v_goto (tgt := 22) E dX7_sidesCanBeChosen_102 (by decide) ?_
            replace h := Option.some.inj h
            subst h
            exact hx
          refine v_if_eq (tgt := 99) E dX7_sidesCanBeChosen_37 (by decide) (fun c24 => ?_) (fun c24 => ?_)
          · rw [if_pos c24] at h
            exact hK13 s7.2 h
          · rw [if_neg c24] at h
            refine v_aload_n E dX7_sidesCanBeChosen_40 rfl ?_
            refine v_iload_n E dX7_sidesCanBeChosen_41 rfl ?_
            refine v_iload_n E dX7_sidesCanBeChosen_42 rfl ?_
            replace h := bnd_e h
            obtain ⟨r14, er14, h⟩ := h
            refine v_callV (na := 2) (As := [vI s3.1, vI s7.1]) (rest := []) (ci := 7) (q := (RX7, TX7, 14)) E gw7_128 (by decide +kernel) rfl rfl (by decide) (kX7_sharedBetween l er14).2 (kX7_sharedBetween l er14).1 rfl rfl dX7_sidesCanBeChosen_43 ⟨Nat.le_of_ble_eq_true rfl, Nat.le_of_ble_eq_true rfl⟩ ⟨(Nat.le_of_ble_eq_true rfl), (Nat.le_of_ble_eq_true rfl)⟩ (Nat.le_of_ble_eq_true rfl) ?_
            replace h := bnd_e h
            obtain ⟨r15, er15, h⟩ := h
            refine v_callSN (na := 1) (As := [vI r14]) (rest := []) E gw7_125 gn7_125 q541 q86 (by decide +kernel) (kX11_isEven l er15) rfl rfl dX7_sidesCanBeChosen_46 ⟨Nat.le_of_ble_eq_true rfl, Nat.le_of_ble_eq_true rfl⟩ ⟨(Nat.le_of_ble_eq_true rfl), (Nat.le_of_ble_eq_true rfl)⟩ (Nat.le_of_ble_eq_true rfl) ?_
            refine v_istore (lv' := [some (vR (some o1)), some (vR a1), some (vI s3.1), some (vI s7.1), some (vI r15)]) E dX7_sidesCanBeChosen_49 (by decide) rfl ?_
            refine v_aload_n E dX7_sidesCanBeChosen_51 rfl ?_
            refine v_iconst (v := 2) E dX7_sidesCanBeChosen_52 (by decide) ?_
            refine v_iload_n E dX7_sidesCanBeChosen_53 rfl ?_
            refine v_imul E dX7_sidesCanBeChosen_54 ?_
            refine v_iload E dX7_sidesCanBeChosen_55 rfl ?_
            refine jp1_use h (fun K16 eK16 h => ?_)
            have hK16 : ∀ x18 : Int32, K16 x18 = some w9 → V p l e { frames := 3, cells := 0, slots := 0, locals := 64 } s m ar below meth c (MQ below (Qd base D cy (some (vI r.1)) r.2) ar s 0 0 (fun q => base ≤ q)) base D cy 5 71 [some (vR (some o1)), some (vR a1), some (vI s3.1), some (vI s7.1), some (vI r15)] [vI x18, vI (2 * s3.1), vR a1] s7.2 0 0 := by
              intro x18 h
              rw [eK16] at h
              try dsimp only at h
              replace h := bnd_e h
              obtain ⟨r19, er19, h⟩ := h
              refine v_callV (na := 2) (As := [vI (2 * s3.1), vI x18]) (rest := []) (ci := 4) (q := (RX4, TX4, 3)) E gw7_107 (by decide +kernel) rfl rfl (by decide) (kX4_join l er19).2 (kX4_join l er19).1 rfl rfl dX7_sidesCanBeChosen_71 ⟨Nat.le_of_ble_eq_true rfl, Nat.le_of_ble_eq_true rfl⟩ ⟨(Nat.le_of_ble_eq_true rfl), (Nat.le_of_ble_eq_true rfl)⟩ (Nat.le_of_ble_eq_true rfl) ?_
              refine v_aload_n E dX7_sidesCanBeChosen_74 rfl ?_
              refine v_iconst (v := 2) E dX7_sidesCanBeChosen_75 (by decide) ?_
              refine v_iload_n E dX7_sidesCanBeChosen_76 rfl ?_
              refine v_imul E dX7_sidesCanBeChosen_77 ?_
              refine v_iconst (v := 1) E dX7_sidesCanBeChosen_78 (by decide) ?_
              refine v_iadd E dX7_sidesCanBeChosen_79 ?_
              refine v_iload E dX7_sidesCanBeChosen_80 rfl ?_
              refine jp1_use h (fun K20 eK20 h => ?_)
              have hK20 : ∀ x22 : Int32, K20 x22 = some w9 → V p l e { frames := 3, cells := 0, slots := 0, locals := 64 } s m ar below meth c (MQ below (Qd base D cy (some (vI r.1)) r.2) ar s 0 0 (fun q => base ≤ q)) base D cy 5 96 [some (vR (some o1)), some (vR a1), some (vI s3.1), some (vI s7.1), none] [vI x22, vI ((2 * s3.1) + 1), vR a1] r19 0 0 := by
                intro x22 h
                rw [eK20] at h
                try dsimp only at h
                replace h := bnd_e h
                obtain ⟨r23, er23, h⟩ := h
                refine v_callV (na := 2) (As := [vI ((2 * s3.1) + 1), vI x22]) (rest := []) (ci := 4) (q := (RX4, TX4, 3)) E gw7_107 (by decide +kernel) rfl rfl (by decide) (kX4_join l er23).2 (kX4_join l er23).1 rfl rfl dX7_sidesCanBeChosen_96 ⟨Nat.le_of_ble_eq_true rfl, Nat.le_of_ble_eq_true rfl⟩ ⟨(Nat.le_of_ble_eq_true rfl), (Nat.le_of_ble_eq_true rfl)⟩ (Nat.le_of_ble_eq_true rfl) ?_
                exact hK13 r23 h
              refine v_if_eq (tgt := 91) E dX7_sidesCanBeChosen_82 (by decide) (fun c21 => ?_) (fun c21 => ?_)
              · rw [if_pos c21] at h
                refine v_iconst (v := 2) E dX7_sidesCanBeChosen_91 (by decide) ?_
                refine v_iload_n E dX7_sidesCanBeChosen_92 rfl ?_
                refine v_imul E dX7_sidesCanBeChosen_93 ?_
                refine v_iconst (v := 1) E dX7_sidesCanBeChosen_94 (by decide) ?_
                refine v_iadd E dX7_sidesCanBeChosen_95 ?_
                refine v_drop (lv' := [some (vR (some o1)), some (vR a1), some (vI s3.1), some (vI s7.1), none]) [4] rfl ?_
                exact hK20 (((2 * s7.1) + 1)) h
              · rw [if_neg c21] at h
                refine v_iconst (v := 2) E dX7_sidesCanBeChosen_85 (by decide) ?_
                refine v_iload_n E dX7_sidesCanBeChosen_86 rfl ?_
                refine v_imul E dX7_sidesCanBeChosen_87 ?_
                refine v_goto (tgt := 96) E dX7_sidesCanBeChosen_88 (by decide) ?_
                refine v_drop (lv' := [some (vR (some o1)), some (vR a1), some (vI s3.1), some (vI s7.1), none]) [4] rfl ?_
                exact hK20 ((2 * s7.1)) h
            refine v_if_eq (tgt := 68) E dX7_sidesCanBeChosen_57 (by decide) (fun c17 => ?_) (fun c17 => ?_)
            · rw [if_pos c17] at h
              refine v_iconst (v := 2) E dX7_sidesCanBeChosen_68 (by decide) ?_
              refine v_iload_n E dX7_sidesCanBeChosen_69 rfl ?_
              refine v_imul E dX7_sidesCanBeChosen_70 ?_
              exact hK16 ((2 * s7.1)) h
            · rw [if_neg c17] at h
              refine v_iconst (v := 2) E dX7_sidesCanBeChosen_60 (by decide) ?_
              refine v_iload_n E dX7_sidesCanBeChosen_61 rfl ?_
              refine v_imul E dX7_sidesCanBeChosen_62 ?_
              refine v_iconst (v := 1) E dX7_sidesCanBeChosen_63 (by decide) ?_
              refine v_iadd E dX7_sidesCanBeChosen_64 ?_
              refine v_goto (tgt := 71) E dX7_sidesCanBeChosen_65 (by decide) ?_
              exact hK16 (((2 * s7.1) + 1)) h
      · refine v_iinc (v := (s3.1 + 1)) (lv' := [some (vR (some o1)), some (vR a1), some (vI (s3.1 + 1)), none, none]) E dX7_sidesCanBeChosen_105 rfl (by rfl) (by decide) rfl ?_
        refine v_goto (tgt := 12) E dX7_sidesCanBeChosen_108 (by decide) ?_
        replace h := Option.some.inj h
        subst h
        exact hx
  · refine v_iconst (v := 0) E dX7_sidesCanBeChosen_111 (by decide) ?_
    refine v_istore_n (lv' := [some (vR (some o1)), some (vR a1), some (vI 0), none, none]) E dX7_sidesCanBeChosen_112 (by decide) rfl ?_
    replace h := bnd_e h
    obtain ⟨t30, et30, h⟩ := h
    refine iter_V (S := Int32) (T := (Unit) ⊕ (Int32 × AH)) (Ph := fun s29 => V p l e { frames := 3, cells := 0, slots := 0, locals := 64 } s m ar below meth c (MQ below (Qd base D cy (some (vI r.1)) r.2) ar s 0 0 (fun q => base ≤ q)) base D cy 5 113 [some (vR (some o1)), some (vR a1), some (vI s29), none, none] [] t4 0 0) (Pt := itM (fun t30 => V p l e { frames := 3, cells := 0, slots := 0, locals := 64 } s m ar below meth c (MQ below (Qd base D cy (some (vI r.1)) r.2) ar s 0 0 (fun q => base ≤ q)) base D cy 5 148 [none, none, none, none, none] [] t4 0 0) (fun z => z = r)) et30 (fun s29 w31 h hx => ?_) ?_
    · try dsimp only at h
      refine v_iload_n E dX7_sidesCanBeChosen_113 rfl ?_
      refine v_aload_n E dX7_sidesCanBeChosen_114 rfl ?_
      replace h := bnd_e h
      obtain ⟨v32, ev32, h⟩ := h
      refine g7_45 E ev32 dX7_sidesCanBeChosen_115 ?_
      refine v_icmp_ge (tgt := 148) E dX7_sidesCanBeChosen_118 (by decide) (fun c36 => ?_) (fun c36 => ?_)
      · rw [if_pos c36] at h
        refine v_drop (lv' := [none, none, none, none, none]) [0, 1, 2] rfl ?_
        replace h := Option.some.inj h
        subst h
        exact hx
      · rw [if_neg c36] at h
        refine v_aload_n E dX7_sidesCanBeChosen_121 rfl ?_
        refine v_iconst (v := 2) E dX7_sidesCanBeChosen_122 (by decide) ?_
        refine v_iload_n E dX7_sidesCanBeChosen_123 rfl ?_
        refine v_imul E dX7_sidesCanBeChosen_124 ?_
        replace h := bnd_e h
        obtain ⟨r33, er33, h⟩ := h
        refine v_callV (na := 1) (As := [vI (2 * s29)]) (rest := []) (ci := 4) (q := (RX4, TX4, 3)) E gw7_131 (by decide +kernel) rfl rfl (by decide) (kX4_leastWith l er33).2 (kX4_leastWith l er33).1 rfl rfl dX7_sidesCanBeChosen_125 ⟨Nat.le_of_ble_eq_true rfl, Nat.le_of_ble_eq_true rfl⟩ ⟨(Nat.le_of_ble_eq_true rfl), (Nat.le_of_ble_eq_true rfl)⟩ (Nat.le_of_ble_eq_true rfl) ?_
        refine v_aload_n E dX7_sidesCanBeChosen_128 rfl ?_
        refine v_iconst (v := 2) E dX7_sidesCanBeChosen_129 (by decide) ?_
        refine v_iload_n E dX7_sidesCanBeChosen_130 rfl ?_
        refine v_imul E dX7_sidesCanBeChosen_131 ?_
        refine v_iconst (v := 1) E dX7_sidesCanBeChosen_132 (by decide) ?_
        refine v_iadd E dX7_sidesCanBeChosen_133 ?_
        replace h := bnd_e h
        obtain ⟨r34, er34, h⟩ := h
        refine v_callV (na := 1) (As := [vI ((2 * s29) + 1)]) (rest := [vI r33]) (ci := 4) (q := (RX4, TX4, 3)) E gw7_131 (by decide +kernel) rfl rfl (by decide) (kX4_leastWith l er34).2 (kX4_leastWith l er34).1 rfl rfl dX7_sidesCanBeChosen_134 ⟨Nat.le_of_ble_eq_true rfl, Nat.le_of_ble_eq_true rfl⟩ ⟨(Nat.le_of_ble_eq_true rfl), (Nat.le_of_ble_eq_true rfl)⟩ (Nat.le_of_ble_eq_true rfl) ?_
        refine v_icmp_ne (tgt := 142) E dX7_sidesCanBeChosen_137 (by decide) (fun c35 => ?_) (fun c35 => ?_)
        · rw [if_neg c35] at h
          refine v_iinc (v := (s29 + 1)) (lv' := [some (vR (some o1)), some (vR a1), some (vI (s29 + 1)), none, none]) E dX7_sidesCanBeChosen_142 rfl (by rfl) (by decide) rfl ?_
          refine v_goto (tgt := 113) E dX7_sidesCanBeChosen_145 (by decide) ?_
          replace h := Option.some.inj h
          subst h
          exact hx
        · rw [if_pos c35] at h
          refine v_iconst (v := 0) E dX7_sidesCanBeChosen_140 (by decide) ?_
          replace h := Option.some.inj h
          subst h
          have hx : _ = r := hx
          subst hx
          refine v_widen (k' := 0) (n' := 0) (Nat.le_of_ble_eq_true rfl) (Nat.le_of_ble_eq_true rfl) ?_
          exact v_zret E (Or.inl rfl) dX7_sidesCanBeChosen_141
    · cases t30 with
      | inl t30 =>
        dsimp only [sm] at h
        refine v_iconst (v := 1) E dX7_sidesCanBeChosen_148 (by decide) ?_
        replace h := Option.some.inj h
        subst h
        refine v_widen (k' := 0) (n' := 0) (Nat.le_of_ble_eq_true rfl) (Nat.le_of_ble_eq_true rfl) ?_
        exact v_zret E (Or.inr rfl) dX7_sidesCanBeChosen_149
      | inr z =>
        exact Option.some.inj h
noncomputable def fX7_brokenLaw (A0 : AH) (o0 : Option Nat) (a1 : Option Nat) : Option (Int32 × AH) :=
  (rcv A0 8 o0).bind fun o0 =>
  (fX7_eachIsBetweenEvenly A0 ((some o0))).bind fun r1 =>
  if r1 = 0 then
    some ((1, A0))
  else
    (fX7_eachTwoApartShareEvenly A0 ((some o0))).bind fun r2 =>
    if r2 = 0 then
      some ((2, A0))
    else
      (fX7_sidesCanBeChosen A0 ((some o0)) a1).bind fun r3 =>
      if r3.1 = 0 then
        some ((3, r3.2))
      else
        some ((0, r3.2))
set_option maxRecDepth 100000 in
set_option maxHeartbeats 4000000 in
theorem kX7_brokenLaw (l : Launch) {A0 : AH} {o0 : Option Nat} {a1 : Option Nat} {r : Int32 × AH} (h : fX7_brokenLaw A0 o0 a1 = some r) : (∃ a, o0 = some a ∧ Hk A0 a = 8) ∧ Cn l yX7_brokenLaw cX7_brokenLaw 2 (some .int) 4 88 0 0 [vR o0, vR a1] A0 (some (vI r.1)) r.2 := by
  unfold fX7_brokenLaw at h
  replace h := bnd_e h
  obtain ⟨o1, e1, h⟩ := h
  obtain ⟨rfl, hk0⟩ := rcv_e e1
  refine ⟨⟨o1, rfl, hk0⟩, ?_⟩
  refine Cn.of (pad := 0) (lv0 := [some (vR (some o1)), some (vR a1)]) (by decide +kernel) (Nat.le_of_ble_eq_true rfl) rfl ?_
  intro p e s m below meth c base D cy E
  generalize (List.map toV [vR (some o1), vR a1]).toArray = ar at E ⊢
  have E : EN p s m ar meth c D cy RX7 cX7_brokenLaw 2 (some .int) "brokenLaw" := E
  refine v_aload_n E dX7_brokenLaw_0 rfl ?_
  replace h := bnd_e h
  obtain ⟨r1, er1, h⟩ := h
  refine v_callV (na := 0) (As := []) (rest := []) (ci := 7) (q := (RX7, TX7, 14)) E gw7_114 (by decide +kernel) rfl rfl (by decide) (kX7_eachIsBetweenEvenly l er1).2 (kX7_eachIsBetweenEvenly l er1).1 rfl rfl dX7_brokenLaw_1 ⟨Nat.le_of_ble_eq_true rfl, Nat.le_of_ble_eq_true rfl⟩ ⟨(Nat.le_of_ble_eq_true rfl), (Nat.le_of_ble_eq_true rfl)⟩ (Nat.le_of_ble_eq_true rfl) ?_
  refine v_if_ne (tgt := 9) E dX7_brokenLaw_4 (by decide) (fun c6 => ?_) (fun c6 => ?_)
  · rw [if_neg c6] at h
    refine v_aload_n E dX7_brokenLaw_9 rfl ?_
    replace h := bnd_e h
    obtain ⟨r2, er2, h⟩ := h
    refine v_callV (na := 0) (As := []) (rest := []) (ci := 7) (q := (RX7, TX7, 14)) E gw7_118 (by decide +kernel) rfl rfl (by decide) (kX7_eachTwoApartShareEvenly l er2).2 (kX7_eachTwoApartShareEvenly l er2).1 rfl rfl dX7_brokenLaw_10 ⟨Nat.le_of_ble_eq_true rfl, Nat.le_of_ble_eq_true rfl⟩ ⟨(Nat.le_of_ble_eq_true rfl), (Nat.le_of_ble_eq_true rfl)⟩ (Nat.le_of_ble_eq_true rfl) ?_
    refine v_if_ne (tgt := 18) E dX7_brokenLaw_13 (by decide) (fun c5 => ?_) (fun c5 => ?_)
    · rw [if_neg c5] at h
      refine v_aload_n E dX7_brokenLaw_18 rfl ?_
      refine v_aload_n E dX7_brokenLaw_19 rfl ?_
      replace h := bnd_e h
      obtain ⟨r3, er3, h⟩ := h
      refine v_callV (na := 1) (As := [vR a1]) (rest := []) (ci := 7) (q := (RX7, TX7, 14)) E gw7_121 (by decide +kernel) rfl rfl (by decide) (kX7_sidesCanBeChosen l er3).2 (kX7_sidesCanBeChosen l er3).1 rfl rfl dX7_brokenLaw_20 ⟨Nat.le_of_ble_eq_true rfl, Nat.le_of_ble_eq_true rfl⟩ ⟨(Nat.le_of_ble_eq_true rfl), (Nat.le_of_ble_eq_true rfl)⟩ (Nat.le_of_ble_eq_true rfl) ?_
      refine v_if_eq (tgt := 30) E dX7_brokenLaw_23 (by decide) (fun c4 => ?_) (fun c4 => ?_)
      · rw [if_pos c4] at h
        refine v_iconst (v := 3) E dX7_brokenLaw_30 (by decide) ?_
        replace h := Option.some.inj h
        subst h
        refine v_widen (k' := 0) (n' := 0) (Nat.le_of_ble_eq_true rfl) (Nat.le_of_ble_eq_true rfl) ?_
        exact v_iret E dX7_brokenLaw_31
      · rw [if_neg c4] at h
        refine v_iconst (v := 0) E dX7_brokenLaw_26 (by decide) ?_
        refine v_goto (tgt := 31) E dX7_brokenLaw_27 (by decide) ?_
        replace h := Option.some.inj h
        subst h
        refine v_widen (k' := 0) (n' := 0) (Nat.le_of_ble_eq_true rfl) (Nat.le_of_ble_eq_true rfl) ?_
        exact v_iret E dX7_brokenLaw_31
    · rw [if_pos c5] at h
      refine v_iconst (v := 2) E dX7_brokenLaw_16 (by decide) ?_
      replace h := Option.some.inj h
      subst h
      refine v_widen (k' := 0) (n' := 0) (Nat.le_of_ble_eq_true rfl) (Nat.le_of_ble_eq_true rfl) ?_
      exact v_iret E dX7_brokenLaw_17
  · rw [if_pos c6] at h
    refine v_iconst (v := 1) E dX7_brokenLaw_7 (by decide) ?_
    replace h := Option.some.inj h
    subst h
    refine v_widen (k' := 0) (n' := 0) (Nat.le_of_ble_eq_true rfl) (Nat.le_of_ble_eq_true rfl) ?_
    exact v_iret E dX7_brokenLaw_8
noncomputable def fX10_signSet (A0 : AH) (o0 : Option Nat) : Option (Int32) :=
  (rcv A0 11 o0).bind fun o0 =>
  (gI A0 11 321 ((some o0))).bind fun v1 =>
  some v1
set_option maxRecDepth 100000 in
set_option maxHeartbeats 4000000 in
theorem kX10_signSet (l : Launch) {A0 : AH} {o0 : Option Nat} {r : Int32} (h : fX10_signSet A0 o0 = some r) : (∃ a, o0 = some a ∧ Hk A0 a = 11) ∧ Cn l yX10_signSet cX10_signSet 1 (some .int) 0 0 0 0 [vR o0] A0 (some (vI r)) A0 := by
  unfold fX10_signSet at h
  replace h := bnd_e h
  obtain ⟨o1, e1, h⟩ := h
  obtain ⟨rfl, hk0⟩ := rcv_e e1
  refine ⟨⟨o1, rfl, hk0⟩, ?_⟩
  refine Cn.of (pad := 0) (lv0 := [some (vR (some o1))]) (by decide +kernel) (Nat.le_of_ble_eq_true rfl) rfl ?_
  intro p e s m below meth c base D cy E
  generalize (List.map toV [vR (some o1)]).toArray = ar at E ⊢
  have E : EN p s m ar meth c D cy RX10 cX10_signSet 1 (some .int) "signSet" := E
  refine v_aload_n E dX10_signSet_0 rfl ?_
  replace h := bnd_e h
  obtain ⟨v1, ev1, h⟩ := h
  refine g10_17 E ev1 dX10_signSet_1 ?_
  replace h := Option.some.inj h
  subst h
  refine v_widen (k' := 0) (n' := 0) (Nat.le_of_ble_eq_true rfl) (Nat.le_of_ble_eq_true rfl) ?_
  exact v_iret E dX10_signSet_4
noncomputable def fX7_placeCount (A0 : AH) (o0 : Option Nat) : Option (Int32) :=
  (rcv A0 8 o0).bind fun o0 =>
  (gI A0 8 225 ((some o0))).bind fun v1 =>
  some v1
set_option maxRecDepth 100000 in
set_option maxHeartbeats 4000000 in
theorem kX7_placeCount (l : Launch) {A0 : AH} {o0 : Option Nat} {r : Int32} (h : fX7_placeCount A0 o0 = some r) : (∃ a, o0 = some a ∧ Hk A0 a = 8) ∧ Cn l yX7_placeCount cX7_placeCount 1 (some .int) 0 0 0 0 [vR o0] A0 (some (vI r)) A0 := by
  unfold fX7_placeCount at h
  replace h := bnd_e h
  obtain ⟨o1, e1, h⟩ := h
  obtain ⟨rfl, hk0⟩ := rcv_e e1
  refine ⟨⟨o1, rfl, hk0⟩, ?_⟩
  refine Cn.of (pad := 0) (lv0 := [some (vR (some o1))]) (by decide +kernel) (Nat.le_of_ble_eq_true rfl) rfl ?_
  intro p e s m below meth c base D cy E
  generalize (List.map toV [vR (some o1)]).toArray = ar at E ⊢
  have E : EN p s m ar meth c D cy RX7 cX7_placeCount 1 (some .int) "placeCount" := E
  refine v_aload_n E dX7_placeCount_0 rfl ?_
  replace h := bnd_e h
  obtain ⟨v1, ev1, h⟩ := h
  refine g7_48 E ev1 dX7_placeCount_1 ?_
  replace h := Option.some.inj h
  subst h
  refine v_widen (k' := 0) (n' := 0) (Nat.le_of_ble_eq_true rfl) (Nat.le_of_ble_eq_true rfl) ?_
  exact v_iret E dX7_placeCount_4
noncomputable def fX7_hasPlace (A0 : AH) (o0 : Option Nat) (a1 : Int32) : Option (Int32) :=
  (rcv A0 8 o0).bind fun o0 =>
  if a1 < 0 then
    some 0
  else
    (gI A0 8 225 ((some o0))).bind fun v1 =>
    if v1 ≤ a1 then
      some 0
    else
      some 1
set_option maxRecDepth 100000 in
set_option maxHeartbeats 4000000 in
theorem kX7_hasPlace (l : Launch) {A0 : AH} {o0 : Option Nat} {a1 : Int32} {r : Int32} (h : fX7_hasPlace A0 o0 a1 = some r) : (∃ a, o0 = some a ∧ Hk A0 a = 8) ∧ Cn l yX7_hasPlace cX7_hasPlace 2 (some .boolean) 0 0 0 0 [vR o0, vI a1] A0 (some (vI r)) A0 := by
  unfold fX7_hasPlace at h
  replace h := bnd_e h
  obtain ⟨o1, e1, h⟩ := h
  obtain ⟨rfl, hk0⟩ := rcv_e e1
  refine ⟨⟨o1, rfl, hk0⟩, ?_⟩
  refine Cn.of (pad := 0) (lv0 := [some (vR (some o1)), some (vI a1)]) (by decide +kernel) (Nat.le_of_ble_eq_true rfl) rfl ?_
  intro p e s m below meth c base D cy E
  generalize (List.map toV [vR (some o1), vI a1]).toArray = ar at E ⊢
  have E : EN p s m ar meth c D cy RX7 cX7_hasPlace 2 (some .boolean) "hasPlace" := E
  refine v_iload_n E dX7_hasPlace_0 rfl ?_
  refine v_if_lt (tgt := 16) E dX7_hasPlace_1 (by decide) (fun c3 => ?_) (fun c3 => ?_)
  · rw [if_pos c3] at h
    refine v_iconst (v := 0) E dX7_hasPlace_16 (by decide) ?_
    replace h := Option.some.inj h
    subst h
    refine v_widen (k' := 0) (n' := 0) (Nat.le_of_ble_eq_true rfl) (Nat.le_of_ble_eq_true rfl) ?_
    exact v_zret E (Or.inl rfl) dX7_hasPlace_17
  · rw [if_neg c3] at h
    refine v_iload_n E dX7_hasPlace_4 rfl ?_
    refine v_aload_n E dX7_hasPlace_5 rfl ?_
    replace h := bnd_e h
    obtain ⟨v1, ev1, h⟩ := h
    refine g7_48 E ev1 dX7_hasPlace_6 ?_
    refine v_icmp_ge (tgt := 16) E dX7_hasPlace_9 (by decide) (fun c2 => ?_) (fun c2 => ?_)
    · rw [if_pos c2] at h
      refine v_iconst (v := 0) E dX7_hasPlace_16 (by decide) ?_
      replace h := Option.some.inj h
      subst h
      refine v_widen (k' := 0) (n' := 0) (Nat.le_of_ble_eq_true rfl) (Nat.le_of_ble_eq_true rfl) ?_
      exact v_zret E (Or.inl rfl) dX7_hasPlace_17
    · rw [if_neg c2] at h
      refine v_iconst (v := 1) E dX7_hasPlace_12 (by decide) ?_
      refine v_goto (tgt := 17) E dX7_hasPlace_13 (by decide) ?_
      replace h := Option.some.inj h
      subst h
      refine v_widen (k' := 0) (n' := 0) (Nat.le_of_ble_eq_true rfl) (Nat.le_of_ble_eq_true rfl) ?_
      exact v_zret E (Or.inr rfl) dX7_hasPlace_17
noncomputable def fX7_isFirstOfLetter (A0 : AH) (o0 : Option Nat) (a1 : Int32) : Option (Int32) :=
  (rcv A0 8 o0).bind fun o0 =>
  (fX7_hasPlace A0 ((some o0)) a1).bind fun r1 =>
  if r1 = 0 then
    some 0
  else
    (gR A0 8 227 ((some o0))).bind fun v2 =>
    (gR A0 8 226 ((some o0))).bind fun v3 =>
    (aI A0 14 v3 a1).bind fun v4 =>
    (aI A0 14 v2 v4).bind fun v5 =>
    if v5 = a1 then
      some 1
    else
      some 0
set_option maxRecDepth 100000 in
set_option maxHeartbeats 4000000 in
theorem kX7_isFirstOfLetter (l : Launch) {A0 : AH} {o0 : Option Nat} {a1 : Int32} {r : Int32} (h : fX7_isFirstOfLetter A0 o0 a1 = some r) : (∃ a, o0 = some a ∧ Hk A0 a = 8) ∧ Cn l yX7_isFirstOfLetter cX7_isFirstOfLetter 2 (some .boolean) 1 21 0 0 [vR o0, vI a1] A0 (some (vI r)) A0 := by
  unfold fX7_isFirstOfLetter at h
  replace h := bnd_e h
  obtain ⟨o1, e1, h⟩ := h
  obtain ⟨rfl, hk0⟩ := rcv_e e1
  refine ⟨⟨o1, rfl, hk0⟩, ?_⟩
  refine Cn.of (pad := 0) (lv0 := [some (vR (some o1)), some (vI a1)]) (by decide +kernel) (Nat.le_of_ble_eq_true rfl) rfl ?_
  intro p e s m below meth c base D cy E
  generalize (List.map toV [vR (some o1), vI a1]).toArray = ar at E ⊢
  have E : EN p s m ar meth c D cy RX7 cX7_isFirstOfLetter 2 (some .boolean) "isFirstOfLetter" := E
  refine v_aload_n E dX7_isFirstOfLetter_0 rfl ?_
  refine v_iload_n E dX7_isFirstOfLetter_1 rfl ?_
  replace h := bnd_e h
  obtain ⟨r1, er1, h⟩ := h
  refine v_callV (na := 1) (As := [vI a1]) (rest := []) (ci := 7) (q := (RX7, TX7, 14)) E gw7_84 (by decide +kernel) rfl rfl (by decide) (kX7_hasPlace l er1).2 (kX7_hasPlace l er1).1 rfl rfl dX7_isFirstOfLetter_2 ⟨Nat.le_of_ble_eq_true rfl, Nat.le_of_ble_eq_true rfl⟩ ⟨(Nat.le_of_ble_eq_true rfl), (Nat.le_of_ble_eq_true rfl)⟩ (Nat.le_of_ble_eq_true rfl) ?_
  refine v_if_eq (tgt := 27) E dX7_isFirstOfLetter_5 (by decide) (fun c7 => ?_) (fun c7 => ?_)
  · rw [if_pos c7] at h
    refine v_iconst (v := 0) E dX7_isFirstOfLetter_27 (by decide) ?_
    replace h := Option.some.inj h
    subst h
    refine v_widen (k' := 0) (n' := 0) (Nat.le_of_ble_eq_true rfl) (Nat.le_of_ble_eq_true rfl) ?_
    exact v_zret E (Or.inl rfl) dX7_isFirstOfLetter_28
  · rw [if_neg c7] at h
    refine v_aload_n E dX7_isFirstOfLetter_8 rfl ?_
    replace h := bnd_e h
    obtain ⟨v2, ev2, h⟩ := h
    refine g7_54 E ev2 dX7_isFirstOfLetter_9 ?_
    refine v_aload_n E dX7_isFirstOfLetter_12 rfl ?_
    replace h := bnd_e h
    obtain ⟨v3, ev3, h⟩ := h
    refine g7_51 E ev3 dX7_isFirstOfLetter_13 ?_
    refine v_iload_n E dX7_isFirstOfLetter_16 rfl ?_
    replace h := bnd_e h
    obtain ⟨v4, ev4, h⟩ := h
    refine v_iaload E ev4 dX7_isFirstOfLetter_17 ?_
    replace h := bnd_e h
    obtain ⟨v5, ev5, h⟩ := h
    refine v_iaload E ev5 dX7_isFirstOfLetter_18 ?_
    refine v_iload_n E dX7_isFirstOfLetter_19 rfl ?_
    refine v_icmp_ne (tgt := 27) E dX7_isFirstOfLetter_20 (by decide) (fun c6 => ?_) (fun c6 => ?_)
    · rw [if_neg c6] at h
      refine v_iconst (v := 0) E dX7_isFirstOfLetter_27 (by decide) ?_
      replace h := Option.some.inj h
      subst h
      refine v_widen (k' := 0) (n' := 0) (Nat.le_of_ble_eq_true rfl) (Nat.le_of_ble_eq_true rfl) ?_
      exact v_zret E (Or.inl rfl) dX7_isFirstOfLetter_28
    · rw [if_pos c6] at h
      refine v_iconst (v := 1) E dX7_isFirstOfLetter_23 (by decide) ?_
      refine v_goto (tgt := 28) E dX7_isFirstOfLetter_24 (by decide) ?_
      replace h := Option.some.inj h
      subst h
      refine v_widen (k' := 0) (n' := 0) (Nat.le_of_ble_eq_true rfl) (Nat.le_of_ble_eq_true rfl) ?_
      exact v_zret E (Or.inr rfl) dX7_isFirstOfLetter_28
noncomputable def fX7_letterOn (A0 : AH) (o0 : Option Nat) (a1 : Int32) : Option (Int32) :=
  (rcv A0 8 o0).bind fun o0 =>
  (fX7_hasPlace A0 ((some o0)) a1).bind fun r1 =>
  if r1 = 0 then
    some ((-1))
  else
    (gR A0 8 226 ((some o0))).bind fun v2 =>
    (aI A0 14 v2 a1).bind fun v3 =>
    some v3
set_option maxRecDepth 100000 in
set_option maxHeartbeats 4000000 in
theorem kX7_letterOn (l : Launch) {A0 : AH} {o0 : Option Nat} {a1 : Int32} {r : Int32} (h : fX7_letterOn A0 o0 a1 = some r) : (∃ a, o0 = some a ∧ Hk A0 a = 8) ∧ Cn l yX7_letterOn cX7_letterOn 2 (some .int) 1 21 0 0 [vR o0, vI a1] A0 (some (vI r)) A0 := by
  unfold fX7_letterOn at h
  replace h := bnd_e h
  obtain ⟨o1, e1, h⟩ := h
  obtain ⟨rfl, hk0⟩ := rcv_e e1
  refine ⟨⟨o1, rfl, hk0⟩, ?_⟩
  refine Cn.of (pad := 0) (lv0 := [some (vR (some o1)), some (vI a1)]) (by decide +kernel) (Nat.le_of_ble_eq_true rfl) rfl ?_
  intro p e s m below meth c base D cy E
  generalize (List.map toV [vR (some o1), vI a1]).toArray = ar at E ⊢
  have E : EN p s m ar meth c D cy RX7 cX7_letterOn 2 (some .int) "letterOn" := E
  refine v_aload_n E dX7_letterOn_0 rfl ?_
  refine v_iload_n E dX7_letterOn_1 rfl ?_
  replace h := bnd_e h
  obtain ⟨r1, er1, h⟩ := h
  refine v_callV (na := 1) (As := [vI a1]) (rest := []) (ci := 7) (q := (RX7, TX7, 14)) E gw7_84 (by decide +kernel) rfl rfl (by decide) (kX7_hasPlace l er1).2 (kX7_hasPlace l er1).1 rfl rfl dX7_letterOn_2 ⟨Nat.le_of_ble_eq_true rfl, Nat.le_of_ble_eq_true rfl⟩ ⟨(Nat.le_of_ble_eq_true rfl), (Nat.le_of_ble_eq_true rfl)⟩ (Nat.le_of_ble_eq_true rfl) ?_
  refine v_if_eq (tgt := 17) E dX7_letterOn_5 (by decide) (fun c4 => ?_) (fun c4 => ?_)
  · rw [if_pos c4] at h
    refine v_iconst (v := (-1)) E dX7_letterOn_17 (by decide) ?_
    replace h := Option.some.inj h
    subst h
    refine v_widen (k' := 0) (n' := 0) (Nat.le_of_ble_eq_true rfl) (Nat.le_of_ble_eq_true rfl) ?_
    exact v_iret E dX7_letterOn_18
  · rw [if_neg c4] at h
    refine v_aload_n E dX7_letterOn_8 rfl ?_
    replace h := bnd_e h
    obtain ⟨v2, ev2, h⟩ := h
    refine g7_51 E ev2 dX7_letterOn_9 ?_
    refine v_iload_n E dX7_letterOn_12 rfl ?_
    replace h := bnd_e h
    obtain ⟨v3, ev3, h⟩ := h
    refine v_iaload E ev3 dX7_letterOn_13 ?_
    refine v_goto (tgt := 18) E dX7_letterOn_14 (by decide) ?_
    replace h := Option.some.inj h
    subst h
    refine v_widen (k' := 0) (n' := 0) (Nat.le_of_ble_eq_true rfl) (Nat.le_of_ble_eq_true rfl) ?_
    exact v_iret E dX7_letterOn_18
noncomputable def fX3_endLeaving (A0 : AH) (a1 : Option Nat) (a2 : Int32) (a3 : Int32) : Option (Int32) :=
  (fX7_isFirstOfLetter A0 a1 a2).bind fun r1 =>
  if r1 = 0 then
    (fX7_letterOn A0 a1 a2).bind fun r2 =>
    (fX11_isIn A0 a3 r2).bind fun r3 =>
    if r3 = 0 then
      some 1
    else
      some 3
  else
    some 0
set_option maxRecDepth 100000 in
set_option maxHeartbeats 4000000 in
theorem kX3_endLeaving (l : Launch) {A0 : AH} {a1 : Option Nat} {a2 : Int32} {a3 : Int32} {r : Int32} (h : fX3_endLeaving A0 a1 a2 a3 = some r) : Cn l yX3_endLeaving cX3_endLeaving 3 (some .int) 2 42 0 0 [vR a1, vI a2, vI a3] A0 (some (vI r)) A0 := by
  unfold fX3_endLeaving at h
  refine Cn.of (pad := 0) (lv0 := [some (vR a1), some (vI a2), some (vI a3)]) (by decide +kernel) (Nat.le_of_ble_eq_true rfl) rfl ?_
  intro p e s m below meth c base D cy E
  generalize (List.map toV [vR a1, vI a2, vI a3]).toArray = ar at E ⊢
  have E : EN p s m ar meth c D cy RX3 cX3_endLeaving 3 (some .int) "endLeaving" := E
  refine v_aload_n E dX3_endLeaving_0 rfl ?_
  refine v_iload_n E dX3_endLeaving_1 rfl ?_
  replace h := bnd_e h
  obtain ⟨r1, er1, h⟩ := h
  refine v_callV (na := 1) (As := [vI a2]) (rest := []) (ci := 7) (q := (RX7, TX7, 14)) E gw3_92 (by decide +kernel) rfl rfl (by decide) (kX7_isFirstOfLetter l er1).2 (kX7_isFirstOfLetter l er1).1 rfl rfl dX3_endLeaving_2 ⟨Nat.le_of_ble_eq_true rfl, Nat.le_of_ble_eq_true rfl⟩ ⟨(Nat.le_of_ble_eq_true rfl), (Nat.le_of_ble_eq_true rfl)⟩ (Nat.le_of_ble_eq_true rfl) ?_
  refine v_if_eq (tgt := 10) E dX3_endLeaving_5 (by decide) (fun c5 => ?_) (fun c5 => ?_)
  · rw [if_pos c5] at h
    refine v_iload_n E dX3_endLeaving_10 rfl ?_
    refine v_aload_n E dX3_endLeaving_11 rfl ?_
    refine v_iload_n E dX3_endLeaving_12 rfl ?_
    replace h := bnd_e h
    obtain ⟨r2, er2, h⟩ := h
    refine v_callV (na := 1) (As := [vI a2]) (rest := [vI a3]) (ci := 7) (q := (RX7, TX7, 14)) E gw3_79 (by decide +kernel) rfl rfl (by decide) (kX7_letterOn l er2).2 (kX7_letterOn l er2).1 rfl rfl dX3_endLeaving_13 ⟨Nat.le_of_ble_eq_true rfl, Nat.le_of_ble_eq_true rfl⟩ ⟨(Nat.le_of_ble_eq_true rfl), (Nat.le_of_ble_eq_true rfl)⟩ (Nat.le_of_ble_eq_true rfl) ?_
    replace h := bnd_e h
    obtain ⟨r3, er3, h⟩ := h
    refine v_callSN (na := 2) (As := [vI a3, vI r2]) (rest := []) E gw3_96 gn3_96 q489 q86 (by decide +kernel) (kX11_isIn l er3) rfl rfl dX3_endLeaving_16 ⟨Nat.le_of_ble_eq_true rfl, Nat.le_of_ble_eq_true rfl⟩ ⟨(Nat.le_of_ble_eq_true rfl), (Nat.le_of_ble_eq_true rfl)⟩ (Nat.le_of_ble_eq_true rfl) ?_
    refine v_if_eq (tgt := 26) E dX3_endLeaving_19 (by decide) (fun c4 => ?_) (fun c4 => ?_)
    · rw [if_pos c4] at h
      refine v_iconst (v := 1) E dX3_endLeaving_26 (by decide) ?_
      replace h := Option.some.inj h
      subst h
      refine v_widen (k' := 0) (n' := 0) (Nat.le_of_ble_eq_true rfl) (Nat.le_of_ble_eq_true rfl) ?_
      exact v_iret E dX3_endLeaving_27
    · rw [if_neg c4] at h
      refine v_iconst (v := 3) E dX3_endLeaving_22 (by decide) ?_
      refine v_goto (tgt := 27) E dX3_endLeaving_23 (by decide) ?_
      replace h := Option.some.inj h
      subst h
      refine v_widen (k' := 0) (n' := 0) (Nat.le_of_ble_eq_true rfl) (Nat.le_of_ble_eq_true rfl) ?_
      exact v_iret E dX3_endLeaving_27
  · rw [if_neg c5] at h
    refine v_iconst (v := 0) E dX3_endLeaving_8 (by decide) ?_
    replace h := Option.some.inj h
    subst h
    refine v_widen (k' := 0) (n' := 0) (Nat.le_of_ble_eq_true rfl) (Nat.le_of_ble_eq_true rfl) ?_
    exact v_iret E dX3_endLeaving_9
noncomputable def fX3_corner (A0 : AH) (a1 : Int32) (a2 : Int32) : Option (Int32) :=
  some (((4 * a1) + (a2 &&& 3)))
set_option maxRecDepth 100000 in
set_option maxHeartbeats 4000000 in
theorem kX3_corner (l : Launch) {A0 : AH} {a1 : Int32} {a2 : Int32} {r : Int32} (h : fX3_corner A0 a1 a2 = some r) : Cn l yX3_corner cX3_corner 2 (some .int) 0 0 0 0 [vI a1, vI a2] A0 (some (vI r)) A0 := by
  unfold fX3_corner at h
  refine Cn.of (pad := 0) (lv0 := [some (vI a1), some (vI a2)]) (by decide +kernel) (Nat.le_of_ble_eq_true rfl) rfl ?_
  intro p e s m below meth c base D cy E
  generalize (List.map toV [vI a1, vI a2]).toArray = ar at E ⊢
  have E : EN p s m ar meth c D cy RX3 cX3_corner 2 (some .int) "corner" := E
  refine v_iconst (v := 4) E dX3_corner_0 (by decide) ?_
  refine v_iload_n E dX3_corner_1 rfl ?_
  refine v_imul E dX3_corner_2 ?_
  refine v_iload_n E dX3_corner_3 rfl ?_
  refine v_iconst (v := 3) E dX3_corner_4 (by decide) ?_
  refine v_iand E dX3_corner_5 ?_
  refine v_iadd E dX3_corner_6 ?_
  replace h := Option.some.inj h
  subst h
  refine v_widen (k' := 0) (n' := 0) (Nat.le_of_ble_eq_true rfl) (Nat.le_of_ble_eq_true rfl) ?_
  exact v_iret E dX3_corner_7
noncomputable def fX3_countIn (A0 : AH) (a1 : Option Nat) (a2 : Int32) (a3 : Option Nat) : Option (Int32 × AH) :=
  (fX7_letterCount A0 a1).bind fun r1 =>
  (fX4_scatter A0 a3 ((4 * r1))).bind fun r2 =>
  (iter (S := Int32 × AH) (T := AH) (fun s3 =>
      (fX7_placeCount s3.2 a1).bind fun r6 =>
      if r6 ≤ s3.1 then
        some (.inr s3.2)
      else
        (fX7_placeBehind s3.2 a1 s3.1).bind fun r7 =>
        (fX3_endLeaving s3.2 a1 s3.1 a2).bind fun r8 =>
        (fX3_endLeaving s3.2 a1 r7 a2).bind fun r9 =>
        (fX7_letterOn s3.2 a1 s3.1).bind fun r10 =>
        (fX3_corner s3.2 r10 r8).bind fun r11 =>
        (fX7_letterOn s3.2 a1 r7).bind fun r12 =>
        (fX3_corner s3.2 r12 (((r9 + 2) - 1))).bind fun r13 =>
        (fX4_join s3.2 a3 r11 r13).bind fun r14 =>
        (fX7_letterOn r14 a1 s3.1).bind fun r15 =>
        (fX3_corner r14 r15 ((r8 - 1))).bind fun r16 =>
        (fX7_letterOn r14 a1 r7).bind fun r17 =>
        (fX3_corner r14 r17 ((r9 + 2))).bind fun r18 =>
        (fX4_join r14 a3 r16 r18).bind fun r19 =>
        some (.inl ((s3.1 + 1), r19))) (0, r2)).bind fun t4 =>
  (fX7_letterCount t4 a1).bind fun r21 =>
  if r21 = 0 then
    some ((2, t4))
  else
    (fX4_count t4 a3).bind fun r22 =>
    some ((r22, t4))
set_option maxRecDepth 100000 in
set_option maxHeartbeats 4000000 in
theorem kX3_countIn (l : Launch) {A0 : AH} {a1 : Option Nat} {a2 : Int32} {a3 : Option Nat} {r : Int32 × AH} (h : fX3_countIn A0 a1 a2 a3 = some r) : Cn l yX3_countIn cX3_countIn 7 (some .int) 3 64 0 0 [vR a1, vI a2, vR a3] A0 (some (vI r.1)) r.2 := by
  unfold fX3_countIn at h
  refine Cn.of (pad := 4) (lv0 := [some (vR a1), some (vI a2), some (vR a3), none, none, none, none]) (by decide +kernel) (Nat.le_of_ble_eq_true rfl) rfl ?_
  intro p e s m below meth c base D cy E
  generalize (List.map toV [vR a1, vI a2, vR a3]).toArray = ar at E ⊢
  have E : EN p s m ar meth c D cy RX3 cX3_countIn 7 (some .int) "countIn" := E
  refine v_aload_n E dX3_countIn_0 rfl ?_
  refine v_iconst (v := 4) E dX3_countIn_1 (by decide) ?_
  refine v_aload_n E dX3_countIn_2 rfl ?_
  replace h := bnd_e h
  obtain ⟨r1, er1, h⟩ := h
  refine v_callV (na := 0) (As := []) (rest := [vI 4, vR a3]) (ci := 7) (q := (RX7, TX7, 14)) E gw3_23 (by decide +kernel) rfl rfl (by decide) (kX7_letterCount l er1).2 (kX7_letterCount l er1).1 rfl rfl dX3_countIn_3 ⟨Nat.le_of_ble_eq_true rfl, Nat.le_of_ble_eq_true rfl⟩ ⟨(Nat.le_of_ble_eq_true rfl), (Nat.le_of_ble_eq_true rfl)⟩ (Nat.le_of_ble_eq_true rfl) ?_
  refine v_imul E dX3_countIn_6 ?_
  replace h := bnd_e h
  obtain ⟨r2, er2, h⟩ := h
  refine v_callV (na := 1) (As := [vI (4 * r1)]) (rest := []) (ci := 4) (q := (RX4, TX4, 3)) E gw3_63 (by decide +kernel) rfl rfl (by decide) (kX4_scatter l er2).2 (kX4_scatter l er2).1 rfl rfl dX3_countIn_7 ⟨Nat.le_of_ble_eq_true rfl, Nat.le_of_ble_eq_true rfl⟩ ⟨(Nat.le_of_ble_eq_true rfl), (Nat.le_of_ble_eq_true rfl)⟩ (Nat.le_of_ble_eq_true rfl) ?_
  refine v_iconst (v := 0) E dX3_countIn_10 (by decide) ?_
  refine v_istore_n (lv' := [some (vR a1), some (vI a2), some (vR a3), some (vI 0), none, none, none]) E dX3_countIn_11 (by decide) rfl ?_
  replace h := bnd_e h
  obtain ⟨t4, et4, h⟩ := h
  refine iter_V (S := Int32 × AH) (T := AH) (Ph := fun s3 => V p l e { frames := 3, cells := 0, slots := 0, locals := 64 } s m ar below meth c (MQ below (Qd base D cy (some (vI r.1)) r.2) ar s 0 0 (fun q => base ≤ q)) base D cy 7 12 [some (vR a1), some (vI a2), some (vR a3), some (vI s3.1), none, none, none] [] s3.2 0 0) (Pt := fun t4 => V p l e { frames := 3, cells := 0, slots := 0, locals := 64 } s m ar below meth c (MQ below (Qd base D cy (some (vI r.1)) r.2) ar s 0 0 (fun q => base ≤ q)) base D cy 7 106 [some (vR a1), none, some (vR a3), none, none, none, none] [] t4 0 0) et4 (fun s3 w5 h hx => ?_) ?_
  · try dsimp only at h
    refine v_iload_n E dX3_countIn_12 rfl ?_
    refine v_aload_n E dX3_countIn_13 rfl ?_
    replace h := bnd_e h
    obtain ⟨r6, er6, h⟩ := h
    refine v_callV (na := 0) (As := []) (rest := [vI s3.1]) (ci := 7) (q := (RX7, TX7, 14)) E gw3_68 (by decide +kernel) rfl rfl (by decide) (kX7_placeCount l er6).2 (kX7_placeCount l er6).1 rfl rfl dX3_countIn_14 ⟨Nat.le_of_ble_eq_true rfl, Nat.le_of_ble_eq_true rfl⟩ ⟨(Nat.le_of_ble_eq_true rfl), (Nat.le_of_ble_eq_true rfl)⟩ (Nat.le_of_ble_eq_true rfl) ?_
    refine v_icmp_ge (tgt := 106) E dX3_countIn_17 (by decide) (fun c20 => ?_) (fun c20 => ?_)
    · rw [if_pos c20] at h
      refine v_drop (lv' := [some (vR a1), none, some (vR a3), none, none, none, none]) [1, 3] rfl ?_
      replace h := Option.some.inj h
      subst h
      exact hx
    · rw [if_neg c20] at h
      refine v_aload_n E dX3_countIn_20 rfl ?_
      refine v_iload_n E dX3_countIn_21 rfl ?_
      replace h := bnd_e h
      obtain ⟨r7, er7, h⟩ := h
      refine v_callV (na := 1) (As := [vI s3.1]) (rest := []) (ci := 7) (q := (RX7, TX7, 14)) E gw3_71 (by decide +kernel) rfl rfl (by decide) (kX7_placeBehind l er7).2 (kX7_placeBehind l er7).1 rfl rfl dX3_countIn_22 ⟨Nat.le_of_ble_eq_true rfl, Nat.le_of_ble_eq_true rfl⟩ ⟨(Nat.le_of_ble_eq_true rfl), (Nat.le_of_ble_eq_true rfl)⟩ (Nat.le_of_ble_eq_true rfl) ?_
      refine v_istore (lv' := [some (vR a1), some (vI a2), some (vR a3), some (vI s3.1), some (vI r7), none, none]) E dX3_countIn_25 (by decide) rfl ?_
      refine v_aload_n E dX3_countIn_27 rfl ?_
      refine v_iload_n E dX3_countIn_28 rfl ?_
      refine v_iload_n E dX3_countIn_29 rfl ?_
      replace h := bnd_e h
      obtain ⟨r8, er8, h⟩ := h
      refine v_callS (na := 3) (As := [vR a1, vI s3.1, vI a2]) (rest := []) E gw3_75 (by decide +kernel) (kX3_endLeaving l er8) rfl rfl dX3_countIn_30 ⟨Nat.le_of_ble_eq_true rfl, Nat.le_of_ble_eq_true rfl⟩ ⟨(Nat.le_of_ble_eq_true rfl), (Nat.le_of_ble_eq_true rfl)⟩ (Nat.le_of_ble_eq_true rfl) ?_
      refine v_istore (lv' := [some (vR a1), some (vI a2), some (vR a3), some (vI s3.1), some (vI r7), some (vI r8), none]) E dX3_countIn_33 (by decide) rfl ?_
      refine v_aload_n E dX3_countIn_35 rfl ?_
      refine v_iload E dX3_countIn_36 rfl ?_
      refine v_iload_n E dX3_countIn_38 rfl ?_
      replace h := bnd_e h
      obtain ⟨r9, er9, h⟩ := h
      refine v_callS (na := 3) (As := [vR a1, vI r7, vI a2]) (rest := []) E gw3_75 (by decide +kernel) (kX3_endLeaving l er9) rfl rfl dX3_countIn_39 ⟨Nat.le_of_ble_eq_true rfl, Nat.le_of_ble_eq_true rfl⟩ ⟨(Nat.le_of_ble_eq_true rfl), (Nat.le_of_ble_eq_true rfl)⟩ (Nat.le_of_ble_eq_true rfl) ?_
      refine v_iconst (v := 2) E dX3_countIn_42 (by decide) ?_
      refine v_iadd E dX3_countIn_43 ?_
      refine v_istore (lv' := [some (vR a1), some (vI a2), some (vR a3), some (vI s3.1), some (vI r7), some (vI r8), some (vI (r9 + 2))]) E dX3_countIn_44 (by decide) rfl ?_
      refine v_aload_n E dX3_countIn_46 rfl ?_
      refine v_aload_n E dX3_countIn_47 rfl ?_
      refine v_iload_n E dX3_countIn_48 rfl ?_
      replace h := bnd_e h
      obtain ⟨r10, er10, h⟩ := h
      refine v_callV (na := 1) (As := [vI s3.1]) (rest := [vR a3]) (ci := 7) (q := (RX7, TX7, 14)) E gw3_79 (by decide +kernel) rfl rfl (by decide) (kX7_letterOn l er10).2 (kX7_letterOn l er10).1 rfl rfl dX3_countIn_49 ⟨Nat.le_of_ble_eq_true rfl, Nat.le_of_ble_eq_true rfl⟩ ⟨(Nat.le_of_ble_eq_true rfl), (Nat.le_of_ble_eq_true rfl)⟩ (Nat.le_of_ble_eq_true rfl) ?_
      refine v_iload E dX3_countIn_52 rfl ?_
      replace h := bnd_e h
      obtain ⟨r11, er11, h⟩ := h
      refine v_callS (na := 2) (As := [vI r10, vI r8]) (rest := [vR a3]) E gw3_82 (by decide +kernel) (kX3_corner l er11) rfl rfl dX3_countIn_54 ⟨Nat.le_of_ble_eq_true rfl, Nat.le_of_ble_eq_true rfl⟩ ⟨(Nat.le_of_ble_eq_true rfl), (Nat.le_of_ble_eq_true rfl)⟩ (Nat.le_of_ble_eq_true rfl) ?_
      refine v_aload_n E dX3_countIn_57 rfl ?_
      refine v_iload E dX3_countIn_58 rfl ?_
      replace h := bnd_e h
      obtain ⟨r12, er12, h⟩ := h
      refine v_callV (na := 1) (As := [vI r7]) (rest := [vI r11, vR a3]) (ci := 7) (q := (RX7, TX7, 14)) E gw3_79 (by decide +kernel) rfl rfl (by decide) (kX7_letterOn l er12).2 (kX7_letterOn l er12).1 rfl rfl dX3_countIn_60 ⟨Nat.le_of_ble_eq_true rfl, Nat.le_of_ble_eq_true rfl⟩ ⟨(Nat.le_of_ble_eq_true rfl), (Nat.le_of_ble_eq_true rfl)⟩ (Nat.le_of_ble_eq_true rfl) ?_
      refine v_iload E dX3_countIn_63 rfl ?_
      refine v_iconst (v := 1) E dX3_countIn_65 (by decide) ?_
      refine v_isub E dX3_countIn_66 ?_
      replace h := bnd_e h
      obtain ⟨r13, er13, h⟩ := h
      refine v_callS (na := 2) (As := [vI r12, vI ((r9 + 2) - 1)]) (rest := [vI r11, vR a3]) E gw3_82 (by decide +kernel) (kX3_corner l er13) rfl rfl dX3_countIn_67 ⟨Nat.le_of_ble_eq_true rfl, Nat.le_of_ble_eq_true rfl⟩ ⟨(Nat.le_of_ble_eq_true rfl), (Nat.le_of_ble_eq_true rfl)⟩ (Nat.le_of_ble_eq_true rfl) ?_
      replace h := bnd_e h
      obtain ⟨r14, er14, h⟩ := h
      refine v_callV (na := 2) (As := [vI r11, vI r13]) (rest := []) (ci := 4) (q := (RX4, TX4, 3)) E gw3_86 (by decide +kernel) rfl rfl (by decide) (kX4_join l er14).2 (kX4_join l er14).1 rfl rfl dX3_countIn_70 ⟨Nat.le_of_ble_eq_true rfl, Nat.le_of_ble_eq_true rfl⟩ ⟨(Nat.le_of_ble_eq_true rfl), (Nat.le_of_ble_eq_true rfl)⟩ (Nat.le_of_ble_eq_true rfl) ?_
      refine v_aload_n E dX3_countIn_73 rfl ?_
      refine v_aload_n E dX3_countIn_74 rfl ?_
      refine v_iload_n E dX3_countIn_75 rfl ?_
      replace h := bnd_e h
      obtain ⟨r15, er15, h⟩ := h
      refine v_callV (na := 1) (As := [vI s3.1]) (rest := [vR a3]) (ci := 7) (q := (RX7, TX7, 14)) E gw3_79 (by decide +kernel) rfl rfl (by decide) (kX7_letterOn l er15).2 (kX7_letterOn l er15).1 rfl rfl dX3_countIn_76 ⟨Nat.le_of_ble_eq_true rfl, Nat.le_of_ble_eq_true rfl⟩ ⟨(Nat.le_of_ble_eq_true rfl), (Nat.le_of_ble_eq_true rfl)⟩ (Nat.le_of_ble_eq_true rfl) ?_
      refine v_iload E dX3_countIn_79 rfl ?_
      refine v_iconst (v := 1) E dX3_countIn_81 (by decide) ?_
      refine v_isub E dX3_countIn_82 ?_
      replace h := bnd_e h
      obtain ⟨r16, er16, h⟩ := h
      refine v_callS (na := 2) (As := [vI r15, vI (r8 - 1)]) (rest := [vR a3]) E gw3_82 (by decide +kernel) (kX3_corner l er16) rfl rfl dX3_countIn_83 ⟨Nat.le_of_ble_eq_true rfl, Nat.le_of_ble_eq_true rfl⟩ ⟨(Nat.le_of_ble_eq_true rfl), (Nat.le_of_ble_eq_true rfl)⟩ (Nat.le_of_ble_eq_true rfl) ?_
      refine v_aload_n E dX3_countIn_86 rfl ?_
      refine v_iload E dX3_countIn_87 rfl ?_
      replace h := bnd_e h
      obtain ⟨r17, er17, h⟩ := h
      refine v_callV (na := 1) (As := [vI r7]) (rest := [vI r16, vR a3]) (ci := 7) (q := (RX7, TX7, 14)) E gw3_79 (by decide +kernel) rfl rfl (by decide) (kX7_letterOn l er17).2 (kX7_letterOn l er17).1 rfl rfl dX3_countIn_89 ⟨Nat.le_of_ble_eq_true rfl, Nat.le_of_ble_eq_true rfl⟩ ⟨(Nat.le_of_ble_eq_true rfl), (Nat.le_of_ble_eq_true rfl)⟩ (Nat.le_of_ble_eq_true rfl) ?_
      refine v_iload E dX3_countIn_92 rfl ?_
      replace h := bnd_e h
      obtain ⟨r18, er18, h⟩ := h
      refine v_callS (na := 2) (As := [vI r17, vI (r9 + 2)]) (rest := [vI r16, vR a3]) E gw3_82 (by decide +kernel) (kX3_corner l er18) rfl rfl dX3_countIn_94 ⟨Nat.le_of_ble_eq_true rfl, Nat.le_of_ble_eq_true rfl⟩ ⟨(Nat.le_of_ble_eq_true rfl), (Nat.le_of_ble_eq_true rfl)⟩ (Nat.le_of_ble_eq_true rfl) ?_
      replace h := bnd_e h
      obtain ⟨r19, er19, h⟩ := h
      refine v_callV (na := 2) (As := [vI r16, vI r18]) (rest := []) (ci := 4) (q := (RX4, TX4, 3)) E gw3_86 (by decide +kernel) rfl rfl (by decide) (kX4_join l er19).2 (kX4_join l er19).1 rfl rfl dX3_countIn_97 ⟨Nat.le_of_ble_eq_true rfl, Nat.le_of_ble_eq_true rfl⟩ ⟨(Nat.le_of_ble_eq_true rfl), (Nat.le_of_ble_eq_true rfl)⟩ (Nat.le_of_ble_eq_true rfl) ?_
      refine v_iinc (v := (s3.1 + 1)) (lv' := [some (vR a1), some (vI a2), some (vR a3), some (vI (s3.1 + 1)), some (vI r7), some (vI r8), some (vI (r9 + 2))]) E dX3_countIn_100 rfl (by rfl) (by decide) rfl ?_
      refine v_goto (tgt := 12) E dX3_countIn_103 (by decide) ?_
      refine v_drop (lv' := [some (vR a1), some (vI a2), some (vR a3), some (vI (s3.1 + 1)), none, none, none]) [4, 5, 6] rfl ?_
      replace h := Option.some.inj h
      subst h
      exact hx
  · refine v_aload_n E dX3_countIn_106 rfl ?_
    replace h := bnd_e h
    obtain ⟨r21, er21, h⟩ := h
    refine v_callV (na := 0) (As := []) (rest := []) (ci := 7) (q := (RX7, TX7, 14)) E gw3_23 (by decide +kernel) rfl rfl (by decide) (kX7_letterCount l er21).2 (kX7_letterCount l er21).1 rfl rfl dX3_countIn_107 ⟨Nat.le_of_ble_eq_true rfl, Nat.le_of_ble_eq_true rfl⟩ ⟨(Nat.le_of_ble_eq_true rfl), (Nat.le_of_ble_eq_true rfl)⟩ (Nat.le_of_ble_eq_true rfl) ?_
    refine v_if_ne (tgt := 117) E dX3_countIn_110 (by decide) (fun c23 => ?_) (fun c23 => ?_)
    · rw [if_neg c23] at h
      refine v_aload_n E dX3_countIn_117 rfl ?_
      replace h := bnd_e h
      obtain ⟨r22, er22, h⟩ := h
      refine v_callV (na := 0) (As := []) (rest := []) (ci := 4) (q := (RX4, TX4, 3)) E gw3_90 (by decide +kernel) rfl rfl (by decide) (kX4_count l er22).2 (kX4_count l er22).1 rfl rfl dX3_countIn_118 ⟨Nat.le_of_ble_eq_true rfl, Nat.le_of_ble_eq_true rfl⟩ ⟨(Nat.le_of_ble_eq_true rfl), (Nat.le_of_ble_eq_true rfl)⟩ (Nat.le_of_ble_eq_true rfl) ?_
      replace h := Option.some.inj h
      subst h
      refine v_widen (k' := 0) (n' := 0) (Nat.le_of_ble_eq_true rfl) (Nat.le_of_ble_eq_true rfl) ?_
      exact v_iret E dX3_countIn_121
    · rw [if_pos c23] at h
      refine v_iconst (v := 2) E dX3_countIn_113 (by decide) ?_
      refine v_goto (tgt := 121) E dX3_countIn_114 (by decide) ?_
      replace h := Option.some.inj h
      subst h
      refine v_widen (k' := 0) (n' := 0) (Nat.le_of_ble_eq_true rfl) (Nat.le_of_ble_eq_true rfl) ?_
      exact v_iret E dX3_countIn_121
noncomputable def fX7_stepCount (A0 : AH) (o0 : Option Nat) : Option (Int32) :=
  (rcv A0 8 o0).bind fun o0 =>
  (gI A0 8 225 ((some o0))).bind fun v1 =>
  (fJ9_max_7cf53 A0 1 v1).bind fun r2 =>
  some r2
set_option maxRecDepth 100000 in
set_option maxHeartbeats 4000000 in
theorem kX7_stepCount (l : Launch) {A0 : AH} {o0 : Option Nat} {r : Int32} (h : fX7_stepCount A0 o0 = some r) : (∃ a, o0 = some a ∧ Hk A0 a = 8) ∧ Cn l yX7_stepCount cX7_stepCount 1 (some .int) 1 21 0 0 [vR o0] A0 (some (vI r)) A0 := by
  unfold fX7_stepCount at h
  replace h := bnd_e h
  obtain ⟨o1, e1, h⟩ := h
  obtain ⟨rfl, hk0⟩ := rcv_e e1
  refine ⟨⟨o1, rfl, hk0⟩, ?_⟩
  refine Cn.of (pad := 0) (lv0 := [some (vR (some o1))]) (by decide +kernel) (Nat.le_of_ble_eq_true rfl) rfl ?_
  intro p e s m below meth c base D cy E
  generalize (List.map toV [vR (some o1)]).toArray = ar at E ⊢
  have E : EN p s m ar meth c D cy RX7 cX7_stepCount 1 (some .int) "stepCount" := E
  refine v_iconst (v := 1) E dX7_stepCount_0 (by decide) ?_
  refine v_aload_n E dX7_stepCount_1 rfl ?_
  replace h := bnd_e h
  obtain ⟨v1, ev1, h⟩ := h
  refine g7_48 E ev1 dX7_stepCount_2 ?_
  replace h := bnd_e h
  obtain ⟨r2, er2, h⟩ := h
  refine v_callS (na := 2) (As := [vI 1, vI v1]) (rest := []) E gw7_75 (by decide +kernel) (kJ9_max_7cf53 l er2) rfl rfl dX7_stepCount_5 ⟨Nat.le_of_ble_eq_true rfl, Nat.le_of_ble_eq_true rfl⟩ ⟨(Nat.le_of_ble_eq_true rfl), (Nat.le_of_ble_eq_true rfl)⟩ (Nat.le_of_ble_eq_true rfl) ?_
  replace h := Option.some.inj h
  subst h
  refine v_widen (k' := 0) (n' := 0) (Nat.le_of_ble_eq_true rfl) (Nat.le_of_ble_eq_true rfl) ?_
  exact v_iret E dX7_stepCount_8
noncomputable def fX3_numberCorners (A0 : AH) (o0 : Option Nat) (a1 : Option Nat) : Option (AH) :=
  (rcv A0 4 o0).bind fun o0 =>
  (iter (S := Int32 × Int32 × AH) (T := AH) (fun s1 =>
      (gR s1.2.2 4 98 ((some o0))).bind fun v4 =>
      (aL s1.2.2 14 v4).bind fun v5 =>
      if v5 ≤ s1.2.1 then
        some (.inr s1.2.2)
      else
        (fX4_leastWith s1.2.2 a1 s1.2.1).bind fun r6 =>
        jp (fun (x18 : Int32 × AH) =>
          (gR x18.2 4 98 ((some o0))).bind fun v19 =>
          (aI x18.2 14 v19 s1.2.1).bind fun v20 =>
          (gI x18.2 4 97 ((some o0))).bind fun v21 =>
          jp (fun (x29 : AH) =>
            some (.inl (x18.1, (s1.2.1 + 1), x29))) fun K22 =>
            if v21 ≤ v20 then
              K22 x18.2
            else
              (gR x18.2 4 99 ((some o0))).bind fun v23 =>
              (gR x18.2 4 98 ((some o0))).bind fun v24 =>
              (aI x18.2 14 v24 s1.2.1).bind fun v25 =>
              (aI x18.2 14 v23 v25).bind fun v26 =>
              (sI x18.2 14 v23 v25 ((v26 + 1))).bind fun A27 =>
              K22 A27) fun K7 =>
          jp (fun (x15 : Unit) =>
            (gR s1.2.2 4 98 ((some o0))).bind fun v16 =>
            (sI s1.2.2 14 v16 s1.2.1 s1.1).bind fun A17 =>
            K7 ((s1.1 + 1), A17)) fun K8 =>
            if r6 < 0 then
              K8 ()
            else
              if s1.2.1 ≤ r6 then
                K8 ()
              else
                (gR s1.2.2 4 98 ((some o0))).bind fun v9 =>
                (gR s1.2.2 4 98 ((some o0))).bind fun v10 =>
                (aI s1.2.2 14 v10 r6).bind fun v11 =>
                (sI s1.2.2 14 v9 s1.2.1 v11).bind fun A12 =>
                K7 (s1.1, A12)) (0, 0, A0)).bind fun t2 =>
  some t2
set_option maxRecDepth 100000 in
set_option maxHeartbeats 4000000 in
theorem kX3_numberCorners (l : Launch) {A0 : AH} {o0 : Option Nat} {a1 : Option Nat} {r : AH} (h : fX3_numberCorners A0 o0 a1 = some r) : (∃ a, o0 = some a ∧ Hk A0 a = 4) ∧ Cn l yX3_numberCorners cX3_numberCorners 5 none 1 23 0 0 [vR o0, vR a1] A0 none r := by
  unfold fX3_numberCorners at h
  replace h := bnd_e h
  obtain ⟨o1, e1, h⟩ := h
  obtain ⟨rfl, hk0⟩ := rcv_e e1
  refine ⟨⟨o1, rfl, hk0⟩, ?_⟩
  refine Cn.of (pad := 3) (lv0 := [some (vR (some o1)), some (vR a1), none, none, none]) (by decide +kernel) (Nat.le_of_ble_eq_true rfl) rfl ?_
  intro p e s m below meth c base D cy E
  generalize (List.map toV [vR (some o1), vR a1]).toArray = ar at E ⊢
  have E : EN p s m ar meth c D cy RX3 cX3_numberCorners 5 none "numberCorners" := E
  refine v_iconst (v := 0) E dX3_numberCorners_0 (by decide) ?_
  refine v_istore_n (lv' := [some (vR (some o1)), some (vR a1), some (vI 0), none, none]) E dX3_numberCorners_1 (by decide) rfl ?_
  refine v_iconst (v := 0) E dX3_numberCorners_2 (by decide) ?_
  refine v_istore_n (lv' := [some (vR (some o1)), some (vR a1), some (vI 0), some (vI 0), none]) E dX3_numberCorners_3 (by decide) rfl ?_
  replace h := bnd_e h
  obtain ⟨t2, et2, h⟩ := h
  refine iter_V (S := Int32 × Int32 × AH) (T := AH) (Ph := fun s1 => V p l e { frames := 1, cells := 0, slots := 0, locals := 23 } s m ar below meth c (MQ below (Qd base D cy none r) ar s 0 0 (fun q => base ≤ q)) base D cy 5 4 [some (vR (some o1)), some (vR a1), some (vI s1.1), some (vI s1.2.1), none] [] s1.2.2 0 0) (Pt := fun t2 => V p l e { frames := 1, cells := 0, slots := 0, locals := 23 } s m ar below meth c (MQ below (Qd base D cy none r) ar s 0 0 (fun q => base ≤ q)) base D cy 5 91 [none, none, none, none, none] [] t2 0 0) et2 (fun s1 w3 h hx => ?_) ?_
  · try dsimp only at h
    refine v_iload_n E dX3_numberCorners_4 rfl ?_
    refine v_aload_n E dX3_numberCorners_5 rfl ?_
    replace h := bnd_e h
    obtain ⟨v4, ev4, h⟩ := h
    refine g3_29 E ev4 dX3_numberCorners_6 ?_
    replace h := bnd_e h
    obtain ⟨v5, ev5, h⟩ := h
    refine v_alen (kd := 14) (t0 := 0) E (by decide) rfl ev5 dX3_numberCorners_9 ?_
    refine v_icmp_ge (tgt := 91) E dX3_numberCorners_10 (by decide) (fun c30 => ?_) (fun c30 => ?_)
    · rw [if_pos c30] at h
      refine v_drop (lv' := [none, none, none, none, none]) [0, 1, 2, 3] rfl ?_
      replace h := Option.some.inj h
      subst h
      exact hx
    · rw [if_neg c30] at h
      refine v_aload_n E dX3_numberCorners_13 rfl ?_
      refine v_iload_n E dX3_numberCorners_14 rfl ?_
      replace h := bnd_e h
      obtain ⟨r6, er6, h⟩ := h
      refine v_callV (na := 1) (As := [vI s1.2.1]) (rest := []) (ci := 4) (q := (RX4, TX4, 3)) E gw3_100 (by decide +kernel) rfl rfl (by decide) (kX4_leastWith l er6).2 (kX4_leastWith l er6).1 rfl rfl dX3_numberCorners_15 ⟨Nat.le_of_ble_eq_true rfl, Nat.le_of_ble_eq_true rfl⟩ ⟨(Nat.le_of_ble_eq_true rfl), (Nat.le_of_ble_eq_true rfl)⟩ (Nat.le_of_ble_eq_true rfl) ?_
      refine v_istore (lv' := [some (vR (some o1)), some (vR a1), some (vI s1.1), some (vI s1.2.1), some (vI r6)]) E dX3_numberCorners_18 (by decide) rfl ?_
      refine v_iload E dX3_numberCorners_20 rfl ?_
      refine jp_use h (fun K7 eK7 h => ?_)
      have hK7 : ∀ x18 : Int32 × AH, K7 x18 = some w3 → V p l e { frames := 1, cells := 0, slots := 0, locals := 23 } s m ar below meth c (MQ below (Qd base D cy none r) ar s 0 0 (fun q => base ≤ q)) base D cy 5 57 [some (vR (some o1)), some (vR a1), some (vI x18.1), some (vI s1.2.1), none] [] x18.2 0 0 := by
        intro x18 h
        rw [eK7] at h
        try dsimp only at h
        refine v_aload_n E dX3_numberCorners_57 rfl ?_
        replace h := bnd_e h
        obtain ⟨v19, ev19, h⟩ := h
        refine g3_29 E ev19 dX3_numberCorners_58 ?_
        refine v_iload_n E dX3_numberCorners_61 rfl ?_
        replace h := bnd_e h
        obtain ⟨v20, ev20, h⟩ := h
        refine v_iaload E ev20 dX3_numberCorners_62 ?_
        refine v_aload_n E dX3_numberCorners_63 rfl ?_
        replace h := bnd_e h
        obtain ⟨v21, ev21, h⟩ := h
        refine g3_19 E ev21 dX3_numberCorners_64 ?_
        refine jp_use h (fun K22 eK22 h => ?_)
        have hK22 : ∀ x29 : AH, K22 x29 = some w3 → V p l e { frames := 1, cells := 0, slots := 0, locals := 23 } s m ar below meth c (MQ below (Qd base D cy none r) ar s 0 0 (fun q => base ≤ q)) base D cy 5 85 [some (vR (some o1)), some (vR a1), some (vI x18.1), some (vI s1.2.1), none] [] x29 0 0 := by
          intro x29 h
          rw [eK22] at h
          try dsimp only at h
          refine v_iinc (v := (s1.2.1 + 1)) (lv' := [some (vR (some o1)), some (vR a1), some (vI x18.1), some (vI (s1.2.1 + 1)), none]) E dX3_numberCorners_85 rfl (by rfl) (by decide) rfl ?_
          refine v_goto (tgt := 4) E dX3_numberCorners_88 (by decide) ?_
          replace h := Option.some.inj h
          subst h
          exact hx
        refine v_icmp_ge (tgt := 85) E dX3_numberCorners_67 (by decide) (fun c28 => ?_) (fun c28 => ?_)
        · rw [if_pos c28] at h
          exact hK22 x18.2 h
        · rw [if_neg c28] at h
          refine v_aload_n E dX3_numberCorners_70 rfl ?_
          replace h := bnd_e h
          obtain ⟨v23, ev23, h⟩ := h
          refine g3_33 E ev23 dX3_numberCorners_71 ?_
          refine v_aload_n E dX3_numberCorners_74 rfl ?_
          replace h := bnd_e h
          obtain ⟨v24, ev24, h⟩ := h
          refine g3_29 E ev24 dX3_numberCorners_75 ?_
          refine v_iload_n E dX3_numberCorners_78 rfl ?_
          replace h := bnd_e h
          obtain ⟨v25, ev25, h⟩ := h
          refine v_iaload E ev25 dX3_numberCorners_79 ?_
          refine v_dup2 E dX3_numberCorners_80 rfl rfl ?_
          replace h := bnd_e h
          obtain ⟨v26, ev26, h⟩ := h
          refine v_iaload E ev26 dX3_numberCorners_81 ?_
          refine v_iconst (v := 1) E dX3_numberCorners_82 (by decide) ?_
          refine v_iadd E dX3_numberCorners_83 ?_
          replace h := bnd_e h
          obtain ⟨A27, eA27, h⟩ := h
          refine v_iastore E eA27 dX3_numberCorners_84 ?_
          exact hK22 A27 h
      refine jp_use h (fun K8 eK8 h => ?_)
      have hK8 : ∀ x15 : Unit, K8 x15 = some w3 → V p l e { frames := 1, cells := 0, slots := 0, locals := 23 } s m ar below meth c (MQ below (Qd base D cy none r) ar s 0 0 (fun q => base ≤ q)) base D cy 5 47 [some (vR (some o1)), some (vR a1), some (vI s1.1), some (vI s1.2.1), none] [] s1.2.2 0 0 := by
        intro x15 h
        rw [eK8] at h
        try dsimp only at h
        refine v_aload_n E dX3_numberCorners_47 rfl ?_
        replace h := bnd_e h
        obtain ⟨v16, ev16, h⟩ := h
        refine g3_29 E ev16 dX3_numberCorners_48 ?_
        refine v_iload_n E dX3_numberCorners_51 rfl ?_
        refine v_iload_n E dX3_numberCorners_52 rfl ?_
        replace h := bnd_e h
        obtain ⟨A17, eA17, h⟩ := h
        refine v_iastore E eA17 dX3_numberCorners_53 ?_
        refine v_iinc (v := (s1.1 + 1)) (lv' := [some (vR (some o1)), some (vR a1), some (vI (s1.1 + 1)), some (vI s1.2.1), none]) E dX3_numberCorners_54 rfl (by rfl) (by decide) rfl ?_
        exact hK7 ((s1.1 + 1), A17) h
      refine v_if_lt (tgt := 47) E dX3_numberCorners_22 (by decide) (fun c14 => ?_) (fun c14 => ?_)
      · rw [if_pos c14] at h
        refine v_drop (lv' := [some (vR (some o1)), some (vR a1), some (vI s1.1), some (vI s1.2.1), none]) [4] rfl ?_
        exact hK8 () h
      · rw [if_neg c14] at h
        refine v_iload E dX3_numberCorners_25 rfl ?_
        refine v_iload_n E dX3_numberCorners_27 rfl ?_
        refine v_icmp_ge (tgt := 47) E dX3_numberCorners_28 (by decide) (fun c13 => ?_) (fun c13 => ?_)
        · rw [if_pos c13] at h
          refine v_drop (lv' := [some (vR (some o1)), some (vR a1), some (vI s1.1), some (vI s1.2.1), none]) [4] rfl ?_
          exact hK8 () h
        · rw [if_neg c13] at h
          refine v_aload_n E dX3_numberCorners_31 rfl ?_
          replace h := bnd_e h
          obtain ⟨v9, ev9, h⟩ := h
          refine g3_29 E ev9 dX3_numberCorners_32 ?_
          refine v_iload_n E dX3_numberCorners_35 rfl ?_
          refine v_aload_n E dX3_numberCorners_36 rfl ?_
          replace h := bnd_e h
          obtain ⟨v10, ev10, h⟩ := h
          refine g3_29 E ev10 dX3_numberCorners_37 ?_
          refine v_iload E dX3_numberCorners_40 rfl ?_
          replace h := bnd_e h
          obtain ⟨v11, ev11, h⟩ := h
          refine v_iaload E ev11 dX3_numberCorners_42 ?_
          replace h := bnd_e h
          obtain ⟨A12, eA12, h⟩ := h
          refine v_iastore E eA12 dX3_numberCorners_43 ?_
          refine v_goto (tgt := 57) E dX3_numberCorners_44 (by decide) ?_
          refine v_drop (lv' := [some (vR (some o1)), some (vR a1), some (vI s1.1), some (vI s1.2.1), none]) [4] rfl ?_
          exact hK7 (s1.1, A12) h
  · replace h := Option.some.inj h
    subst h
    refine v_widen (k' := 0) (n' := 0) (Nat.le_of_ble_eq_true rfl) (Nat.le_of_ble_eq_true rfl) ?_
    exact v_vret E dX3_numberCorners_91
noncomputable def fX3_faceOf (A0 : AH) (o0 : Option Nat) (a1 : Int32) (a2 : Int32) : Option (Int32) :=
  (rcv A0 4 o0).bind fun o0 =>
  (fX3_corner A0 a1 a2).bind fun r1 =>
  if r1 < 0 then
    some 0
  else
    (gR A0 4 98 ((some o0))).bind fun v2 =>
    (aL A0 14 v2).bind fun v3 =>
    if v3 ≤ r1 then
      some 0
    else
      (gR A0 4 98 ((some o0))).bind fun v4 =>
      (aI A0 14 v4 r1).bind fun v5 =>
      some v5
set_option maxRecDepth 100000 in
set_option maxHeartbeats 4000000 in
theorem kX3_faceOf (l : Launch) {A0 : AH} {o0 : Option Nat} {a1 : Int32} {a2 : Int32} {r : Int32} (h : fX3_faceOf A0 o0 a1 a2 = some r) : (∃ a, o0 = some a ∧ Hk A0 a = 4) ∧ Cn l yX3_faceOf cX3_faceOf 4 (some .int) 1 21 0 0 [vR o0, vI a1, vI a2] A0 (some (vI r)) A0 := by
  unfold fX3_faceOf at h
  replace h := bnd_e h
  obtain ⟨o1, e1, h⟩ := h
  obtain ⟨rfl, hk0⟩ := rcv_e e1
  refine ⟨⟨o1, rfl, hk0⟩, ?_⟩
  refine Cn.of (pad := 1) (lv0 := [some (vR (some o1)), some (vI a1), some (vI a2), none]) (by decide +kernel) (Nat.le_of_ble_eq_true rfl) rfl ?_
  intro p e s m below meth c base D cy E
  generalize (List.map toV [vR (some o1), vI a1, vI a2]).toArray = ar at E ⊢
  have E : EN p s m ar meth c D cy RX3 cX3_faceOf 4 (some .int) "faceOf" := E
  refine v_iload_n E dX3_faceOf_0 rfl ?_
  refine v_iload_n E dX3_faceOf_1 rfl ?_
  replace h := bnd_e h
  obtain ⟨r1, er1, h⟩ := h
  refine v_callS (na := 2) (As := [vI a1, vI a2]) (rest := []) E gw3_82 (by decide +kernel) (kX3_corner l er1) rfl rfl dX3_faceOf_2 ⟨Nat.le_of_ble_eq_true rfl, Nat.le_of_ble_eq_true rfl⟩ ⟨(Nat.le_of_ble_eq_true rfl), (Nat.le_of_ble_eq_true rfl)⟩ (Nat.le_of_ble_eq_true rfl) ?_
  refine v_istore_n (lv' := [some (vR (some o1)), some (vI a1), some (vI a2), some (vI r1)]) E dX3_faceOf_5 (by decide) rfl ?_
  refine v_iload_n E dX3_faceOf_6 rfl ?_
  refine v_if_lt (tgt := 28) E dX3_faceOf_7 (by decide) (fun c7 => ?_) (fun c7 => ?_)
  · rw [if_pos c7] at h
    refine v_iconst (v := 0) E dX3_faceOf_28 (by decide) ?_
    replace h := Option.some.inj h
    subst h
    refine v_widen (k' := 0) (n' := 0) (Nat.le_of_ble_eq_true rfl) (Nat.le_of_ble_eq_true rfl) ?_
    exact v_iret E dX3_faceOf_29
  · rw [if_neg c7] at h
    refine v_iload_n E dX3_faceOf_10 rfl ?_
    refine v_aload_n E dX3_faceOf_11 rfl ?_
    replace h := bnd_e h
    obtain ⟨v2, ev2, h⟩ := h
    refine g3_29 E ev2 dX3_faceOf_12 ?_
    replace h := bnd_e h
    obtain ⟨v3, ev3, h⟩ := h
    refine v_alen (kd := 14) (t0 := 0) E (by decide) rfl ev3 dX3_faceOf_15 ?_
    refine v_icmp_ge (tgt := 28) E dX3_faceOf_16 (by decide) (fun c6 => ?_) (fun c6 => ?_)
    · rw [if_pos c6] at h
      refine v_iconst (v := 0) E dX3_faceOf_28 (by decide) ?_
      replace h := Option.some.inj h
      subst h
      refine v_widen (k' := 0) (n' := 0) (Nat.le_of_ble_eq_true rfl) (Nat.le_of_ble_eq_true rfl) ?_
      exact v_iret E dX3_faceOf_29
    · rw [if_neg c6] at h
      refine v_aload_n E dX3_faceOf_19 rfl ?_
      replace h := bnd_e h
      obtain ⟨v4, ev4, h⟩ := h
      refine g3_29 E ev4 dX3_faceOf_20 ?_
      refine v_iload_n E dX3_faceOf_23 rfl ?_
      replace h := bnd_e h
      obtain ⟨v5, ev5, h⟩ := h
      refine v_iaload E ev5 dX3_faceOf_24 ?_
      refine v_goto (tgt := 29) E dX3_faceOf_25 (by decide) ?_
      replace h := Option.some.inj h
      subst h
      refine v_widen (k' := 0) (n' := 0) (Nat.le_of_ble_eq_true rfl) (Nat.le_of_ble_eq_true rfl) ?_
      exact v_iret E dX3_faceOf_29
noncomputable def fX3_findSidesOfSteps (A0 : AH) (o0 : Option Nat) (a1 : Int32) : Option (AH) :=
  (rcv A0 4 o0).bind fun o0 =>
  (gR A0 4 96 ((some o0))).bind fun v1 =>
  (fX7_letterCount A0 v1).bind fun r2 =>
  jp (fun (x7 : AH) =>
    (iter (S := Int32 × AH) (T := AH) (fun s8 =>
        (gR s8.2 4 96 ((some o0))).bind fun v11 =>
        (fX7_placeCount s8.2 v11).bind fun r12 =>
        if r12 ≤ s8.1 then
          some (.inr s8.2)
        else
          (gR s8.2 4 96 ((some o0))).bind fun v13 =>
          (fX3_endLeaving s8.2 v13 s8.1 a1).bind fun r14 =>
          (gR s8.2 4 100 ((some o0))).bind fun v15 =>
          (gR s8.2 4 96 ((some o0))).bind fun v16 =>
          (fX7_letterOn s8.2 v16 s8.1).bind fun r17 =>
          (fX3_faceOf s8.2 ((some o0)) r17 r14).bind fun r18 =>
          (sI s8.2 14 v15 s8.1 r18).bind fun A19 =>
          (gR A19 4 101 ((some o0))).bind fun v20 =>
          (gR A19 4 96 ((some o0))).bind fun v21 =>
          (fX7_letterOn A19 v21 s8.1).bind fun r22 =>
          (fX3_faceOf A19 ((some o0)) r22 ((r14 - 1))).bind fun r23 =>
          (sI A19 14 v20 s8.1 r23).bind fun A24 =>
          some (.inl ((s8.1 + 1), A24))) (0, x7)).bind fun t9 =>
    some t9) fun K3 =>
    if r2 = 0 then
      (gR A0 4 101 ((some o0))).bind fun v4 =>
      (sI A0 14 v4 0 1).bind fun A5 =>
      K3 A5
    else
      K3 A0
set_option maxRecDepth 100000 in
set_option maxHeartbeats 4000000 in
theorem kX3_findSidesOfSteps (l : Launch) {A0 : AH} {o0 : Option Nat} {a1 : Int32} {r : AH} (h : fX3_findSidesOfSteps A0 o0 a1 = some r) : (∃ a, o0 = some a ∧ Hk A0 a = 4) ∧ Cn l yX3_findSidesOfSteps cX3_findSidesOfSteps 4 none 3 64 0 0 [vR o0, vI a1] A0 none r := by
  unfold fX3_findSidesOfSteps at h
  replace h := bnd_e h
  obtain ⟨o1, e1, h⟩ := h
  obtain ⟨rfl, hk0⟩ := rcv_e e1
  refine ⟨⟨o1, rfl, hk0⟩, ?_⟩
  refine Cn.of (pad := 2) (lv0 := [some (vR (some o1)), some (vI a1), none, none]) (by decide +kernel) (Nat.le_of_ble_eq_true rfl) rfl ?_
  intro p e s m below meth c base D cy E
  generalize (List.map toV [vR (some o1), vI a1]).toArray = ar at E ⊢
  have E : EN p s m ar meth c D cy RX3 cX3_findSidesOfSteps 4 none "findSidesOfSteps" := E
  refine v_aload_n E dX3_findSidesOfSteps_0 rfl ?_
  replace h := bnd_e h
  obtain ⟨v1, ev1, h⟩ := h
  refine g3_9 E ev1 dX3_findSidesOfSteps_1 ?_
  replace h := bnd_e h
  obtain ⟨r2, er2, h⟩ := h
  refine v_callV (na := 0) (As := []) (rest := []) (ci := 7) (q := (RX7, TX7, 14)) E gw3_23 (by decide +kernel) rfl rfl (by decide) (kX7_letterCount l er2).2 (kX7_letterCount l er2).1 rfl rfl dX3_findSidesOfSteps_4 ⟨Nat.le_of_ble_eq_true rfl, Nat.le_of_ble_eq_true rfl⟩ ⟨(Nat.le_of_ble_eq_true rfl), (Nat.le_of_ble_eq_true rfl)⟩ (Nat.le_of_ble_eq_true rfl) ?_
  refine jp_use h (fun K3 eK3 h => ?_)
  have hK3 : ∀ x7 : AH, K3 x7 = some r → V p l e { frames := 3, cells := 0, slots := 0, locals := 64 } s m ar below meth c (MQ below (Qd base D cy none r) ar s 0 0 (fun q => base ≤ q)) base D cy 4 17 [some (vR (some o1)), some (vI a1), none, none] [] x7 0 0 := by
    intro x7 h
    rw [eK3] at h
    try dsimp only at h
    refine v_iconst (v := 0) E dX3_findSidesOfSteps_17 (by decide) ?_
    refine v_istore_n (lv' := [some (vR (some o1)), some (vI a1), some (vI 0), none]) E dX3_findSidesOfSteps_18 (by decide) rfl ?_
    replace h := bnd_e h
    obtain ⟨t9, et9, h⟩ := h
    refine iter_V (S := Int32 × AH) (T := AH) (Ph := fun s8 => V p l e { frames := 3, cells := 0, slots := 0, locals := 64 } s m ar below meth c (MQ below (Qd base D cy none r) ar s 0 0 (fun q => base ≤ q)) base D cy 4 19 [some (vR (some o1)), some (vI a1), some (vI s8.1), none] [] s8.2 0 0) (Pt := fun t9 => V p l e { frames := 3, cells := 0, slots := 0, locals := 64 } s m ar below meth c (MQ below (Qd base D cy none r) ar s 0 0 (fun q => base ≤ q)) base D cy 4 86 [none, none, none, none] [] t9 0 0) et9 (fun s8 w10 h hx => ?_) ?_
    · try dsimp only at h
      refine v_iload_n E dX3_findSidesOfSteps_19 rfl ?_
      refine v_aload_n E dX3_findSidesOfSteps_20 rfl ?_
      replace h := bnd_e h
      obtain ⟨v11, ev11, h⟩ := h
      refine g3_9 E ev11 dX3_findSidesOfSteps_21 ?_
      replace h := bnd_e h
      obtain ⟨r12, er12, h⟩ := h
      refine v_callV (na := 0) (As := []) (rest := [vI s8.1]) (ci := 7) (q := (RX7, TX7, 14)) E gw3_68 (by decide +kernel) rfl rfl (by decide) (kX7_placeCount l er12).2 (kX7_placeCount l er12).1 rfl rfl dX3_findSidesOfSteps_24 ⟨Nat.le_of_ble_eq_true rfl, Nat.le_of_ble_eq_true rfl⟩ ⟨(Nat.le_of_ble_eq_true rfl), (Nat.le_of_ble_eq_true rfl)⟩ (Nat.le_of_ble_eq_true rfl) ?_
      refine v_icmp_ge (tgt := 86) E dX3_findSidesOfSteps_27 (by decide) (fun c25 => ?_) (fun c25 => ?_)
      · rw [if_pos c25] at h
        refine v_drop (lv' := [none, none, none, none]) [0, 1, 2] rfl ?_
        replace h := Option.some.inj h
        subst h
        exact hx
      · rw [if_neg c25] at h
        refine v_aload_n E dX3_findSidesOfSteps_30 rfl ?_
        replace h := bnd_e h
        obtain ⟨v13, ev13, h⟩ := h
        refine g3_9 E ev13 dX3_findSidesOfSteps_31 ?_
        refine v_iload_n E dX3_findSidesOfSteps_34 rfl ?_
        refine v_iload_n E dX3_findSidesOfSteps_35 rfl ?_
        replace h := bnd_e h
        obtain ⟨r14, er14, h⟩ := h
        refine v_callS (na := 3) (As := [vR v13, vI s8.1, vI a1]) (rest := []) E gw3_75 (by decide +kernel) (kX3_endLeaving l er14) rfl rfl dX3_findSidesOfSteps_36 ⟨Nat.le_of_ble_eq_true rfl, Nat.le_of_ble_eq_true rfl⟩ ⟨(Nat.le_of_ble_eq_true rfl), (Nat.le_of_ble_eq_true rfl)⟩ (Nat.le_of_ble_eq_true rfl) ?_
        refine v_istore_n (lv' := [some (vR (some o1)), some (vI a1), some (vI s8.1), some (vI r14)]) E dX3_findSidesOfSteps_39 (by decide) rfl ?_
        refine v_aload_n E dX3_findSidesOfSteps_40 rfl ?_
        replace h := bnd_e h
        obtain ⟨v15, ev15, h⟩ := h
        refine g3_39 E ev15 dX3_findSidesOfSteps_41 ?_
        refine v_iload_n E dX3_findSidesOfSteps_44 rfl ?_
        refine v_aload_n E dX3_findSidesOfSteps_45 rfl ?_
        refine v_aload_n E dX3_findSidesOfSteps_46 rfl ?_
        replace h := bnd_e h
        obtain ⟨v16, ev16, h⟩ := h
        refine g3_9 E ev16 dX3_findSidesOfSteps_47 ?_
        refine v_iload_n E dX3_findSidesOfSteps_50 rfl ?_
        replace h := bnd_e h
        obtain ⟨r17, er17, h⟩ := h
        refine v_callV (na := 1) (As := [vI s8.1]) (rest := [vR (some o1), vI s8.1, vR v15]) (ci := 7) (q := (RX7, TX7, 14)) E gw3_79 (by decide +kernel) rfl rfl (by decide) (kX7_letterOn l er17).2 (kX7_letterOn l er17).1 rfl rfl dX3_findSidesOfSteps_51 ⟨Nat.le_of_ble_eq_true rfl, Nat.le_of_ble_eq_true rfl⟩ ⟨(Nat.le_of_ble_eq_true rfl), (Nat.le_of_ble_eq_true rfl)⟩ (Nat.le_of_ble_eq_true rfl) ?_
        refine v_iload_n E dX3_findSidesOfSteps_54 rfl ?_
        replace h := bnd_e h
        obtain ⟨r18, er18, h⟩ := h
        refine v_callV (na := 2) (As := [vI r17, vI r14]) (rest := [vI s8.1, vR v15]) (ci := 3) (q := (RX3, TX3, 8)) E gw3_103 (by decide +kernel) rfl rfl (by decide) (kX3_faceOf l er18).2 (kX3_faceOf l er18).1 rfl rfl dX3_findSidesOfSteps_55 ⟨Nat.le_of_ble_eq_true rfl, Nat.le_of_ble_eq_true rfl⟩ ⟨(Nat.le_of_ble_eq_true rfl), (Nat.le_of_ble_eq_true rfl)⟩ (Nat.le_of_ble_eq_true rfl) ?_
        replace h := bnd_e h
        obtain ⟨A19, eA19, h⟩ := h
        refine v_iastore E eA19 dX3_findSidesOfSteps_58 ?_
        refine v_aload_n E dX3_findSidesOfSteps_59 rfl ?_
        replace h := bnd_e h
        obtain ⟨v20, ev20, h⟩ := h
        refine g3_42 E ev20 dX3_findSidesOfSteps_60 ?_
        refine v_iload_n E dX3_findSidesOfSteps_63 rfl ?_
        refine v_aload_n E dX3_findSidesOfSteps_64 rfl ?_
        refine v_aload_n E dX3_findSidesOfSteps_65 rfl ?_
        replace h := bnd_e h
        obtain ⟨v21, ev21, h⟩ := h
        refine g3_9 E ev21 dX3_findSidesOfSteps_66 ?_
        refine v_iload_n E dX3_findSidesOfSteps_69 rfl ?_
        replace h := bnd_e h
        obtain ⟨r22, er22, h⟩ := h
        refine v_callV (na := 1) (As := [vI s8.1]) (rest := [vR (some o1), vI s8.1, vR v20]) (ci := 7) (q := (RX7, TX7, 14)) E gw3_79 (by decide +kernel) rfl rfl (by decide) (kX7_letterOn l er22).2 (kX7_letterOn l er22).1 rfl rfl dX3_findSidesOfSteps_70 ⟨Nat.le_of_ble_eq_true rfl, Nat.le_of_ble_eq_true rfl⟩ ⟨(Nat.le_of_ble_eq_true rfl), (Nat.le_of_ble_eq_true rfl)⟩ (Nat.le_of_ble_eq_true rfl) ?_
        refine v_iload_n E dX3_findSidesOfSteps_73 rfl ?_
        refine v_iconst (v := 1) E dX3_findSidesOfSteps_74 (by decide) ?_
        refine v_isub E dX3_findSidesOfSteps_75 ?_
        replace h := bnd_e h
        obtain ⟨r23, er23, h⟩ := h
        refine v_callV (na := 2) (As := [vI r22, vI (r14 - 1)]) (rest := [vI s8.1, vR v20]) (ci := 3) (q := (RX3, TX3, 8)) E gw3_103 (by decide +kernel) rfl rfl (by decide) (kX3_faceOf l er23).2 (kX3_faceOf l er23).1 rfl rfl dX3_findSidesOfSteps_76 ⟨Nat.le_of_ble_eq_true rfl, Nat.le_of_ble_eq_true rfl⟩ ⟨(Nat.le_of_ble_eq_true rfl), (Nat.le_of_ble_eq_true rfl)⟩ (Nat.le_of_ble_eq_true rfl) ?_
        replace h := bnd_e h
        obtain ⟨A24, eA24, h⟩ := h
        refine v_iastore E eA24 dX3_findSidesOfSteps_79 ?_
        refine v_iinc (v := (s8.1 + 1)) (lv' := [some (vR (some o1)), some (vI a1), some (vI (s8.1 + 1)), some (vI r14)]) E dX3_findSidesOfSteps_80 rfl (by rfl) (by decide) rfl ?_
        refine v_goto (tgt := 19) E dX3_findSidesOfSteps_83 (by decide) ?_
        refine v_drop (lv' := [some (vR (some o1)), some (vI a1), some (vI (s8.1 + 1)), none]) [3] rfl ?_
        replace h := Option.some.inj h
        subst h
        exact hx
    · replace h := Option.some.inj h
      subst h
      refine v_widen (k' := 0) (n' := 0) (Nat.le_of_ble_eq_true rfl) (Nat.le_of_ble_eq_true rfl) ?_
      exact v_vret E dX3_findSidesOfSteps_86
  refine v_if_ne (tgt := 17) E dX3_findSidesOfSteps_7 (by decide) (fun c6 => ?_) (fun c6 => ?_)
  · rw [if_neg c6] at h
    exact hK3 A0 h
  · rw [if_pos c6] at h
    refine v_aload_n E dX3_findSidesOfSteps_10 rfl ?_
    replace h := bnd_e h
    obtain ⟨v4, ev4, h⟩ := h
    refine g3_42 E ev4 dX3_findSidesOfSteps_11 ?_
    refine v_iconst (v := 0) E dX3_findSidesOfSteps_14 (by decide) ?_
    refine v_iconst (v := 1) E dX3_findSidesOfSteps_15 (by decide) ?_
    replace h := bnd_e h
    obtain ⟨A5, eA5, h⟩ := h
    refine v_iastore E eA5 dX3_findSidesOfSteps_16 ?_
    exact hK3 A5 h
noncomputable def fX3_hasFace (A0 : AH) (o0 : Option Nat) (a1 : Int32) : Option (Int32) :=
  (rcv A0 4 o0).bind fun o0 =>
  if a1 < 0 then
    some 0
  else
    (gI A0 4 97 ((some o0))).bind fun v1 =>
    if v1 ≤ a1 then
      some 0
    else
      some 1
set_option maxRecDepth 100000 in
set_option maxHeartbeats 4000000 in
theorem kX3_hasFace (l : Launch) {A0 : AH} {o0 : Option Nat} {a1 : Int32} {r : Int32} (h : fX3_hasFace A0 o0 a1 = some r) : (∃ a, o0 = some a ∧ Hk A0 a = 4) ∧ Cn l yX3_hasFace cX3_hasFace 2 (some .boolean) 0 0 0 0 [vR o0, vI a1] A0 (some (vI r)) A0 := by
  unfold fX3_hasFace at h
  replace h := bnd_e h
  obtain ⟨o1, e1, h⟩ := h
  obtain ⟨rfl, hk0⟩ := rcv_e e1
  refine ⟨⟨o1, rfl, hk0⟩, ?_⟩
  refine Cn.of (pad := 0) (lv0 := [some (vR (some o1)), some (vI a1)]) (by decide +kernel) (Nat.le_of_ble_eq_true rfl) rfl ?_
  intro p e s m below meth c base D cy E
  generalize (List.map toV [vR (some o1), vI a1]).toArray = ar at E ⊢
  have E : EN p s m ar meth c D cy RX3 cX3_hasFace 2 (some .boolean) "hasFace" := E
  refine v_iload_n E dX3_hasFace_0 rfl ?_
  refine v_if_lt (tgt := 16) E dX3_hasFace_1 (by decide) (fun c3 => ?_) (fun c3 => ?_)
  · rw [if_pos c3] at h
    refine v_iconst (v := 0) E dX3_hasFace_16 (by decide) ?_
    replace h := Option.some.inj h
    subst h
    refine v_widen (k' := 0) (n' := 0) (Nat.le_of_ble_eq_true rfl) (Nat.le_of_ble_eq_true rfl) ?_
    exact v_zret E (Or.inl rfl) dX3_hasFace_17
  · rw [if_neg c3] at h
    refine v_iload_n E dX3_hasFace_4 rfl ?_
    refine v_aload_n E dX3_hasFace_5 rfl ?_
    replace h := bnd_e h
    obtain ⟨v1, ev1, h⟩ := h
    refine g3_19 E ev1 dX3_hasFace_6 ?_
    refine v_icmp_ge (tgt := 16) E dX3_hasFace_9 (by decide) (fun c2 => ?_) (fun c2 => ?_)
    · rw [if_pos c2] at h
      refine v_iconst (v := 0) E dX3_hasFace_16 (by decide) ?_
      replace h := Option.some.inj h
      subst h
      refine v_widen (k' := 0) (n' := 0) (Nat.le_of_ble_eq_true rfl) (Nat.le_of_ble_eq_true rfl) ?_
      exact v_zret E (Or.inl rfl) dX3_hasFace_17
    · rw [if_neg c2] at h
      refine v_iconst (v := 1) E dX3_hasFace_12 (by decide) ?_
      refine v_goto (tgt := 17) E dX3_hasFace_13 (by decide) ?_
      replace h := Option.some.inj h
      subst h
      refine v_widen (k' := 0) (n' := 0) (Nat.le_of_ble_eq_true rfl) (Nat.le_of_ble_eq_true rfl) ?_
      exact v_zret E (Or.inr rfl) dX3_hasFace_17
noncomputable def fX3_findIndexAcross (A0 : AH) (o0 : Option Nat) (a1 : Int32) (a2 : Int32) (a3 : Option Nat) : Option (AH) :=
  (rcv A0 4 o0).bind fun o0 =>
  (fX3_hasFace A0 ((some o0)) a1).bind fun r1 =>
  if r1 = 0 then
    some A0
  else
    (fX3_hasFace A0 ((some o0)) a2).bind fun r2 =>
    if r2 = 0 then
      some A0
    else
      (aI A0 15 a3 a1).bind fun v3 =>
      jp (fun (x13 : Unit) =>
        (aI A0 15 a3 a2).bind fun v14 =>
        if v14 = 0 then
          some A0
        else
          (aI A0 15 a3 a1).bind fun v15 =>
          if v15 = 0 then
            (gR A0 4 102 ((some o0))).bind fun v16 =>
            (gR A0 4 102 ((some o0))).bind fun v17 =>
            (aI A0 14 v17 a2).bind fun v18 =>
            (sI A0 14 v16 a1 ((v18 + 1))).bind fun A19 =>
            (sZ A19 15 a3 a1 1).bind fun A20 =>
            some A20
          else
            some A0) fun K4 =>
        if v3 = 0 then
          K4 ()
        else
          (aI A0 15 a3 a2).bind fun v5 =>
          if v5 = 0 then
            (gR A0 4 102 ((some o0))).bind fun v6 =>
            (gR A0 4 102 ((some o0))).bind fun v7 =>
            (aI A0 14 v7 a1).bind fun v8 =>
            (sI A0 14 v6 a2 ((v8 - 1))).bind fun A9 =>
            (sZ A9 15 a3 a2 1).bind fun A10 =>
            some A10
          else
            K4 ()
set_option maxRecDepth 100000 in
set_option maxHeartbeats 4000000 in
theorem kX3_findIndexAcross (l : Launch) {A0 : AH} {o0 : Option Nat} {a1 : Int32} {a2 : Int32} {a3 : Option Nat} {r : AH} (h : fX3_findIndexAcross A0 o0 a1 a2 a3 = some r) : (∃ a, o0 = some a ∧ Hk A0 a = 4) ∧ Cn l yX3_findIndexAcross cX3_findIndexAcross 4 none 1 21 0 0 [vR o0, vI a1, vI a2, vR a3] A0 none r := by
  unfold fX3_findIndexAcross at h
  replace h := bnd_e h
  obtain ⟨o1, e1, h⟩ := h
  obtain ⟨rfl, hk0⟩ := rcv_e e1
  refine ⟨⟨o1, rfl, hk0⟩, ?_⟩
  refine Cn.of (pad := 0) (lv0 := [some (vR (some o1)), some (vI a1), some (vI a2), some (vR a3)]) (by decide +kernel) (Nat.le_of_ble_eq_true rfl) rfl ?_
  intro p e s m below meth c base D cy E
  generalize (List.map toV [vR (some o1), vI a1, vI a2, vR a3]).toArray = ar at E ⊢
  have E : EN p s m ar meth c D cy RX3 cX3_findIndexAcross 4 none "findIndexAcross" := E
  refine v_aload_n E dX3_findIndexAcross_0 rfl ?_
  refine v_iload_n E dX3_findIndexAcross_1 rfl ?_
  replace h := bnd_e h
  obtain ⟨r1, er1, h⟩ := h
  refine v_callV (na := 1) (As := [vI a1]) (rest := []) (ci := 3) (q := (RX3, TX3, 8)) E gw3_106 (by decide +kernel) rfl rfl (by decide) (kX3_hasFace l er1).2 (kX3_hasFace l er1).1 rfl rfl dX3_findIndexAcross_2 ⟨Nat.le_of_ble_eq_true rfl, Nat.le_of_ble_eq_true rfl⟩ ⟨(Nat.le_of_ble_eq_true rfl), (Nat.le_of_ble_eq_true rfl)⟩ (Nat.le_of_ble_eq_true rfl) ?_
  refine v_if_eq (tgt := 16) E dX3_findIndexAcross_5 (by decide) (fun c24 => ?_) (fun c24 => ?_)
  · rw [if_pos c24] at h
    replace h := Option.some.inj h
    subst h
    refine v_widen (k' := 0) (n' := 0) (Nat.le_of_ble_eq_true rfl) (Nat.le_of_ble_eq_true rfl) ?_
    exact v_vret E dX3_findIndexAcross_16
  · rw [if_neg c24] at h
    refine v_aload_n E dX3_findIndexAcross_8 rfl ?_
    refine v_iload_n E dX3_findIndexAcross_9 rfl ?_
    replace h := bnd_e h
    obtain ⟨r2, er2, h⟩ := h
    refine v_callV (na := 1) (As := [vI a2]) (rest := []) (ci := 3) (q := (RX3, TX3, 8)) E gw3_106 (by decide +kernel) rfl rfl (by decide) (kX3_hasFace l er2).2 (kX3_hasFace l er2).1 rfl rfl dX3_findIndexAcross_10 ⟨Nat.le_of_ble_eq_true rfl, Nat.le_of_ble_eq_true rfl⟩ ⟨(Nat.le_of_ble_eq_true rfl), (Nat.le_of_ble_eq_true rfl)⟩ (Nat.le_of_ble_eq_true rfl) ?_
    refine v_if_ne (tgt := 17) E dX3_findIndexAcross_13 (by decide) (fun c23 => ?_) (fun c23 => ?_)
    · rw [if_neg c23] at h
      refine v_aload_n E dX3_findIndexAcross_17 rfl ?_
      refine v_iload_n E dX3_findIndexAcross_18 rfl ?_
      replace h := bnd_e h
      obtain ⟨v3, ev3, h⟩ := h
      refine v_baload E ev3 dX3_findIndexAcross_19 ?_
      refine jp_use h (fun K4 eK4 h => ?_)
      have hK4 : ∀ x13 : Unit, K4 x13 = some r → V p l e { frames := 1, cells := 0, slots := 0, locals := 21 } s m ar below meth c (MQ below (Qd base D cy none r) ar s 0 0 (fun q => base ≤ q)) base D cy 4 50 [some (vR (some o1)), some (vI a1), some (vI a2), some (vR a3)] [] A0 0 0 := by
        intro x13 h
        rw [eK4] at h
        try dsimp only at h
        refine v_aload_n E dX3_findIndexAcross_50 rfl ?_
        refine v_iload_n E dX3_findIndexAcross_51 rfl ?_
        replace h := bnd_e h
        obtain ⟨v14, ev14, h⟩ := h
        refine v_baload E ev14 dX3_findIndexAcross_52 ?_
        refine v_if_eq (tgt := 80) E dX3_findIndexAcross_53 (by decide) (fun c22 => ?_) (fun c22 => ?_)
        · rw [if_pos c22] at h
          replace h := Option.some.inj h
          subst h
          refine v_widen (k' := 0) (n' := 0) (Nat.le_of_ble_eq_true rfl) (Nat.le_of_ble_eq_true rfl) ?_
          exact v_vret E dX3_findIndexAcross_80
        · rw [if_neg c22] at h
          refine v_aload_n E dX3_findIndexAcross_56 rfl ?_
          refine v_iload_n E dX3_findIndexAcross_57 rfl ?_
          replace h := bnd_e h
          obtain ⟨v15, ev15, h⟩ := h
          refine v_baload E ev15 dX3_findIndexAcross_58 ?_
          refine v_if_ne (tgt := 80) E dX3_findIndexAcross_59 (by decide) (fun c21 => ?_) (fun c21 => ?_)
          · rw [if_neg c21] at h
            replace h := Option.some.inj h
            subst h
            refine v_widen (k' := 0) (n' := 0) (Nat.le_of_ble_eq_true rfl) (Nat.le_of_ble_eq_true rfl) ?_
            exact v_vret E dX3_findIndexAcross_80
          · rw [if_pos c21] at h
            refine v_aload_n E dX3_findIndexAcross_62 rfl ?_
            replace h := bnd_e h
            obtain ⟨v16, ev16, h⟩ := h
            refine g3_45 E ev16 dX3_findIndexAcross_63 ?_
            refine v_iload_n E dX3_findIndexAcross_66 rfl ?_
            refine v_aload_n E dX3_findIndexAcross_67 rfl ?_
            replace h := bnd_e h
            obtain ⟨v17, ev17, h⟩ := h
            refine g3_45 E ev17 dX3_findIndexAcross_68 ?_
            refine v_iload_n E dX3_findIndexAcross_71 rfl ?_
            replace h := bnd_e h
            obtain ⟨v18, ev18, h⟩ := h
            refine v_iaload E ev18 dX3_findIndexAcross_72 ?_
            refine v_iconst (v := 1) E dX3_findIndexAcross_73 (by decide) ?_
            refine v_iadd E dX3_findIndexAcross_74 ?_
            replace h := bnd_e h
            obtain ⟨A19, eA19, h⟩ := h
            refine v_iastore E eA19 dX3_findIndexAcross_75 ?_
            refine v_aload_n E dX3_findIndexAcross_76 rfl ?_
            refine v_iload_n E dX3_findIndexAcross_77 rfl ?_
            refine v_iconst (v := 1) E dX3_findIndexAcross_78 (by decide) ?_
            replace h := bnd_e h
            obtain ⟨A20, eA20, h⟩ := h
            refine v_bastore E eA20 dX3_findIndexAcross_79 ?_
            replace h := Option.some.inj h
            subst h
            refine v_widen (k' := 0) (n' := 0) (Nat.le_of_ble_eq_true rfl) (Nat.le_of_ble_eq_true rfl) ?_
            exact v_vret E dX3_findIndexAcross_80
      refine v_if_eq (tgt := 50) E dX3_findIndexAcross_20 (by decide) (fun c12 => ?_) (fun c12 => ?_)
      · rw [if_pos c12] at h
        exact hK4 () h
      · rw [if_neg c12] at h
        refine v_aload_n E dX3_findIndexAcross_23 rfl ?_
        refine v_iload_n E dX3_findIndexAcross_24 rfl ?_
        replace h := bnd_e h
        obtain ⟨v5, ev5, h⟩ := h
        refine v_baload E ev5 dX3_findIndexAcross_25 ?_
        refine v_if_ne (tgt := 50) E dX3_findIndexAcross_26 (by decide) (fun c11 => ?_) (fun c11 => ?_)
        · rw [if_neg c11] at h
          exact hK4 () h
        · rw [if_pos c11] at h
          refine v_aload_n E dX3_findIndexAcross_29 rfl ?_
          replace h := bnd_e h
          obtain ⟨v6, ev6, h⟩ := h
          refine g3_45 E ev6 dX3_findIndexAcross_30 ?_
          refine v_iload_n E dX3_findIndexAcross_33 rfl ?_
          refine v_aload_n E dX3_findIndexAcross_34 rfl ?_
          replace h := bnd_e h
          obtain ⟨v7, ev7, h⟩ := h
          refine g3_45 E ev7 dX3_findIndexAcross_35 ?_
          refine v_iload_n E dX3_findIndexAcross_38 rfl ?_
          replace h := bnd_e h
          obtain ⟨v8, ev8, h⟩ := h
          refine v_iaload E ev8 dX3_findIndexAcross_39 ?_
          refine v_iconst (v := 1) E dX3_findIndexAcross_40 (by decide) ?_
          refine v_isub E dX3_findIndexAcross_41 ?_
          replace h := bnd_e h
          obtain ⟨A9, eA9, h⟩ := h
          refine v_iastore E eA9 dX3_findIndexAcross_42 ?_
          refine v_aload_n E dX3_findIndexAcross_43 rfl ?_
          refine v_iload_n E dX3_findIndexAcross_44 rfl ?_
          refine v_iconst (v := 1) E dX3_findIndexAcross_45 (by decide) ?_
          replace h := bnd_e h
          obtain ⟨A10, eA10, h⟩ := h
          refine v_bastore E eA10 dX3_findIndexAcross_46 ?_
          refine v_goto (tgt := 80) E dX3_findIndexAcross_47 (by decide) ?_
          replace h := Option.some.inj h
          subst h
          refine v_widen (k' := 0) (n' := 0) (Nat.le_of_ble_eq_true rfl) (Nat.le_of_ble_eq_true rfl) ?_
          exact v_vret E dX3_findIndexAcross_80
    · rw [if_pos c23] at h
      replace h := Option.some.inj h
      subst h
      refine v_widen (k' := 0) (n' := 0) (Nat.le_of_ble_eq_true rfl) (Nat.le_of_ble_eq_true rfl) ?_
      exact v_vret E dX3_findIndexAcross_16
noncomputable def fX3_findIndexes (A0 : AH) (o0 : Option Nat) : Option (AH) :=
  (rcv A0 4 o0).bind fun o0 =>
  (gI A0 4 97 ((some o0))).bind fun v1 =>
  (nA A0 15 v1 32).bind fun A2 =>
  (fX3_hasFace A2 ((some o0)) 0).bind fun r3 =>
  jp (fun (x7 : AH) =>
    (iter (S := Int32 × AH) (T := AH) (fun s8 =>
        (gI s8.2 4 97 ((some o0))).bind fun v11 =>
        if v11 ≤ s8.1 then
          some (.inr s8.2)
        else
          (iter (S := Int32 × AH) (T := AH) (fun s12 =>
              (gR s12.2 4 100 ((some o0))).bind fun v15 =>
              (aL s12.2 14 v15).bind fun v16 =>
              if v16 ≤ s12.1 then
                some (.inr s12.2)
              else
                (gR s12.2 4 100 ((some o0))).bind fun v17 =>
                (aI s12.2 14 v17 s12.1).bind fun v18 =>
                (gR s12.2 4 101 ((some o0))).bind fun v19 =>
                (aI s12.2 14 v19 s12.1).bind fun v20 =>
                (fX3_findIndexAcross s12.2 ((some o0)) v18 v20 ((some (Hs A0)))).bind fun r21 =>
                some (.inl ((s12.1 + 1), r21))) (0, s8.2)).bind fun t13 =>
          some (.inl ((s8.1 + 1), t13))) (0, x7)).bind fun t9 =>
    some t9) fun K4 =>
    if r3 = 0 then
      K4 A2
    else
      (sZ A2 15 ((some (Hs A0))) 0 1).bind fun A5 =>
      K4 A5
set_option maxRecDepth 100000 in
set_option maxHeartbeats 4000000 in
theorem kX3_findIndexes (l : Launch) {A0 : AH} {o0 : Option Nat} {r : AH} (h : fX3_findIndexes A0 o0 = some r) : (∃ a, o0 = some a ∧ Hk A0 a = 4) ∧ Cn l yX3_findIndexes cX3_findIndexes 4 none 2 44 1 32 [vR o0] A0 none r := by
  unfold fX3_findIndexes at h
  replace h := bnd_e h
  obtain ⟨o1, e1, h⟩ := h
  obtain ⟨rfl, hk0⟩ := rcv_e e1
  refine ⟨⟨o1, rfl, hk0⟩, ?_⟩
  refine Cn.of (pad := 3) (lv0 := [some (vR (some o1)), none, none, none]) (by decide +kernel) (Nat.le_of_ble_eq_true rfl) rfl ?_
  intro p e s m below meth c base D cy E
  generalize (List.map toV [vR (some o1)]).toArray = ar at E ⊢
  have E : EN p s m ar meth c D cy RX3 cX3_findIndexes 4 none "findIndexes" := E
  refine v_aload_n E dX3_findIndexes_0 rfl ?_
  replace h := bnd_e h
  obtain ⟨v1, ev1, h⟩ := h
  refine g3_19 E ev1 dX3_findIndexes_1 ?_
  replace h := bnd_e h
  obtain ⟨A2, eA2, h⟩ := h
  refine v_newz E q664 eA2 (Nat.le_of_ble_eq_true rfl) (Nat.le_of_ble_eq_true rfl) (by decide) dX3_findIndexes_4 ?_
  refine v_astore_n (lv' := [some (vR (some o1)), some (vR (some (Hs A0))), none, none]) E dX3_findIndexes_6 (by decide) rfl ?_
  refine v_aload_n E dX3_findIndexes_7 rfl ?_
  refine v_iconst (v := 0) E dX3_findIndexes_8 (by decide) ?_
  replace h := bnd_e h
  obtain ⟨r3, er3, h⟩ := h
  refine v_callV (na := 1) (As := [vI 0]) (rest := []) (ci := 3) (q := (RX3, TX3, 8)) E gw3_106 (by decide +kernel) rfl rfl (by decide) (kX3_hasFace l er3).2 (kX3_hasFace l er3).1 rfl rfl dX3_findIndexes_9 ⟨Nat.le_of_ble_eq_true rfl, Nat.le_of_ble_eq_true rfl⟩ ⟨(Nat.le_of_ble_eq_true rfl), (Nat.le_of_ble_eq_true rfl)⟩ (Nat.le_of_ble_eq_true rfl) ?_
  refine jp_use h (fun K4 eK4 h => ?_)
  have hK4 : ∀ x7 : AH, K4 x7 = some r → V p l e { frames := 2, cells := 1, slots := 32, locals := 44 } s m ar below meth c (MQ below (Qd base D cy none r) ar s 1 32 (fun q => base ≤ q)) base D cy 4 19 [some (vR (some o1)), some (vR (some (Hs A0))), none, none] [] x7 1 32 := by
    intro x7 h
    rw [eK4] at h
    try dsimp only at h
    refine v_iconst (v := 0) E dX3_findIndexes_19 (by decide) ?_
    refine v_istore_n (lv' := [some (vR (some o1)), some (vR (some (Hs A0))), some (vI 0), none]) E dX3_findIndexes_20 (by decide) rfl ?_
    replace h := bnd_e h
    obtain ⟨t9, et9, h⟩ := h
    refine iter_V (S := Int32 × AH) (T := AH) (Ph := fun s8 => V p l e { frames := 2, cells := 1, slots := 32, locals := 44 } s m ar below meth c (MQ below (Qd base D cy none r) ar s 1 32 (fun q => base ≤ q)) base D cy 4 21 [some (vR (some o1)), some (vR (some (Hs A0))), some (vI s8.1), none] [] s8.2 1 32) (Pt := fun t9 => V p l e { frames := 2, cells := 1, slots := 32, locals := 44 } s m ar below meth c (MQ below (Qd base D cy none r) ar s 1 32 (fun q => base ≤ q)) base D cy 4 69 [none, none, none, none] [] t9 1 32) et9 (fun s8 w10 h hx => ?_) ?_
    · try dsimp only at h
      refine v_iload_n E dX3_findIndexes_21 rfl ?_
      refine v_aload_n E dX3_findIndexes_22 rfl ?_
      replace h := bnd_e h
      obtain ⟨v11, ev11, h⟩ := h
      refine g3_19 E ev11 dX3_findIndexes_23 ?_
      refine v_icmp_ge (tgt := 69) E dX3_findIndexes_26 (by decide) (fun c24 => ?_) (fun c24 => ?_)
      · rw [if_pos c24] at h
        refine v_drop (lv' := [none, none, none, none]) [0, 1, 2] rfl ?_
        replace h := Option.some.inj h
        subst h
        exact hx
      · rw [if_neg c24] at h
        refine v_iconst (v := 0) E dX3_findIndexes_29 (by decide) ?_
        refine v_istore_n (lv' := [some (vR (some o1)), some (vR (some (Hs A0))), some (vI s8.1), some (vI 0)]) E dX3_findIndexes_30 (by decide) rfl ?_
        replace h := bnd_e h
        obtain ⟨t13, et13, h⟩ := h
        refine iter_V (S := Int32 × AH) (T := AH) (Ph := fun s12 => V p l e { frames := 2, cells := 1, slots := 32, locals := 44 } s m ar below meth c (MQ below (Qd base D cy none r) ar s 1 32 (fun q => base ≤ q)) base D cy 4 31 [some (vR (some o1)), some (vR (some (Hs A0))), some (vI s8.1), some (vI s12.1)] [] s12.2 1 32) (Pt := fun t13 => V p l e { frames := 2, cells := 1, slots := 32, locals := 44 } s m ar below meth c (MQ below (Qd base D cy none r) ar s 1 32 (fun q => base ≤ q)) base D cy 4 63 [some (vR (some o1)), some (vR (some (Hs A0))), some (vI s8.1), none] [] t13 1 32) et13 (fun s12 w14 h hx => ?_) ?_
        · try dsimp only at h
          refine v_iload_n E dX3_findIndexes_31 rfl ?_
          refine v_aload_n E dX3_findIndexes_32 rfl ?_
          replace h := bnd_e h
          obtain ⟨v15, ev15, h⟩ := h
          refine g3_39 E ev15 dX3_findIndexes_33 ?_
          replace h := bnd_e h
          obtain ⟨v16, ev16, h⟩ := h
          refine v_alen (kd := 14) (t0 := 0) E (by decide) rfl ev16 dX3_findIndexes_36 ?_
          refine v_icmp_ge (tgt := 63) E dX3_findIndexes_37 (by decide) (fun c22 => ?_) (fun c22 => ?_)
          · rw [if_pos c22] at h
            refine v_drop (lv' := [some (vR (some o1)), some (vR (some (Hs A0))), some (vI s8.1), none]) [3] rfl ?_
            replace h := Option.some.inj h
            subst h
            exact hx
          · rw [if_neg c22] at h
            refine v_aload_n E dX3_findIndexes_40 rfl ?_
            refine v_aload_n E dX3_findIndexes_41 rfl ?_
            replace h := bnd_e h
            obtain ⟨v17, ev17, h⟩ := h
            refine g3_39 E ev17 dX3_findIndexes_42 ?_
            refine v_iload_n E dX3_findIndexes_45 rfl ?_
            replace h := bnd_e h
            obtain ⟨v18, ev18, h⟩ := h
            refine v_iaload E ev18 dX3_findIndexes_46 ?_
            refine v_aload_n E dX3_findIndexes_47 rfl ?_
            replace h := bnd_e h
            obtain ⟨v19, ev19, h⟩ := h
            refine g3_42 E ev19 dX3_findIndexes_48 ?_
            refine v_iload_n E dX3_findIndexes_51 rfl ?_
            replace h := bnd_e h
            obtain ⟨v20, ev20, h⟩ := h
            refine v_iaload E ev20 dX3_findIndexes_52 ?_
            refine v_aload_n E dX3_findIndexes_53 rfl ?_
            replace h := bnd_e h
            obtain ⟨r21, er21, h⟩ := h
            refine v_callV (na := 3) (As := [vI v18, vI v20, vR (some (Hs A0))]) (rest := []) (ci := 3) (q := (RX3, TX3, 8)) E gw3_109 (by decide +kernel) rfl rfl (by decide) (kX3_findIndexAcross l er21).2 (kX3_findIndexAcross l er21).1 rfl rfl dX3_findIndexes_54 ⟨Nat.le_of_ble_eq_true rfl, Nat.le_of_ble_eq_true rfl⟩ ⟨(Nat.le_of_ble_eq_true rfl), (Nat.le_of_ble_eq_true rfl)⟩ (Nat.le_of_ble_eq_true rfl) ?_
            refine v_iinc (v := (s12.1 + 1)) (lv' := [some (vR (some o1)), some (vR (some (Hs A0))), some (vI s8.1), some (vI (s12.1 + 1))]) E dX3_findIndexes_57 rfl (by rfl) (by decide) rfl ?_
            refine v_goto (tgt := 31) E dX3_findIndexes_60 (by decide) ?_
            replace h := Option.some.inj h
            subst h
            exact hx
        · refine v_iinc (v := (s8.1 + 1)) (lv' := [some (vR (some o1)), some (vR (some (Hs A0))), some (vI (s8.1 + 1)), none]) E dX3_findIndexes_63 rfl (by rfl) (by decide) rfl ?_
          refine v_goto (tgt := 21) E dX3_findIndexes_66 (by decide) ?_
          replace h := Option.some.inj h
          subst h
          exact hx
    · replace h := Option.some.inj h
      subst h
      refine v_widen (k' := 1) (n' := 32) (Nat.le_of_ble_eq_true rfl) (Nat.le_of_ble_eq_true rfl) ?_
      exact v_vret E dX3_findIndexes_69
  refine v_if_eq (tgt := 19) E dX3_findIndexes_12 (by decide) (fun c6 => ?_) (fun c6 => ?_)
  · rw [if_pos c6] at h
    exact hK4 A2 h
  · rw [if_neg c6] at h
    refine v_aload_n E dX3_findIndexes_15 rfl ?_
    refine v_iconst (v := 0) E dX3_findIndexes_16 (by decide) ?_
    refine v_iconst (v := 1) E dX3_findIndexes_17 (by decide) ?_
    replace h := bnd_e h
    obtain ⟨A5, eA5, h⟩ := h
    refine v_bastore E eA5 dX3_findIndexes_18 ?_
    exact hK4 A5 h
noncomputable def fX3_init (A0 : AH) (o0 : Option Nat) (a1 : Option Nat) (a2 : Int32) (a3 : Option Nat) : Option (AH) :=
  (rcv A0 4 o0).bind fun o0 =>
  (pR A0 4 96 ((some o0)) a1).bind fun A1 =>
  (fX3_countIn A1 a1 a2 a3).bind fun r2 =>
  (pI r2.2 4 97 ((some o0)) r2.1).bind fun A3 =>
  (fX7_letterCount A3 a1).bind fun r4 =>
  (nA A3 14 ((4 * r4)) 32).bind fun A5 =>
  (pR A5 4 98 ((some o0)) ((some (Hs A3)))).bind fun A6 =>
  (gI A6 4 97 ((some o0))).bind fun v7 =>
  (nA A6 14 v7 32).bind fun A8 =>
  (pR A8 4 99 ((some o0)) ((some (Hs A6)))).bind fun A9 =>
  (fX7_stepCount A9 a1).bind fun r10 =>
  (nA A9 14 r10 16).bind fun A11 =>
  (pR A11 4 100 ((some o0)) ((some (Hs A9)))).bind fun A12 =>
  (fX7_stepCount A12 a1).bind fun r13 =>
  (nA A12 14 r13 16).bind fun A14 =>
  (pR A14 4 101 ((some o0)) ((some (Hs A12)))).bind fun A15 =>
  (gI A15 4 97 ((some o0))).bind fun v16 =>
  (nA A15 14 v16 32).bind fun A17 =>
  (pR A17 4 102 ((some o0)) ((some (Hs A15)))).bind fun A18 =>
  (gI A18 4 97 ((some o0))).bind fun v19 =>
  (fX7_letterCount A18 a1).bind fun r20 =>
  jp1 (α := Int32) (if v19 = (r20 + 2) then
      1
    else
      0) fun x23 =>
  (pZ A18 4 103 ((some o0)) x23).bind fun A24 =>
    (fX3_numberCorners A24 ((some o0)) a3).bind fun r25 =>
    (fX3_findSidesOfSteps r25 ((some o0)) a2).bind fun r26 =>
    (gI r26 4 103 ((some o0))).bind fun v27 =>
    if v27 = 0 then
      some r26
    else
      (fX3_findIndexes r26 ((some o0))).bind fun r28 =>
      some r28
set_option maxRecDepth 100000 in
set_option maxHeartbeats 4000000 in
theorem kX3_init (l : Launch) {A0 : AH} {o0 : Option Nat} {a1 : Option Nat} {a2 : Int32} {a3 : Option Nat} {r : AH} (h : fX3_init A0 o0 a1 a2 a3 = some r) : (∃ a, o0 = some a ∧ Hk A0 a = 4) ∧ Cn l yX3_init cX3_init 4 none 4 90 6 160 [vR o0, vR a1, vI a2, vR a3] A0 none r := by
  unfold fX3_init at h
  replace h := bnd_e h
  obtain ⟨o1, e1, h⟩ := h
  obtain ⟨rfl, hk0⟩ := rcv_e e1
  refine ⟨⟨o1, rfl, hk0⟩, ?_⟩
  refine Cn.of (pad := 0) (lv0 := [some (vR (some o1)), some (vR a1), some (vI a2), some (vR a3)]) (by decide +kernel) (Nat.le_of_ble_eq_true rfl) rfl ?_
  intro p e s m below meth c base D cy E
  generalize (List.map toV [vR (some o1), vR a1, vI a2, vR a3]).toArray = ar at E ⊢
  have E : EN p s m ar meth c D cy RX3 cX3_init 4 none "<init>" := E
  refine v_aload_n E dX3_init_0 rfl ?_
  refine v_objInit E q577 q107 q108 ⟨_, rfl⟩ dX3_init_1 (Nat.le_of_ble_eq_true rfl) (Nat.le_of_ble_eq_true rfl) ?_
  refine v_aload_n E dX3_init_4 rfl ?_
  refine v_aload_n E dX3_init_5 rfl ?_
  replace h := bnd_e h
  obtain ⟨A1, eA1, h⟩ := h
  refine p3_9 E eA1 dX3_init_6 ?_
  refine v_aload_n E dX3_init_9 rfl ?_
  refine v_aload_n E dX3_init_10 rfl ?_
  refine v_iload_n E dX3_init_11 rfl ?_
  refine v_aload_n E dX3_init_12 rfl ?_
  replace h := bnd_e h
  obtain ⟨r2, er2, h⟩ := h
  refine v_callS (na := 3) (As := [vR a1, vI a2, vR a3]) (rest := [vR (some o1)]) E gw3_15 (by decide +kernel) (kX3_countIn l er2) rfl rfl dX3_init_13 ⟨Nat.le_of_ble_eq_true rfl, Nat.le_of_ble_eq_true rfl⟩ ⟨(Nat.le_of_ble_eq_true rfl), (Nat.le_of_ble_eq_true rfl)⟩ (Nat.le_of_ble_eq_true rfl) ?_
  replace h := bnd_e h
  obtain ⟨A3, eA3, h⟩ := h
  refine p3_19 E eA3 dX3_init_16 ?_
  refine v_aload_n E dX3_init_19 rfl ?_
  refine v_iconst (v := 4) E dX3_init_20 (by decide) ?_
  refine v_aload_n E dX3_init_21 rfl ?_
  replace h := bnd_e h
  obtain ⟨r4, er4, h⟩ := h
  refine v_callV (na := 0) (As := []) (rest := [vI 4, vR (some o1)]) (ci := 7) (q := (RX7, TX7, 14)) E gw3_23 (by decide +kernel) rfl rfl (by decide) (kX7_letterCount l er4).2 (kX7_letterCount l er4).1 rfl rfl dX3_init_22 ⟨Nat.le_of_ble_eq_true rfl, Nat.le_of_ble_eq_true rfl⟩ ⟨(Nat.le_of_ble_eq_true rfl), (Nat.le_of_ble_eq_true rfl)⟩ (Nat.le_of_ble_eq_true rfl) ?_
  refine v_imul E dX3_init_25 ?_
  replace h := bnd_e h
  obtain ⟨A5, eA5, h⟩ := h
  refine v_newi E q140 eA5 (Nat.le_of_ble_eq_true rfl) (Nat.le_of_ble_eq_true rfl) (by decide) dX3_init_26 ?_
  replace h := bnd_e h
  obtain ⟨A6, eA6, h⟩ := h
  refine p3_29 E eA6 dX3_init_28 ?_
  refine v_aload_n E dX3_init_31 rfl ?_
  refine v_aload_n E dX3_init_32 rfl ?_
  replace h := bnd_e h
  obtain ⟨v7, ev7, h⟩ := h
  refine g3_19 E ev7 dX3_init_33 ?_
  replace h := bnd_e h
  obtain ⟨A8, eA8, h⟩ := h
  refine v_newi E q140 eA8 (Nat.le_of_ble_eq_true rfl) (Nat.le_of_ble_eq_true rfl) (by decide) dX3_init_36 ?_
  replace h := bnd_e h
  obtain ⟨A9, eA9, h⟩ := h
  refine p3_33 E eA9 dX3_init_38 ?_
  refine v_aload_n E dX3_init_41 rfl ?_
  refine v_aload_n E dX3_init_42 rfl ?_
  replace h := bnd_e h
  obtain ⟨r10, er10, h⟩ := h
  refine v_callV (na := 0) (As := []) (rest := [vR (some o1)]) (ci := 7) (q := (RX7, TX7, 14)) E gw3_36 (by decide +kernel) rfl rfl (by decide) (kX7_stepCount l er10).2 (kX7_stepCount l er10).1 rfl rfl dX3_init_43 ⟨Nat.le_of_ble_eq_true rfl, Nat.le_of_ble_eq_true rfl⟩ ⟨(Nat.le_of_ble_eq_true rfl), (Nat.le_of_ble_eq_true rfl)⟩ (Nat.le_of_ble_eq_true rfl) ?_
  replace h := bnd_e h
  obtain ⟨A11, eA11, h⟩ := h
  refine v_newi E q140 eA11 (Nat.le_of_ble_eq_true rfl) (Nat.le_of_ble_eq_true rfl) (by decide) dX3_init_46 ?_
  replace h := bnd_e h
  obtain ⟨A12, eA12, h⟩ := h
  refine p3_39 E eA12 dX3_init_48 ?_
  refine v_aload_n E dX3_init_51 rfl ?_
  refine v_aload_n E dX3_init_52 rfl ?_
  replace h := bnd_e h
  obtain ⟨r13, er13, h⟩ := h
  refine v_callV (na := 0) (As := []) (rest := [vR (some o1)]) (ci := 7) (q := (RX7, TX7, 14)) E gw3_36 (by decide +kernel) rfl rfl (by decide) (kX7_stepCount l er13).2 (kX7_stepCount l er13).1 rfl rfl dX3_init_53 ⟨Nat.le_of_ble_eq_true rfl, Nat.le_of_ble_eq_true rfl⟩ ⟨(Nat.le_of_ble_eq_true rfl), (Nat.le_of_ble_eq_true rfl)⟩ (Nat.le_of_ble_eq_true rfl) ?_
  replace h := bnd_e h
  obtain ⟨A14, eA14, h⟩ := h
  refine v_newi E q140 eA14 (Nat.le_of_ble_eq_true rfl) (Nat.le_of_ble_eq_true rfl) (by decide) dX3_init_56 ?_
  replace h := bnd_e h
  obtain ⟨A15, eA15, h⟩ := h
  refine p3_42 E eA15 dX3_init_58 ?_
  refine v_aload_n E dX3_init_61 rfl ?_
  refine v_aload_n E dX3_init_62 rfl ?_
  replace h := bnd_e h
  obtain ⟨v16, ev16, h⟩ := h
  refine g3_19 E ev16 dX3_init_63 ?_
  replace h := bnd_e h
  obtain ⟨A17, eA17, h⟩ := h
  refine v_newi E q140 eA17 (Nat.le_of_ble_eq_true rfl) (Nat.le_of_ble_eq_true rfl) (by decide) dX3_init_66 ?_
  replace h := bnd_e h
  obtain ⟨A18, eA18, h⟩ := h
  refine p3_45 E eA18 dX3_init_68 ?_
  refine v_aload_n E dX3_init_71 rfl ?_
  refine v_aload_n E dX3_init_72 rfl ?_
  replace h := bnd_e h
  obtain ⟨v19, ev19, h⟩ := h
  refine g3_19 E ev19 dX3_init_73 ?_
  refine v_aload_n E dX3_init_76 rfl ?_
  replace h := bnd_e h
  obtain ⟨r20, er20, h⟩ := h
  refine v_callV (na := 0) (As := []) (rest := [vI v19, vR (some o1)]) (ci := 7) (q := (RX7, TX7, 14)) E gw3_23 (by decide +kernel) rfl rfl (by decide) (kX7_letterCount l er20).2 (kX7_letterCount l er20).1 rfl rfl dX3_init_77 ⟨Nat.le_of_ble_eq_true rfl, Nat.le_of_ble_eq_true rfl⟩ ⟨(Nat.le_of_ble_eq_true rfl), (Nat.le_of_ble_eq_true rfl)⟩ (Nat.le_of_ble_eq_true rfl) ?_
  refine v_iconst (v := 2) E dX3_init_80 (by decide) ?_
  refine v_iadd E dX3_init_81 ?_
  refine jp1_use h (fun K21 eK21 h => ?_)
  have hK21 : ∀ x23 : Int32, K21 x23 = some r → V p l e { frames := 4, cells := 6, slots := 160, locals := 90 } s m ar below meth c (MQ below (Qd base D cy none r) ar s 6 160 (fun q => base ≤ q)) base D cy 4 90 [some (vR (some o1)), none, some (vI a2), some (vR a3)] [vI x23, vR (some o1)] A18 5 128 := by
    intro x23 h
    rw [eK21] at h
    try dsimp only at h
    replace h := bnd_e h
    obtain ⟨A24, eA24, h⟩ := h
    refine p3_48 E eA24 dX3_init_90 ?_
    refine v_aload_n E dX3_init_93 rfl ?_
    refine v_aload_n E dX3_init_94 rfl ?_
    replace h := bnd_e h
    obtain ⟨r25, er25, h⟩ := h
    refine v_callV (na := 1) (As := [vR a3]) (rest := []) (ci := 3) (q := (RX3, TX3, 8)) E gw3_52 (by decide +kernel) rfl rfl (by decide) (kX3_numberCorners l er25).2 (kX3_numberCorners l er25).1 rfl rfl dX3_init_95 ⟨Nat.le_of_ble_eq_true rfl, Nat.le_of_ble_eq_true rfl⟩ ⟨(Nat.le_of_ble_eq_true rfl), (Nat.le_of_ble_eq_true rfl)⟩ (Nat.le_of_ble_eq_true rfl) ?_
    refine v_aload_n E dX3_init_98 rfl ?_
    refine v_iload_n E dX3_init_99 rfl ?_
    replace h := bnd_e h
    obtain ⟨r26, er26, h⟩ := h
    refine v_callV (na := 1) (As := [vI a2]) (rest := []) (ci := 3) (q := (RX3, TX3, 8)) E gw3_56 (by decide +kernel) rfl rfl (by decide) (kX3_findSidesOfSteps l er26).2 (kX3_findSidesOfSteps l er26).1 rfl rfl dX3_init_100 ⟨Nat.le_of_ble_eq_true rfl, Nat.le_of_ble_eq_true rfl⟩ ⟨(Nat.le_of_ble_eq_true rfl), (Nat.le_of_ble_eq_true rfl)⟩ (Nat.le_of_ble_eq_true rfl) ?_
    refine v_aload_n E dX3_init_103 rfl ?_
    replace h := bnd_e h
    obtain ⟨v27, ev27, h⟩ := h
    refine g3_48 E ev27 dX3_init_104 ?_
    refine v_if_eq (tgt := 114) E dX3_init_107 (by decide) (fun c29 => ?_) (fun c29 => ?_)
    · rw [if_pos c29] at h
      replace h := Option.some.inj h
      subst h
      refine v_widen (k' := 6) (n' := 160) (Nat.le_of_ble_eq_true rfl) (Nat.le_of_ble_eq_true rfl) ?_
      exact v_vret E dX3_init_114
    · rw [if_neg c29] at h
      refine v_aload_n E dX3_init_110 rfl ?_
      replace h := bnd_e h
      obtain ⟨r28, er28, h⟩ := h
      refine v_callV (na := 0) (As := []) (rest := []) (ci := 3) (q := (RX3, TX3, 8)) E gw3_60 (by decide +kernel) rfl rfl (by decide) (kX3_findIndexes l er28).2 (kX3_findIndexes l er28).1 rfl rfl dX3_init_111 ⟨Nat.le_of_ble_eq_true rfl, Nat.le_of_ble_eq_true rfl⟩ ⟨(Nat.le_of_ble_eq_true rfl), (Nat.le_of_ble_eq_true rfl)⟩ (Nat.le_of_ble_eq_true rfl) ?_
      refine v_widen (k' := 6) (n' := 160) (Nat.le_of_ble_eq_true rfl) (Nat.le_of_ble_eq_true rfl) ?_
      replace h := Option.some.inj h
      subst h
      refine v_widen (k' := 6) (n' := 160) (Nat.le_of_ble_eq_true rfl) (Nat.le_of_ble_eq_true rfl) ?_
      exact v_vret E dX3_init_114
  refine v_icmp_ne (tgt := 89) E dX3_init_82 (by decide) (fun c22 => ?_) (fun c22 => ?_)
  · rw [if_neg c22] at h
    refine v_iconst (v := 0) E dX3_init_89 (by decide) ?_
    refine v_drop (lv' := [some (vR (some o1)), none, some (vI a2), some (vR a3)]) [1] rfl ?_
    exact hK21 0 h
  · rw [if_pos c22] at h
    refine v_iconst (v := 1) E dX3_init_85 (by decide) ?_
    refine v_goto (tgt := 90) E dX3_init_86 (by decide) ?_
    refine v_drop (lv' := [some (vR (some o1)), none, some (vI a2), some (vR a3)]) [1] rfl ?_
    exact hK21 1 h
