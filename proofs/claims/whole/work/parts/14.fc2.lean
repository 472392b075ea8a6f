noncomputable def fX10_faces (A0 : AH) (o0 : Option Nat) (a1 : Option Nat) : Option (Option Nat × AH) :=
  (rcv A0 11 o0).bind fun o0 =>
  (gR A0 11 322 ((some o0))).bind fun v1 =>
  jp (fun (x8 : AH) =>
    (gR x8 11 322 ((some o0))).bind fun v9 =>
    some ((v9, x8))) fun K2 =>
    if v1 = none then
      (gR ((nw A0 4 0)) 11 320 ((some o0))).bind fun v3 =>
      (gI ((nw A0 4 0)) 11 321 ((some o0))).bind fun v4 =>
      (fX3_init ((nw A0 4 0)) ((some (Hs A0))) v3 v4 a1).bind fun r5 =>
      (pR r5 11 322 ((some o0)) ((some (Hs A0)))).bind fun A6 =>
      K2 A6
    else
      K2 A0
set_option maxRecDepth 100000 in
set_option maxHeartbeats 4000000 in
theorem kX10_faces (l : Launch) {A0 : AH} {o0 : Option Nat} {a1 : Option Nat} {r : Option Nat × AH} (h : fX10_faces A0 o0 a1 = some r) : (∃ a, o0 = some a ∧ Hk A0 a = 11) ∧ Cn l yX10_faces cX10_faces 2 (some (.object "OneStrokes$Faces")) 5 113 7 168 [vR o0, vR a1] A0 (some (vR r.1)) r.2 := by
  unfold fX10_faces at h
  replace h := bnd_e h
  obtain ⟨o1, e1, h⟩ := h
  obtain ⟨rfl, hk0⟩ := rcv_e e1
  refine ⟨⟨o1, rfl, hk0⟩, ?_⟩
  refine Cn.of (pad := 0) (lv0 := [some (vR (some o1)), some (vR a1)]) (by decide +kernel) (Nat.le_of_ble_eq_true rfl) rfl ?_
  intro p e s m below meth c base D cy E
  generalize (List.map toV [vR (some o1), vR a1]).toArray = ar at E ⊢
  have E : EN p s m ar meth c D cy RX10 cX10_faces 2 (some (.object "OneStrokes$Faces")) "faces" := E
  refine v_aload_n E dX10_faces_0 rfl ?_
  replace h := bnd_e h
  obtain ⟨v1, ev1, h⟩ := h
  refine g10_7 E ev1 dX10_faces_1 ?_
  refine jp_use h (fun K2 eK2 h => ?_)
  have hK2 : ∀ x8 : AH, K2 x8 = some r → V p l e { frames := 5, cells := 7, slots := 168, locals := 113 } s m ar below meth c (MQ below (Qd base D cy (some (vR r.1)) r.2) ar s 7 168 (fun q => base ≤ q)) base D cy 2 27 [some (vR (some o1)), none] [] x8 7 168 := by
    intro x8 h
    rw [eK2] at h
    try dsimp only at h
    refine v_aload_n E dX10_faces_27 rfl ?_
    replace h := bnd_e h
    obtain ⟨v9, ev9, h⟩ := h
    refine g10_7 E ev9 dX10_faces_28 ?_
    replace h := Option.some.inj h
    subst h
    refine v_widen (k' := 7) (n' := 168) (Nat.le_of_ble_eq_true rfl) (Nat.le_of_ble_eq_true rfl) ?_
    exact v_aret E dX10_faces_31
  refine v_ifnonnull (tgt := 27) E dX10_faces_4 (by decide) (fun c7 => ?_) (fun c7 => ?_)
  · rw [if_neg c7] at h
    refine v_drop (lv' := [some (vR (some o1)), none]) [1] rfl ?_
    refine v_widen (k' := 7) (n' := 168) (Nat.le_of_ble_eq_true rfl) (Nat.le_of_ble_eq_true rfl) ?_
    exact hK2 A0 h
  · rw [if_pos c7] at h
    refine v_aload_n E dX10_faces_7 rfl ?_
    refine n10_21 E (Nat.le_of_ble_eq_true rfl) (Nat.le_of_ble_eq_true rfl) dX10_faces_8 ?_
    refine v_dup E dX10_faces_11 rfl ?_
    refine v_aload_n E dX10_faces_12 rfl ?_
    replace h := bnd_e h
    obtain ⟨v3, ev3, h⟩ := h
    refine g10_13 E ev3 dX10_faces_13 ?_
    refine v_aload_n E dX10_faces_16 rfl ?_
    replace h := bnd_e h
    obtain ⟨v4, ev4, h⟩ := h
    refine g10_17 E ev4 dX10_faces_17 ?_
    refine v_aload_n E dX10_faces_20 rfl ?_
    replace h := bnd_e h
    obtain ⟨r5, er5, h⟩ := h
    refine v_callI (na := 3) (As := [vR v3, vI v4, vR a1]) (rest := [vR (some (Hs A0)), vR (some o1)]) E gw10_23 q574 q575 q100 rfl (by decide +kernel) (kX3_init l er5).2 (Exists.elim (kX3_init l er5).1 (fun a q => ⟨a, q.1⟩)) rfl rfl dX10_faces_21 ⟨Nat.le_of_ble_eq_true rfl, Nat.le_of_ble_eq_true rfl⟩ ⟨(Nat.le_of_ble_eq_true rfl), (Nat.le_of_ble_eq_true rfl)⟩ (Nat.le_of_ble_eq_true rfl) ?_
    refine v_widen (k' := 7) (n' := 168) (Nat.le_of_ble_eq_true rfl) (Nat.le_of_ble_eq_true rfl) ?_
    replace h := bnd_e h
    obtain ⟨A6, eA6, h⟩ := h
    refine p10_7 E eA6 dX10_faces_24 ?_
    refine v_drop (lv' := [some (vR (some o1)), none]) [1] rfl ?_
    exact hK2 A6 h
noncomputable def fX3_count (A0 : AH) (o0 : Option Nat) : Option (Int32) :=
  (rcv A0 4 o0).bind fun o0 =>
  (gI A0 4 97 ((some o0))).bind fun v1 =>
  some v1
set_option maxRecDepth 100000 in
set_option maxHeartbeats 4000000 in
theorem kX3_count (l : Launch) {A0 : AH} {o0 : Option Nat} {r : Int32} (h : fX3_count A0 o0 = some r) : (∃ a, o0 = some a ∧ Hk A0 a = 4) ∧ Cn l yX3_count cX3_count 1 (some .int) 0 0 0 0 [vR o0] A0 (some (vI r)) A0 := by
  unfold fX3_count at h
  replace h := bnd_e h
  obtain ⟨o1, e1, h⟩ := h
  obtain ⟨rfl, hk0⟩ := rcv_e e1
  refine ⟨⟨o1, rfl, hk0⟩, ?_⟩
  refine Cn.of (pad := 0) (lv0 := [some (vR (some o1))]) (by decide +kernel) (Nat.le_of_ble_eq_true rfl) rfl ?_
  intro p e s m below meth c base D cy E
  generalize (List.map toV [vR (some o1)]).toArray = ar at E ⊢
  have E : EN p s m ar meth c D cy RX3 cX3_count 1 (some .int) "count" := E
  refine v_aload_n E dX3_count_0 rfl ?_
  replace h := bnd_e h
  obtain ⟨v1, ev1, h⟩ := h
  refine g3_19 E ev1 dX3_count_1 ?_
  replace h := Option.some.inj h
  subst h
  refine v_widen (k' := 0) (n' := 0) (Nat.le_of_ble_eq_true rfl) (Nat.le_of_ble_eq_true rfl) ?_
  exact v_iret E dX3_count_4
noncomputable def fX3_handles (A0 : AH) (o0 : Option Nat) : Option (Int32) :=
  (rcv A0 4 o0).bind fun o0 =>
  (gR A0 4 96 ((some o0))).bind fun v1 =>
  (fX7_letterCount A0 v1).bind fun r2 =>
  (gI A0 4 97 ((some o0))).bind fun v3 =>
  (dvI (((r2 + 2) - v3)) 2).bind fun v4 =>
  some v4
set_option maxRecDepth 100000 in
set_option maxHeartbeats 4000000 in
theorem kX3_handles (l : Launch) {A0 : AH} {o0 : Option Nat} {r : Int32} (h : fX3_handles A0 o0 = some r) : (∃ a, o0 = some a ∧ Hk A0 a = 4) ∧ Cn l yX3_handles cX3_handles 1 (some .int) 1 20 0 0 [vR o0] A0 (some (vI r)) A0 := by
  unfold fX3_handles at h
  replace h := bnd_e h
  obtain ⟨o1, e1, h⟩ := h
  obtain ⟨rfl, hk0⟩ := rcv_e e1
  refine ⟨⟨o1, rfl, hk0⟩, ?_⟩
  refine Cn.of (pad := 0) (lv0 := [some (vR (some o1))]) (by decide +kernel) (Nat.le_of_ble_eq_true rfl) rfl ?_
  intro p e s m below meth c base D cy E
  generalize (List.map toV [vR (some o1)]).toArray = ar at E ⊢
  have E : EN p s m ar meth c D cy RX3 cX3_handles 1 (some .int) "handles" := E
  refine v_aload_n E dX3_handles_0 rfl ?_
  replace h := bnd_e h
  obtain ⟨v1, ev1, h⟩ := h
  refine g3_9 E ev1 dX3_handles_1 ?_
  replace h := bnd_e h
  obtain ⟨r2, er2, h⟩ := h
  refine v_callV (na := 0) (As := []) (rest := []) (ci := 7) (q := (RX7, TX7, 14)) E gw3_23 (by decide +kernel) rfl rfl (by decide) (kX7_letterCount l er2).2 (kX7_letterCount l er2).1 rfl rfl dX3_handles_4 ⟨Nat.le_of_ble_eq_true rfl, Nat.le_of_ble_eq_true rfl⟩ ⟨(Nat.le_of_ble_eq_true rfl), (Nat.le_of_ble_eq_true rfl)⟩ (Nat.le_of_ble_eq_true rfl) ?_
  refine v_iconst (v := 2) E dX3_handles_7 (by decide) ?_
  refine v_iadd E dX3_handles_8 ?_
  refine v_aload_n E dX3_handles_9 rfl ?_
  replace h := bnd_e h
  obtain ⟨v3, ev3, h⟩ := h
  refine g3_19 E ev3 dX3_handles_10 ?_
  refine v_isub E dX3_handles_13 ?_
  refine v_iconst (v := 2) E dX3_handles_14 (by decide) ?_
  replace h := bnd_e h
  obtain ⟨v4, ev4, h⟩ := h
  refine v_idiv E ev4 dX3_handles_15 ?_
  replace h := Option.some.inj h
  subst h
  refine v_widen (k' := 0) (n' := 0) (Nat.le_of_ble_eq_true rfl) (Nat.le_of_ble_eq_true rfl) ?_
  exact v_iret E dX3_handles_16
noncomputable def fX7_trySigns (A0 : AH) (o0 : Option Nat) (a1 : Option Nat) : Option (AH) :=
  (rcv A0 8 o0).bind fun o0 =>
  (gI A0 8 233 ((some o0))).bind fun v1 =>
  if v1 = 0 then
    (iter (S := Int32 × AH) (T := AH) (fun s2 =>
        (gI s2.2 8 224 ((some o0))).bind fun v5 =>
        if ((1 : Int32) <<< ((v5 : Int32) &&& 31)) ≤ s2.1 then
          some (.inr s2.2)
        else
          (fX3_countIn s2.2 ((some o0)) s2.1 a1).bind fun r6 =>
          (gI r6.2 8 224 ((some o0))).bind fun v7 =>
          jp (fun (x17 : AH) =>
            some (.inl ((s2.1 + 1), x17))) fun K8 =>
            if r6.1 = (v7 + 2) then
              (gI r6.2 8 235 ((some o0))).bind fun v9 =>
              jp (fun (x13 : AH) =>
                (gI x13 8 235 ((some o0))).bind fun v14 =>
                (pI x13 8 235 ((some o0)) ((v14 + 1))).bind fun A15 =>
                K8 A15) fun K10 =>
                if v9 = 0 then
                  (pI r6.2 8 234 ((some o0)) s2.1).bind fun A11 =>
                  K10 A11
                else
                  K10 r6.2
            else
              K8 r6.2) (0, A0)).bind fun t3 =>
    (pZ t3 8 233 ((some o0)) 1).bind fun A19 =>
    some A19
  else
    some A0
set_option maxRecDepth 100000 in
set_option maxHeartbeats 4000000 in
theorem kX7_trySigns (l : Launch) {A0 : AH} {o0 : Option Nat} {a1 : Option Nat} {r : AH} (h : fX7_trySigns A0 o0 a1 = some r) : (∃ a, o0 = some a ∧ Hk A0 a = 8) ∧ Cn l yX7_trySigns cX7_trySigns 3 none 4 90 0 0 [vR o0, vR a1] A0 none r := by
  unfold fX7_trySigns at h
  replace h := bnd_e h
  obtain ⟨o1, e1, h⟩ := h
  obtain ⟨rfl, hk0⟩ := rcv_e e1
  refine ⟨⟨o1, rfl, hk0⟩, ?_⟩
  refine Cn.of (pad := 1) (lv0 := [some (vR (some o1)), some (vR a1), none]) (by decide +kernel) (Nat.le_of_ble_eq_true rfl) rfl ?_
  intro p e s m below meth c base D cy E
  generalize (List.map toV [vR (some o1), vR a1]).toArray = ar at E ⊢
  have E : EN p s m ar meth c D cy RX7 cX7_trySigns 3 none "trySigns" := E
  refine v_aload_n E dX7_trySigns_0 rfl ?_
  replace h := bnd_e h
  obtain ⟨v1, ev1, h⟩ := h
  refine g7_23 E ev1 dX7_trySigns_1 ?_
  refine v_if_eq (tgt := 8) E dX7_trySigns_4 (by decide) (fun c21 => ?_) (fun c21 => ?_)
  · rw [if_pos c21] at h
    refine v_iconst (v := 0) E dX7_trySigns_8 (by decide) ?_
    refine v_istore_n (lv' := [some (vR (some o1)), some (vR a1), some (vI 0)]) E dX7_trySigns_9 (by decide) rfl ?_
    replace h := bnd_e h
    obtain ⟨t3, et3, h⟩ := h
    refine iter_V (S := Int32 × AH) (T := AH) (Ph := fun s2 => V p l e { frames := 4, cells := 0, slots := 0, locals := 90 } s m ar below meth c (MQ below (Qd base D cy none r) ar s 0 0 (fun q => base ≤ q)) base D cy 3 10 [some (vR (some o1)), some (vR a1), some (vI s2.1)] [] s2.2 0 0) (Pt := fun t3 => V p l e { frames := 4, cells := 0, slots := 0, locals := 90 } s m ar below meth c (MQ below (Qd base D cy none r) ar s 0 0 (fun q => base ≤ q)) base D cy 3 63 [some (vR (some o1)), none, none] [] t3 0 0) et3 (fun s2 w4 h hx => ?_) ?_
    · try dsimp only at h
      refine v_iload_n E dX7_trySigns_10 rfl ?_
      refine v_iconst (v := 1) E dX7_trySigns_11 (by decide) ?_
      refine v_aload_n E dX7_trySigns_12 rfl ?_
      replace h := bnd_e h
      obtain ⟨v5, ev5, h⟩ := h
      refine g7_45 E ev5 dX7_trySigns_13 ?_
      refine v_ishl E dX7_trySigns_16 ?_
      refine v_icmp_ge (tgt := 63) E dX7_trySigns_17 (by decide) (fun c18 => ?_) (fun c18 => ?_)
      · rw [if_pos c18] at h
        refine v_drop (lv' := [some (vR (some o1)), none, none]) [1, 2] rfl ?_
        replace h := Option.some.inj h
        subst h
        exact hx
      · rw [if_neg c18] at h
        refine v_aload_n E dX7_trySigns_20 rfl ?_
        refine v_iload_n E dX7_trySigns_21 rfl ?_
        refine v_aload_n E dX7_trySigns_22 rfl ?_
        replace h := bnd_e h
        obtain ⟨r6, er6, h⟩ := h
        refine v_callS (na := 3) (As := [vR (some o1), vI s2.1, vR a1]) (rest := []) E gw7_154 (by decide +kernel) (kX3_countIn l er6) rfl rfl dX7_trySigns_23 ⟨Nat.le_of_ble_eq_true rfl, Nat.le_of_ble_eq_true rfl⟩ ⟨(Nat.le_of_ble_eq_true rfl), (Nat.le_of_ble_eq_true rfl)⟩ (Nat.le_of_ble_eq_true rfl) ?_
        refine v_aload_n E dX7_trySigns_26 rfl ?_
        replace h := bnd_e h
        obtain ⟨v7, ev7, h⟩ := h
        refine g7_45 E ev7 dX7_trySigns_27 ?_
        refine v_iconst (v := 2) E dX7_trySigns_30 (by decide) ?_
        refine v_iadd E dX7_trySigns_31 ?_
        refine jp_use h (fun K8 eK8 h => ?_)
        have hK8 : ∀ x17 : AH, K8 x17 = some w4 → V p l e { frames := 4, cells := 0, slots := 0, locals := 90 } s m ar below meth c (MQ below (Qd base D cy none r) ar s 0 0 (fun q => base ≤ q)) base D cy 3 57 [some (vR (some o1)), some (vR a1), some (vI s2.1)] [] x17 0 0 := by
          intro x17 h
          rw [eK8] at h
          try dsimp only at h
          refine v_iinc (v := (s2.1 + 1)) (lv' := [some (vR (some o1)), some (vR a1), some (vI (s2.1 + 1))]) E dX7_trySigns_57 rfl (by rfl) (by decide) rfl ?_
          refine v_goto (tgt := 10) E dX7_trySigns_60 (by decide) ?_
          replace h := Option.some.inj h
          subst h
          exact hx
        refine v_icmp_ne (tgt := 57) E dX7_trySigns_32 (by decide) (fun c16 => ?_) (fun c16 => ?_)
        · rw [if_neg c16] at h
          exact hK8 r6.2 h
        · rw [if_pos c16] at h
          refine v_aload_n E dX7_trySigns_35 rfl ?_
          replace h := bnd_e h
          obtain ⟨v9, ev9, h⟩ := h
          refine g7_29 E ev9 dX7_trySigns_36 ?_
          refine jp_use h (fun K10 eK10 h => ?_)
          have hK10 : ∀ x13 : AH, K10 x13 = some w4 → V p l e { frames := 4, cells := 0, slots := 0, locals := 90 } s m ar below meth c (MQ below (Qd base D cy none r) ar s 0 0 (fun q => base ≤ q)) base D cy 3 47 [some (vR (some o1)), some (vR a1), some (vI s2.1)] [] x13 0 0 := by
            intro x13 h
            rw [eK10] at h
            try dsimp only at h
            refine v_aload_n E dX7_trySigns_47 rfl ?_
            refine v_dup E dX7_trySigns_48 rfl ?_
            replace h := bnd_e h
            obtain ⟨v14, ev14, h⟩ := h
            refine g7_29 E ev14 dX7_trySigns_49 ?_
            refine v_iconst (v := 1) E dX7_trySigns_52 (by decide) ?_
            refine v_iadd E dX7_trySigns_53 ?_
            replace h := bnd_e h
            obtain ⟨A15, eA15, h⟩ := h
            refine p7_29 E eA15 dX7_trySigns_54 ?_
            exact hK8 A15 h
          refine v_if_ne (tgt := 47) E dX7_trySigns_39 (by decide) (fun c12 => ?_) (fun c12 => ?_)
          · rw [if_neg c12] at h
            exact hK10 r6.2 h
          · rw [if_pos c12] at h
            refine v_aload_n E dX7_trySigns_42 rfl ?_
            refine v_iload_n E dX7_trySigns_43 rfl ?_
            replace h := bnd_e h
            obtain ⟨A11, eA11, h⟩ := h
            refine p7_26 E eA11 dX7_trySigns_44 ?_
            exact hK10 A11 h
    · refine v_aload_n E dX7_trySigns_63 rfl ?_
      refine v_iconst (v := 1) E dX7_trySigns_64 (by decide) ?_
      replace h := bnd_e h
      obtain ⟨A19, eA19, h⟩ := h
      refine p7_23 E eA19 dX7_trySigns_65 ?_
      replace h := Option.some.inj h
      subst h
      refine v_widen (k' := 0) (n' := 0) (Nat.le_of_ble_eq_true rfl) (Nat.le_of_ble_eq_true rfl) ?_
      exact v_vret E dX7_trySigns_68
  · rw [if_neg c21] at h
    replace h := Option.some.inj h
    subst h
    refine v_widen (k' := 0) (n' := 0) (Nat.le_of_ble_eq_true rfl) (Nat.le_of_ble_eq_true rfl) ?_
    exact v_vret E dX7_trySigns_7
noncomputable def fX7_drawnSigns (A0 : AH) (o0 : Option Nat) (a1 : Option Nat) : Option (Int32 × AH) :=
  (rcv A0 8 o0).bind fun o0 =>
  (fX7_trySigns A0 ((some o0)) a1).bind fun r1 =>
  (gI r1 8 234 ((some o0))).bind fun v2 =>
  some ((v2, r1))
set_option maxRecDepth 100000 in
set_option maxHeartbeats 4000000 in
theorem kX7_drawnSigns (l : Launch) {A0 : AH} {o0 : Option Nat} {a1 : Option Nat} {r : Int32 × AH} (h : fX7_drawnSigns A0 o0 a1 = some r) : (∃ a, o0 = some a ∧ Hk A0 a = 8) ∧ Cn l yX7_drawnSigns cX7_drawnSigns 2 (some .int) 5 112 0 0 [vR o0, vR a1] A0 (some (vI r.1)) r.2 := by
  unfold fX7_drawnSigns at h
  replace h := bnd_e h
  obtain ⟨o1, e1, h⟩ := h
  obtain ⟨rfl, hk0⟩ := rcv_e e1
  refine ⟨⟨o1, rfl, hk0⟩, ?_⟩
  refine Cn.of (pad := 0) (lv0 := [some (vR (some o1)), some (vR a1)]) (by decide +kernel) (Nat.le_of_ble_eq_true rfl) rfl ?_
  intro p e s m below meth c base D cy E
  generalize (List.map toV [vR (some o1), vR a1]).toArray = ar at E ⊢
  have E : EN p s m ar meth c D cy RX7 cX7_drawnSigns 2 (some .int) "drawnSigns" := E
  refine v_aload_n E dX7_drawnSigns_0 rfl ?_
  refine v_aload_n E dX7_drawnSigns_1 rfl ?_
  replace h := bnd_e h
  obtain ⟨r1, er1, h⟩ := h
  refine v_callV (na := 1) (As := [vR a1]) (rest := []) (ci := 7) (q := (RX7, TX7, 14)) E gw7_150 (by decide +kernel) rfl rfl (by decide) (kX7_trySigns l er1).2 (kX7_trySigns l er1).1 rfl rfl dX7_drawnSigns_2 ⟨Nat.le_of_ble_eq_true rfl, Nat.le_of_ble_eq_true rfl⟩ ⟨(Nat.le_of_ble_eq_true rfl), (Nat.le_of_ble_eq_true rfl)⟩ (Nat.le_of_ble_eq_true rfl) ?_
  refine v_aload_n E dX7_drawnSigns_5 rfl ?_
  replace h := bnd_e h
  obtain ⟨v2, ev2, h⟩ := h
  refine g7_26 E ev2 dX7_drawnSigns_6 ?_
  replace h := Option.some.inj h
  subst h
  refine v_widen (k' := 0) (n' := 0) (Nat.le_of_ble_eq_true rfl) (Nat.le_of_ble_eq_true rfl) ?_
  exact v_iret E dX7_drawnSigns_9
noncomputable def fX7_drawings (A0 : AH) (o0 : Option Nat) (a1 : Option Nat) : Option (Int32 × AH) :=
  (rcv A0 8 o0).bind fun o0 =>
  (fX7_trySigns A0 ((some o0)) a1).bind fun r1 =>
  (gI r1 8 235 ((some o0))).bind fun v2 =>
  some ((v2, r1))
set_option maxRecDepth 100000 in
set_option maxHeartbeats 4000000 in
theorem kX7_drawings (l : Launch) {A0 : AH} {o0 : Option Nat} {a1 : Option Nat} {r : Int32 × AH} (h : fX7_drawings A0 o0 a1 = some r) : (∃ a, o0 = some a ∧ Hk A0 a = 8) ∧ Cn l yX7_drawings cX7_drawings 2 (some .int) 5 112 0 0 [vR o0, vR a1] A0 (some (vI r.1)) r.2 := by
  unfold fX7_drawings at h
  replace h := bnd_e h
  obtain ⟨o1, e1, h⟩ := h
  obtain ⟨rfl, hk0⟩ := rcv_e e1
  refine ⟨⟨o1, rfl, hk0⟩, ?_⟩
  refine Cn.of (pad := 0) (lv0 := [some (vR (some o1)), some (vR a1)]) (by decide +kernel) (Nat.le_of_ble_eq_true rfl) rfl ?_
  intro p e s m below meth c base D cy E
  generalize (List.map toV [vR (some o1), vR a1]).toArray = ar at E ⊢
  have E : EN p s m ar meth c D cy RX7 cX7_drawings 2 (some .int) "drawings" := E
  refine v_aload_n E dX7_drawings_0 rfl ?_
  refine v_aload_n E dX7_drawings_1 rfl ?_
  replace h := bnd_e h
  obtain ⟨r1, er1, h⟩ := h
  refine v_callV (na := 1) (As := [vR a1]) (rest := []) (ci := 7) (q := (RX7, TX7, 14)) E gw7_150 (by decide +kernel) rfl rfl (by decide) (kX7_trySigns l er1).2 (kX7_trySigns l er1).1 rfl rfl dX7_drawings_2 ⟨Nat.le_of_ble_eq_true rfl, Nat.le_of_ble_eq_true rfl⟩ ⟨(Nat.le_of_ble_eq_true rfl), (Nat.le_of_ble_eq_true rfl)⟩ (Nat.le_of_ble_eq_true rfl) ?_
  refine v_aload_n E dX7_drawings_5 rfl ?_
  replace h := bnd_e h
  obtain ⟨v2, ev2, h⟩ := h
  refine g7_29 E ev2 dX7_drawings_6 ?_
  replace h := Option.some.inj h
  subst h
  refine v_widen (k' := 0) (n' := 0) (Nat.le_of_ble_eq_true rfl) (Nat.le_of_ble_eq_true rfl) ?_
  exact v_iret E dX7_drawings_9
noncomputable def fX3_indexOf (A0 : AH) (o0 : Option Nat) (a1 : Int32) : Option (Int32) :=
  (rcv A0 4 o0).bind fun o0 =>
  (fX3_hasFace A0 ((some o0)) a1).bind fun r1 =>
  if r1 = 0 then
    some 0
  else
    (gR A0 4 102 ((some o0))).bind fun v2 =>
    (aI A0 14 v2 a1).bind fun v3 =>
    some v3
set_option maxRecDepth 100000 in
set_option maxHeartbeats 4000000 in
theorem kX3_indexOf (l : Launch) {A0 : AH} {o0 : Option Nat} {a1 : Int32} {r : Int32} (h : fX3_indexOf A0 o0 a1 = some r) : (∃ a, o0 = some a ∧ Hk A0 a = 4) ∧ Cn l yX3_indexOf cX3_indexOf 2 (some .int) 1 21 0 0 [vR o0, vI a1] A0 (some (vI r)) A0 := by
  unfold fX3_indexOf at h
  replace h := bnd_e h
  obtain ⟨o1, e1, h⟩ := h
  obtain ⟨rfl, hk0⟩ := rcv_e e1
  refine ⟨⟨o1, rfl, hk0⟩, ?_⟩
  refine Cn.of (pad := 0) (lv0 := [some (vR (some o1)), some (vI a1)]) (by decide +kernel) (Nat.le_of_ble_eq_true rfl) rfl ?_
  intro p e s m below meth c base D cy E
  generalize (List.map toV [vR (some o1), vI a1]).toArray = ar at E ⊢
  have E : EN p s m ar meth c D cy RX3 cX3_indexOf 2 (some .int) "indexOf" := E
  refine v_aload_n E dX3_indexOf_0 rfl ?_
  refine v_iload_n E dX3_indexOf_1 rfl ?_
  replace h := bnd_e h
  obtain ⟨r1, er1, h⟩ := h
  refine v_callV (na := 1) (As := [vI a1]) (rest := []) (ci := 3) (q := (RX3, TX3, 8)) E gw3_106 (by decide +kernel) rfl rfl (by decide) (kX3_hasFace l er1).2 (kX3_hasFace l er1).1 rfl rfl dX3_indexOf_2 ⟨Nat.le_of_ble_eq_true rfl, Nat.le_of_ble_eq_true rfl⟩ ⟨(Nat.le_of_ble_eq_true rfl), (Nat.le_of_ble_eq_true rfl)⟩ (Nat.le_of_ble_eq_true rfl) ?_
  refine v_if_eq (tgt := 17) E dX3_indexOf_5 (by decide) (fun c4 => ?_) (fun c4 => ?_)
  · rw [if_pos c4] at h
    refine v_iconst (v := 0) E dX3_indexOf_17 (by decide) ?_
    replace h := Option.some.inj h
    subst h
    refine v_widen (k' := 0) (n' := 0) (Nat.le_of_ble_eq_true rfl) (Nat.le_of_ble_eq_true rfl) ?_
    exact v_iret E dX3_indexOf_18
  · rw [if_neg c4] at h
    refine v_aload_n E dX3_indexOf_8 rfl ?_
    replace h := bnd_e h
    obtain ⟨v2, ev2, h⟩ := h
    refine g3_45 E ev2 dX3_indexOf_9 ?_
    refine v_iload_n E dX3_indexOf_12 rfl ?_
    replace h := bnd_e h
    obtain ⟨v3, ev3, h⟩ := h
    refine v_iaload E ev3 dX3_indexOf_13 ?_
    refine v_goto (tgt := 18) E dX3_indexOf_14 (by decide) ?_
    replace h := Option.some.inj h
    subst h
    refine v_widen (k' := 0) (n' := 0) (Nat.le_of_ble_eq_true rfl) (Nat.le_of_ble_eq_true rfl) ?_
    exact v_iret E dX3_indexOf_18
noncomputable def fX3_isDark (A0 : AH) (o0 : Option Nat) (a1 : Int32) : Option (Int32) :=
  (rcv A0 4 o0).bind fun o0 =>
  (fX3_indexOf A0 ((some o0)) a1).bind fun r1 =>
  (gR A0 4 100 ((some o0))).bind fun v2 =>
  (aI A0 14 v2 0).bind fun v3 =>
  (fX3_indexOf A0 ((some o0)) v3).bind fun r4 =>
  (fX11_isEven A0 ((r1 - r4))).bind fun r5 =>
  (rz r5).bind fun z6 => some z6
set_option maxRecDepth 100000 in
set_option maxHeartbeats 4000000 in
theorem kX3_isDark (l : Launch) {A0 : AH} {o0 : Option Nat} {a1 : Int32} {r : Int32} (h : fX3_isDark A0 o0 a1 = some r) : (∃ a, o0 = some a ∧ Hk A0 a = 4) ∧ Cn l yX3_isDark cX3_isDark 2 (some .boolean) 2 42 0 0 [vR o0, vI a1] A0 (some (vI r)) A0 := by
  unfold fX3_isDark at h
  replace h := bnd_e h
  obtain ⟨o1, e1, h⟩ := h
  obtain ⟨rfl, hk0⟩ := rcv_e e1
  refine ⟨⟨o1, rfl, hk0⟩, ?_⟩
  refine Cn.of (pad := 0) (lv0 := [some (vR (some o1)), some (vI a1)]) (by decide +kernel) (Nat.le_of_ble_eq_true rfl) rfl ?_
  intro p e s m below meth c base D cy E
  generalize (List.map toV [vR (some o1), vI a1]).toArray = ar at E ⊢
  have E : EN p s m ar meth c D cy RX3 cX3_isDark 2 (some .boolean) "isDark" := E
  refine v_aload_n E dX3_isDark_0 rfl ?_
  refine v_iload_n E dX3_isDark_1 rfl ?_
  replace h := bnd_e h
  obtain ⟨r1, er1, h⟩ := h
  refine v_callV (na := 1) (As := [vI a1]) (rest := []) (ci := 3) (q := (RX3, TX3, 8)) E gw3_113 (by decide +kernel) rfl rfl (by decide) (kX3_indexOf l er1).2 (kX3_indexOf l er1).1 rfl rfl dX3_isDark_2 ⟨Nat.le_of_ble_eq_true rfl, Nat.le_of_ble_eq_true rfl⟩ ⟨(Nat.le_of_ble_eq_true rfl), (Nat.le_of_ble_eq_true rfl)⟩ (Nat.le_of_ble_eq_true rfl) ?_
  refine v_aload_n E dX3_isDark_5 rfl ?_
  refine v_aload_n E dX3_isDark_6 rfl ?_
  replace h := bnd_e h
  obtain ⟨v2, ev2, h⟩ := h
  refine g3_39 E ev2 dX3_isDark_7 ?_
  refine v_iconst (v := 0) E dX3_isDark_10 (by decide) ?_
  replace h := bnd_e h
  obtain ⟨v3, ev3, h⟩ := h
  refine v_iaload E ev3 dX3_isDark_11 ?_
  replace h := bnd_e h
  obtain ⟨r4, er4, h⟩ := h
  refine v_callV (na := 1) (As := [vI v3]) (rest := [vI r1]) (ci := 3) (q := (RX3, TX3, 8)) E gw3_113 (by decide +kernel) rfl rfl (by decide) (kX3_indexOf l er4).2 (kX3_indexOf l er4).1 rfl rfl dX3_isDark_12 ⟨Nat.le_of_ble_eq_true rfl, Nat.le_of_ble_eq_true rfl⟩ ⟨(Nat.le_of_ble_eq_true rfl), (Nat.le_of_ble_eq_true rfl)⟩ (Nat.le_of_ble_eq_true rfl) ?_
  refine v_isub E dX3_isDark_15 ?_
  replace h := bnd_e h
  obtain ⟨r5, er5, h⟩ := h
  refine v_callSN (na := 1) (As := [vI (r1 - r4)]) (rest := []) E gw3_116 gn3_116 q541 q86 (by decide +kernel) (kX11_isEven l er5) rfl rfl dX3_isDark_16 ⟨Nat.le_of_ble_eq_true rfl, Nat.le_of_ble_eq_true rfl⟩ ⟨(Nat.le_of_ble_eq_true rfl), (Nat.le_of_ble_eq_true rfl)⟩ (Nat.le_of_ble_eq_true rfl) ?_
  replace h := bnd_e h
  obtain ⟨z6, ez6, h⟩ := h
  obtain ⟨rfl, ez6⟩ := rz_e ez6
  replace h := Option.some.inj h
  subst h
  refine v_widen (k' := 0) (n' := 0) (Nat.le_of_ble_eq_true rfl) (Nat.le_of_ble_eq_true rfl) ?_
  exact v_zret E ez6 dX3_isDark_19
noncomputable def fX3_countOfKind (A0 : AH) (o0 : Option Nat) (a1 : Int32) : Option (Int32) :=
  (rcv A0 4 o0).bind fun o0 =>
  (iter (S := Int32 × Int32) (T := Int32) (fun s1 =>
      (gI A0 4 97 ((some o0))).bind fun v4 =>
      if v4 ≤ s1.2 then
        some (.inr s1.1)
      else
        (fX3_isDark A0 ((some o0)) s1.2).bind fun r5 =>
        jp (fun (x8 : Int32) =>
          some (.inl (x8, (s1.2 + 1)))) fun K6 =>
          if r5 = a1 then
            K6 ((s1.1 + 1))
          else
            K6 s1.1) (0, 0)).bind fun t2 =>
  some t2
set_option maxRecDepth 100000 in
set_option maxHeartbeats 4000000 in
theorem kX3_countOfKind (l : Launch) {A0 : AH} {o0 : Option Nat} {a1 : Int32} {r : Int32} (h : fX3_countOfKind A0 o0 a1 = some r) : (∃ a, o0 = some a ∧ Hk A0 a = 4) ∧ Cn l yX3_countOfKind cX3_countOfKind 4 (some .int) 3 63 0 0 [vR o0, vI a1] A0 (some (vI r)) A0 := by
  unfold fX3_countOfKind at h
  replace h := bnd_e h
  obtain ⟨o1, e1, h⟩ := h
  obtain ⟨rfl, hk0⟩ := rcv_e e1
  refine ⟨⟨o1, rfl, hk0⟩, ?_⟩
  refine Cn.of (pad := 2) (lv0 := [some (vR (some o1)), some (vI a1), none, none]) (by decide +kernel) (Nat.le_of_ble_eq_true rfl) rfl ?_
  intro p e s m below meth c base D cy E
  generalize (List.map toV [vR (some o1), vI a1]).toArray = ar at E ⊢
  have E : EN p s m ar meth c D cy RX3 cX3_countOfKind 4 (some .int) "countOfKind" := E
  refine v_iconst (v := 0) E dX3_countOfKind_0 (by decide) ?_
  refine v_istore_n (lv' := [some (vR (some o1)), some (vI a1), some (vI 0), none]) E dX3_countOfKind_1 (by decide) rfl ?_
  refine v_iconst (v := 0) E dX3_countOfKind_2 (by decide) ?_
  refine v_istore_n (lv' := [some (vR (some o1)), some (vI a1), some (vI 0), some (vI 0)]) E dX3_countOfKind_3 (by decide) rfl ?_
  replace h := bnd_e h
  obtain ⟨t2, et2, h⟩ := h
  refine iter_V (S := Int32 × Int32) (T := Int32) (Ph := fun s1 => V p l e { frames := 3, cells := 0, slots := 0, locals := 63 } s m ar below meth c (MQ below (Qd base D cy (some (vI r)) A0) ar s 0 0 (fun q => base ≤ q)) base D cy 4 4 [some (vR (some o1)), some (vI a1), some (vI s1.1), some (vI s1.2)] [] A0 0 0) (Pt := fun t2 => V p l e { frames := 3, cells := 0, slots := 0, locals := 63 } s m ar below meth c (MQ below (Qd base D cy (some (vI r)) A0) ar s 0 0 (fun q => base ≤ q)) base D cy 4 30 [none, none, some (vI t2), none] [] A0 0 0) et2 (fun s1 w3 h hx => ?_) ?_
  · try dsimp only at h
    refine v_iload_n E dX3_countOfKind_4 rfl ?_
    refine v_aload_n E dX3_countOfKind_5 rfl ?_
    replace h := bnd_e h
    obtain ⟨v4, ev4, h⟩ := h
    refine g3_19 E ev4 dX3_countOfKind_6 ?_
    refine v_icmp_ge (tgt := 30) E dX3_countOfKind_9 (by decide) (fun c9 => ?_) (fun c9 => ?_)
    · rw [if_pos c9] at h
      refine v_drop (lv' := [none, none, some (vI s1.1), none]) [0, 1, 3] rfl ?_
      replace h := Option.some.inj h
      subst h
      exact hx
    · rw [if_neg c9] at h
      refine v_aload_n E dX3_countOfKind_12 rfl ?_
      refine v_iload_n E dX3_countOfKind_13 rfl ?_
      replace h := bnd_e h
      obtain ⟨r5, er5, h⟩ := h
      refine v_callV (na := 1) (As := [vI s1.2]) (rest := []) (ci := 3) (q := (RX3, TX3, 8)) E gw3_135 (by decide +kernel) rfl rfl (by decide) (kX3_isDark l er5).2 (kX3_isDark l er5).1 rfl rfl dX3_countOfKind_14 ⟨Nat.le_of_ble_eq_true rfl, Nat.le_of_ble_eq_true rfl⟩ ⟨(Nat.le_of_ble_eq_true rfl), (Nat.le_of_ble_eq_true rfl)⟩ (Nat.le_of_ble_eq_true rfl) ?_
      refine v_iload_n E dX3_countOfKind_17 rfl ?_
      refine jp_use h (fun K6 eK6 h => ?_)
      have hK6 : ∀ x8 : Int32, K6 x8 = some w3 → V p l e { frames := 3, cells := 0, slots := 0, locals := 63 } s m ar below meth c (MQ below (Qd base D cy (some (vI r)) A0) ar s 0 0 (fun q => base ≤ q)) base D cy 4 24 [some (vR (some o1)), some (vI a1), some (vI x8), some (vI s1.2)] [] A0 0 0 := by
        intro x8 h
        rw [eK6] at h
        try dsimp only at h
        refine v_iinc (v := (s1.2 + 1)) (lv' := [some (vR (some o1)), some (vI a1), some (vI x8), some (vI (s1.2 + 1))]) E dX3_countOfKind_24 rfl (by rfl) (by decide) rfl ?_
        refine v_goto (tgt := 4) E dX3_countOfKind_27 (by decide) ?_
        replace h := Option.some.inj h
        subst h
        exact hx
      refine v_icmp_ne (tgt := 24) E dX3_countOfKind_18 (by decide) (fun c7 => ?_) (fun c7 => ?_)
      · rw [if_neg c7] at h
        exact hK6 s1.1 h
      · rw [if_pos c7] at h
        refine v_iinc (v := (s1.1 + 1)) (lv' := [some (vR (some o1)), some (vI a1), some (vI (s1.1 + 1)), some (vI s1.2)]) E dX3_countOfKind_21 rfl (by rfl) (by decide) rfl ?_
        exact hK6 ((s1.1 + 1)) h
  · refine v_iload_n E dX3_countOfKind_30 rfl ?_
    replace h := Option.some.inj h
    subst h
    refine v_widen (k' := 0) (n' := 0) (Nat.le_of_ble_eq_true rfl) (Nat.le_of_ble_eq_true rfl) ?_
    exact v_iret E dX3_countOfKind_31
noncomputable def fX3_heapsJoinedBy (A0 : AH) (o0 : Option Nat) (a1 : Int32) (a2 : Int32) (a3 : Option Nat) : Option (Int32 × AH) :=
  (rcv A0 4 o0).bind fun o0 =>
  (gI A0 4 97 ((some o0))).bind fun v1 =>
  (fX4_scatter A0 a3 v1).bind fun r2 =>
  (iter (S := Int32 × AH) (T := AH) (fun s3 =>
      (gR s3.2 4 96 ((some o0))).bind fun v6 =>
      (fX7_letterCount s3.2 v6).bind fun r7 =>
      if r7 ≤ s3.1 then
        some (.inr s3.2)
      else
        (fX11_isIn s3.2 a1 s3.1).bind fun r8 =>
        jp (fun (x19 : AH) =>
          some (.inl ((s3.1 + 1), x19))) fun K9 =>
          if r8 = 0 then
            K9 s3.2
          else
            (fX3_faceOf s3.2 ((some o0)) s3.1 0).bind fun r10 =>
            (fX3_isDark s3.2 ((some o0)) r10).bind fun r11 =>
            jp1 (α := Int32) (if r11 = a2 then
                0
              else
                1) fun x14 =>
            (fX3_faceOf s3.2 ((some o0)) s3.1 x14).bind fun r15 =>
              (fX3_faceOf s3.2 ((some o0)) s3.1 ((x14 + 2))).bind fun r16 =>
              (fX4_join s3.2 a3 r15 r16).bind fun r17 =>
              K9 r17) (0, r2)).bind fun t4 =>
  (fX4_count t4 a3).bind fun r21 =>
  some ((r21, t4))
set_option maxRecDepth 100000 in
set_option maxHeartbeats 4000000 in
theorem kX3_heapsJoinedBy (l : Launch) {A0 : AH} {o0 : Option Nat} {a1 : Int32} {a2 : Int32} {a3 : Option Nat} {r : Int32 × AH} (h : fX3_heapsJoinedBy A0 o0 a1 a2 a3 = some r) : (∃ a, o0 = some a ∧ Hk A0 a = 4) ∧ Cn l yX3_heapsJoinedBy cX3_heapsJoinedBy 6 (some .int) 3 63 0 0 [vR o0, vI a1, vI a2, vR a3] A0 (some (vI r.1)) r.2 := by
  unfold fX3_heapsJoinedBy at h
  replace h := bnd_e h
  obtain ⟨o1, e1, h⟩ := h
  obtain ⟨rfl, hk0⟩ := rcv_e e1
  refine ⟨⟨o1, rfl, hk0⟩, ?_⟩
  refine Cn.of (pad := 2) (lv0 := [some (vR (some o1)), some (vI a1), some (vI a2), some (vR a3), none, none]) (by decide +kernel) (Nat.le_of_ble_eq_true rfl) rfl ?_
  intro p e s m below meth c base D cy E
  generalize (List.map toV [vR (some o1), vI a1, vI a2, vR a3]).toArray = ar at E ⊢
  have E : EN p s m ar meth c D cy RX3 cX3_heapsJoinedBy 6 (some .int) "heapsJoinedBy" := E
  refine v_aload_n E dX3_heapsJoinedBy_0 rfl ?_
  refine v_aload_n E dX3_heapsJoinedBy_1 rfl ?_
  replace h := bnd_e h
  obtain ⟨v1, ev1, h⟩ := h
  refine g3_19 E ev1 dX3_heapsJoinedBy_2 ?_
  replace h := bnd_e h
  obtain ⟨r2, er2, h⟩ := h
  refine v_callV (na := 1) (As := [vI v1]) (rest := []) (ci := 4) (q := (RX4, TX4, 3)) E gw3_63 (by decide +kernel) rfl rfl (by decide) (kX4_scatter l er2).2 (kX4_scatter l er2).1 rfl rfl dX3_heapsJoinedBy_5 ⟨Nat.le_of_ble_eq_true rfl, Nat.le_of_ble_eq_true rfl⟩ ⟨(Nat.le_of_ble_eq_true rfl), (Nat.le_of_ble_eq_true rfl)⟩ (Nat.le_of_ble_eq_true rfl) ?_
  refine v_iconst (v := 0) E dX3_heapsJoinedBy_8 (by decide) ?_
  refine v_istore (lv' := [some (vR (some o1)), some (vI a1), some (vI a2), some (vR a3), some (vI 0), none]) E dX3_heapsJoinedBy_9 (by decide) rfl ?_
  replace h := bnd_e h
  obtain ⟨t4, et4, h⟩ := h
  refine iter_V (S := Int32 × AH) (T := AH) (Ph := fun s3 => V p l e { frames := 3, cells := 0, slots := 0, locals := 63 } s m ar below meth c (MQ below (Qd base D cy (some (vI r.1)) r.2) ar s 0 0 (fun q => base ≤ q)) base D cy 6 11 [some (vR (some o1)), some (vI a1), some (vI a2), some (vR a3), some (vI s3.1), none] [] s3.2 0 0) (Pt := fun t4 => V p l e { frames := 3, cells := 0, slots := 0, locals := 63 } s m ar below meth c (MQ below (Qd base D cy (some (vI r.1)) r.2) ar s 0 0 (fun q => base ≤ q)) base D cy 6 82 [none, none, none, some (vR a3), none, none] [] t4 0 0) et4 (fun s3 w5 h hx => ?_) ?_
  · try dsimp only at h
    refine v_iload E dX3_heapsJoinedBy_11 rfl ?_
    refine v_aload_n E dX3_heapsJoinedBy_13 rfl ?_
    replace h := bnd_e h
    obtain ⟨v6, ev6, h⟩ := h
    refine g3_9 E ev6 dX3_heapsJoinedBy_14 ?_
    replace h := bnd_e h
    obtain ⟨r7, er7, h⟩ := h
    refine v_callV (na := 0) (As := []) (rest := [vI s3.1]) (ci := 7) (q := (RX7, TX7, 14)) E gw3_23 (by decide +kernel) rfl rfl (by decide) (kX7_letterCount l er7).2 (kX7_letterCount l er7).1 rfl rfl dX3_heapsJoinedBy_17 ⟨Nat.le_of_ble_eq_true rfl, Nat.le_of_ble_eq_true rfl⟩ ⟨(Nat.le_of_ble_eq_true rfl), (Nat.le_of_ble_eq_true rfl)⟩ (Nat.le_of_ble_eq_true rfl) ?_
    refine v_icmp_ge (tgt := 82) E dX3_heapsJoinedBy_20 (by decide) (fun c20 => ?_) (fun c20 => ?_)
    · rw [if_pos c20] at h
      refine v_drop (lv' := [none, none, none, some (vR a3), none, none]) [0, 1, 2, 4] rfl ?_
      replace h := Option.some.inj h
      subst h
      exact hx
    · rw [if_neg c20] at h
      refine v_iload_n E dX3_heapsJoinedBy_23 rfl ?_
      refine v_iload E dX3_heapsJoinedBy_24 rfl ?_
      replace h := bnd_e h
      obtain ⟨r8, er8, h⟩ := h
      refine v_callSN (na := 2) (As := [vI a1, vI s3.1]) (rest := []) E gw3_96 gn3_96 q489 q86 (by decide +kernel) (kX11_isIn l er8) rfl rfl dX3_heapsJoinedBy_26 ⟨Nat.le_of_ble_eq_true rfl, Nat.le_of_ble_eq_true rfl⟩ ⟨(Nat.le_of_ble_eq_true rfl), (Nat.le_of_ble_eq_true rfl)⟩ (Nat.le_of_ble_eq_true rfl) ?_
      refine jp_use h (fun K9 eK9 h => ?_)
      have hK9 : ∀ x19 : AH, K9 x19 = some w5 → V p l e { frames := 3, cells := 0, slots := 0, locals := 63 } s m ar below meth c (MQ below (Qd base D cy (some (vI r.1)) r.2) ar s 0 0 (fun q => base ≤ q)) base D cy 6 76 [some (vR (some o1)), some (vI a1), some (vI a2), some (vR a3), some (vI s3.1), none] [] x19 0 0 := by
        intro x19 h
        rw [eK9] at h
        try dsimp only at h
        refine v_iinc (v := (s3.1 + 1)) (lv' := [some (vR (some o1)), some (vI a1), some (vI a2), some (vR a3), some (vI (s3.1 + 1)), none]) E dX3_heapsJoinedBy_76 rfl (by rfl) (by decide) rfl ?_
        refine v_goto (tgt := 11) E dX3_heapsJoinedBy_79 (by decide) ?_
        replace h := Option.some.inj h
        subst h
        exact hx
      refine v_if_eq (tgt := 76) E dX3_heapsJoinedBy_29 (by decide) (fun c18 => ?_) (fun c18 => ?_)
      · rw [if_pos c18] at h
        exact hK9 s3.2 h
      · rw [if_neg c18] at h
        refine v_aload_n E dX3_heapsJoinedBy_32 rfl ?_
        refine v_aload_n E dX3_heapsJoinedBy_33 rfl ?_
        refine v_iload E dX3_heapsJoinedBy_34 rfl ?_
        refine v_iconst (v := 0) E dX3_heapsJoinedBy_36 (by decide) ?_
        replace h := bnd_e h
        obtain ⟨r10, er10, h⟩ := h
        refine v_callV (na := 2) (As := [vI s3.1, vI 0]) (rest := [vR (some o1)]) (ci := 3) (q := (RX3, TX3, 8)) E gw3_103 (by decide +kernel) rfl rfl (by decide) (kX3_faceOf l er10).2 (kX3_faceOf l er10).1 rfl rfl dX3_heapsJoinedBy_37 ⟨Nat.le_of_ble_eq_true rfl, Nat.le_of_ble_eq_true rfl⟩ ⟨(Nat.le_of_ble_eq_true rfl), (Nat.le_of_ble_eq_true rfl)⟩ (Nat.le_of_ble_eq_true rfl) ?_
        replace h := bnd_e h
        obtain ⟨r11, er11, h⟩ := h
        refine v_callV (na := 1) (As := [vI r10]) (rest := []) (ci := 3) (q := (RX3, TX3, 8)) E gw3_135 (by decide +kernel) rfl rfl (by decide) (kX3_isDark l er11).2 (kX3_isDark l er11).1 rfl rfl dX3_heapsJoinedBy_40 ⟨Nat.le_of_ble_eq_true rfl, Nat.le_of_ble_eq_true rfl⟩ ⟨(Nat.le_of_ble_eq_true rfl), (Nat.le_of_ble_eq_true rfl)⟩ (Nat.le_of_ble_eq_true rfl) ?_
        refine v_iload_n E dX3_heapsJoinedBy_43 rfl ?_
        refine jp1_use h (fun K12 eK12 h => ?_)
        have hK12 : ∀ x14 : Int32, K12 x14 = some w5 → V p l e { frames := 3, cells := 0, slots := 0, locals := 63 } s m ar below meth c (MQ below (Qd base D cy (some (vI r.1)) r.2) ar s 0 0 (fun q => base ≤ q)) base D cy 6 52 [some (vR (some o1)), some (vI a1), some (vI a2), some (vR a3), some (vI s3.1), none] [vI x14] s3.2 0 0 := by
          intro x14 h
          rw [eK12] at h
          try dsimp only at h
          refine v_istore (lv' := [some (vR (some o1)), some (vI a1), some (vI a2), some (vR a3), some (vI s3.1), some (vI x14)]) E dX3_heapsJoinedBy_52 (by decide) rfl ?_
          refine v_aload_n E dX3_heapsJoinedBy_54 rfl ?_
          refine v_aload_n E dX3_heapsJoinedBy_55 rfl ?_
          refine v_iload E dX3_heapsJoinedBy_56 rfl ?_
          refine v_iload E dX3_heapsJoinedBy_58 rfl ?_
          replace h := bnd_e h
          obtain ⟨r15, er15, h⟩ := h
          refine v_callV (na := 2) (As := [vI s3.1, vI x14]) (rest := [vR a3]) (ci := 3) (q := (RX3, TX3, 8)) E gw3_103 (by decide +kernel) rfl rfl (by decide) (kX3_faceOf l er15).2 (kX3_faceOf l er15).1 rfl rfl dX3_heapsJoinedBy_60 ⟨Nat.le_of_ble_eq_true rfl, Nat.le_of_ble_eq_true rfl⟩ ⟨(Nat.le_of_ble_eq_true rfl), (Nat.le_of_ble_eq_true rfl)⟩ (Nat.le_of_ble_eq_true rfl) ?_
          refine v_aload_n E dX3_heapsJoinedBy_63 rfl ?_
          refine v_iload E dX3_heapsJoinedBy_64 rfl ?_
          refine v_iload E dX3_heapsJoinedBy_66 rfl ?_
          refine v_iconst (v := 2) E dX3_heapsJoinedBy_68 (by decide) ?_
          refine v_iadd E dX3_heapsJoinedBy_69 ?_
          replace h := bnd_e h
          obtain ⟨r16, er16, h⟩ := h
          refine v_callV (na := 2) (As := [vI s3.1, vI (x14 + 2)]) (rest := [vI r15, vR a3]) (ci := 3) (q := (RX3, TX3, 8)) E gw3_103 (by decide +kernel) rfl rfl (by decide) (kX3_faceOf l er16).2 (kX3_faceOf l er16).1 rfl rfl dX3_heapsJoinedBy_70 ⟨Nat.le_of_ble_eq_true rfl, Nat.le_of_ble_eq_true rfl⟩ ⟨(Nat.le_of_ble_eq_true rfl), (Nat.le_of_ble_eq_true rfl)⟩ (Nat.le_of_ble_eq_true rfl) ?_
          replace h := bnd_e h
          obtain ⟨r17, er17, h⟩ := h
          refine v_callV (na := 2) (As := [vI r15, vI r16]) (rest := []) (ci := 4) (q := (RX4, TX4, 3)) E gw3_86 (by decide +kernel) rfl rfl (by decide) (kX4_join l er17).2 (kX4_join l er17).1 rfl rfl dX3_heapsJoinedBy_73 ⟨Nat.le_of_ble_eq_true rfl, Nat.le_of_ble_eq_true rfl⟩ ⟨(Nat.le_of_ble_eq_true rfl), (Nat.le_of_ble_eq_true rfl)⟩ (Nat.le_of_ble_eq_true rfl) ?_
          refine v_drop (lv' := [some (vR (some o1)), some (vI a1), some (vI a2), some (vR a3), some (vI s3.1), none]) [5] rfl ?_
          exact hK9 r17 h
        refine v_icmp_ne (tgt := 51) E dX3_heapsJoinedBy_44 (by decide) (fun c13 => ?_) (fun c13 => ?_)
        · rw [if_neg c13] at h
          refine v_iconst (v := 1) E dX3_heapsJoinedBy_51 (by decide) ?_
          exact hK12 1 h
        · rw [if_pos c13] at h
          refine v_iconst (v := 0) E dX3_heapsJoinedBy_47 (by decide) ?_
          refine v_goto (tgt := 52) E dX3_heapsJoinedBy_48 (by decide) ?_
          exact hK12 0 h
  · refine v_aload_n E dX3_heapsJoinedBy_82 rfl ?_
    replace h := bnd_e h
    obtain ⟨r21, er21, h⟩ := h
    refine v_callV (na := 0) (As := []) (rest := []) (ci := 4) (q := (RX4, TX4, 3)) E gw3_90 (by decide +kernel) rfl rfl (by decide) (kX4_count l er21).2 (kX4_count l er21).1 rfl rfl dX3_heapsJoinedBy_83 ⟨Nat.le_of_ble_eq_true rfl, Nat.le_of_ble_eq_true rfl⟩ ⟨(Nat.le_of_ble_eq_true rfl), (Nat.le_of_ble_eq_true rfl)⟩ (Nat.le_of_ble_eq_true rfl) ?_
    replace h := Option.some.inj h
    subst h
    refine v_widen (k' := 0) (n' := 0) (Nat.le_of_ble_eq_true rfl) (Nat.le_of_ble_eq_true rfl) ?_
    exact v_iret E dX3_heapsJoinedBy_86
noncomputable def fX3_trees (A0 : AH) (o0 : Option Nat) (a1 : Int32) (a2 : Option Nat) : Option (Int32 × AH) :=
  (rcv A0 4 o0).bind fun o0 =>
  (gI A0 4 103 ((some o0))).bind fun v1 =>
  if v1 = 0 then
    some (((-1), A0))
  else
    (fX3_countOfKind A0 ((some o0)) a1).bind fun r2 =>
    (iter (S := Int32 × Int32 × AH) (T := Int32 × AH) (fun s3 =>
        (gR s3.2.2 4 96 ((some o0))).bind fun v6 =>
        (fX7_letterCount s3.2.2 v6).bind fun r7 =>
        if ((1 : Int32) <<< ((r7 : Int32) &&& 31)) ≤ s3.2.1 then
          some (.inr (s3.1, s3.2.2))
        else
          (fJ6_bitCount_0f7a4 s3.2.2 s3.2.1).bind fun r8 =>
          jp (fun (x14 : Int32 × AH) =>
            some (.inl (x14.1, (s3.2.1 + 1), x14.2))) fun K9 =>
            if r8 = (r2 - 1) then
              (fX3_heapsJoinedBy s3.2.2 ((some o0)) s3.2.1 a1 a2).bind fun r10 =>
              (gI r10.2 4 97 ((some o0))).bind fun v11 =>
              if r10.1 = (v11 - (r2 - 1)) then
                K9 ((s3.1 + 1), r10.2)
              else
                K9 (s3.1, r10.2)
            else
              K9 (s3.1, s3.2.2)) (0, 0, A0)).bind fun t4 =>
    some ((t4.1, t4.2))
set_option maxRecDepth 100000 in
set_option maxHeartbeats 4000000 in
theorem kX3_trees (l : Launch) {A0 : AH} {o0 : Option Nat} {a1 : Int32} {a2 : Option Nat} {r : Int32 × AH} (h : fX3_trees A0 o0 a1 a2 = some r) : (∃ a, o0 = some a ∧ Hk A0 a = 4) ∧ Cn l yX3_trees cX3_trees 6 (some .int) 4 88 0 0 [vR o0, vI a1, vR a2] A0 (some (vI r.1)) r.2 := by
  unfold fX3_trees at h
  replace h := bnd_e h
  obtain ⟨o1, e1, h⟩ := h
  obtain ⟨rfl, hk0⟩ := rcv_e e1
  refine ⟨⟨o1, rfl, hk0⟩, ?_⟩
  refine Cn.of (pad := 3) (lv0 := [some (vR (some o1)), some (vI a1), some (vR a2), none, none, none]) (by decide +kernel) (Nat.le_of_ble_eq_true rfl) rfl ?_
  intro p e s m below meth c base D cy E
  generalize (List.map toV [vR (some o1), vI a1, vR a2]).toArray = ar at E ⊢
  have E : EN p s m ar meth c D cy RX3 cX3_trees 6 (some .int) "trees" := E
  refine v_aload_n E dX3_trees_0 rfl ?_
  replace h := bnd_e h
  obtain ⟨v1, ev1, h⟩ := h
  refine g3_48 E ev1 dX3_trees_1 ?_
  refine v_if_ne (tgt := 9) E dX3_trees_4 (by decide) (fun c17 => ?_) (fun c17 => ?_)
  · rw [if_neg c17] at h
    refine v_aload_n E dX3_trees_9 rfl ?_
    refine v_iload_n E dX3_trees_10 rfl ?_
    replace h := bnd_e h
    obtain ⟨r2, er2, h⟩ := h
    refine v_callV (na := 1) (As := [vI a1]) (rest := []) (ci := 3) (q := (RX3, TX3, 8)) E gw3_122 (by decide +kernel) rfl rfl (by decide) (kX3_countOfKind l er2).2 (kX3_countOfKind l er2).1 rfl rfl dX3_trees_11 ⟨Nat.le_of_ble_eq_true rfl, Nat.le_of_ble_eq_true rfl⟩ ⟨(Nat.le_of_ble_eq_true rfl), (Nat.le_of_ble_eq_true rfl)⟩ (Nat.le_of_ble_eq_true rfl) ?_
    refine v_iconst (v := 1) E dX3_trees_14 (by decide) ?_
    refine v_isub E dX3_trees_15 ?_
    refine v_istore_n (lv' := [some (vR (some o1)), some (vI a1), some (vR a2), some (vI (r2 - 1)), none, none]) E dX3_trees_16 (by decide) rfl ?_
    refine v_iconst (v := 0) E dX3_trees_17 (by decide) ?_
    refine v_istore (lv' := [some (vR (some o1)), some (vI a1), some (vR a2), some (vI (r2 - 1)), some (vI 0), none]) E dX3_trees_18 (by decide) rfl ?_
    refine v_iconst (v := 0) E dX3_trees_20 (by decide) ?_
    refine v_istore (lv' := [some (vR (some o1)), some (vI a1), some (vR a2), some (vI (r2 - 1)), some (vI 0), some (vI 0)]) E dX3_trees_21 (by decide) rfl ?_
    replace h := bnd_e h
    obtain ⟨t4, et4, h⟩ := h
    refine iter_V (S := Int32 × Int32 × AH) (T := Int32 × AH) (Ph := fun s3 => V p l e { frames := 4, cells := 0, slots := 0, locals := 88 } s m ar below meth c (MQ below (Qd base D cy (some (vI r.1)) r.2) ar s 0 0 (fun q => base ≤ q)) base D cy 6 23 [some (vR (some o1)), some (vI a1), some (vR a2), some (vI (r2 - 1)), some (vI s3.1), some (vI s3.2.1)] [] s3.2.2 0 0) (Pt := fun t4 => V p l e { frames := 4, cells := 0, slots := 0, locals := 88 } s m ar below meth c (MQ below (Qd base D cy (some (vI r.1)) r.2) ar s 0 0 (fun q => base ≤ q)) base D cy 6 72 [none, none, none, none, some (vI t4.1), none] [] t4.2 0 0) et4 (fun s3 w5 h hx => ?_) ?_
    · try dsimp only at h
      refine v_iload E dX3_trees_23 rfl ?_
      refine v_iconst (v := 1) E dX3_trees_25 (by decide) ?_
      refine v_aload_n E dX3_trees_26 rfl ?_
      replace h := bnd_e h
      obtain ⟨v6, ev6, h⟩ := h
      refine g3_9 E ev6 dX3_trees_27 ?_
      replace h := bnd_e h
      obtain ⟨r7, er7, h⟩ := h
      refine v_callV (na := 0) (As := []) (rest := [vI 1, vI s3.2.1]) (ci := 7) (q := (RX7, TX7, 14)) E gw3_23 (by decide +kernel) rfl rfl (by decide) (kX7_letterCount l er7).2 (kX7_letterCount l er7).1 rfl rfl dX3_trees_30 ⟨Nat.le_of_ble_eq_true rfl, Nat.le_of_ble_eq_true rfl⟩ ⟨(Nat.le_of_ble_eq_true rfl), (Nat.le_of_ble_eq_true rfl)⟩ (Nat.le_of_ble_eq_true rfl) ?_
      refine v_ishl E dX3_trees_33 ?_
      refine v_icmp_ge (tgt := 72) E dX3_trees_34 (by decide) (fun c15 => ?_) (fun c15 => ?_)
      · rw [if_pos c15] at h
        refine v_drop (lv' := [none, none, none, none, some (vI s3.1), none]) [0, 1, 2, 3, 5] rfl ?_
        replace h := Option.some.inj h
        subst h
        exact hx
      · rw [if_neg c15] at h
        refine v_iload E dX3_trees_37 rfl ?_
        replace h := bnd_e h
        obtain ⟨r8, er8, h⟩ := h
        refine v_callS (na := 1) (As := [vI s3.2.1]) (rest := []) E gw3_126 (by decide +kernel) (kJ6_bitCount_0f7a4 l er8) rfl rfl dX3_trees_39 ⟨Nat.le_of_ble_eq_true rfl, Nat.le_of_ble_eq_true rfl⟩ ⟨(Nat.le_of_ble_eq_true rfl), (Nat.le_of_ble_eq_true rfl)⟩ (Nat.le_of_ble_eq_true rfl) ?_
        refine v_iload_n E dX3_trees_42 rfl ?_
        refine jp_use h (fun K9 eK9 h => ?_)
        have hK9 : ∀ x14 : Int32 × AH, K9 x14 = some w5 → V p l e { frames := 4, cells := 0, slots := 0, locals := 88 } s m ar below meth c (MQ below (Qd base D cy (some (vI r.1)) r.2) ar s 0 0 (fun q => base ≤ q)) base D cy 6 66 [some (vR (some o1)), some (vI a1), some (vR a2), some (vI (r2 - 1)), some (vI x14.1), some (vI s3.2.1)] [] x14.2 0 0 := by
          intro x14 h
          rw [eK9] at h
          try dsimp only at h
          refine v_iinc (v := (s3.2.1 + 1)) (lv' := [some (vR (some o1)), some (vI a1), some (vR a2), some (vI (r2 - 1)), some (vI x14.1), some (vI (s3.2.1 + 1))]) E dX3_trees_66 rfl (by rfl) (by decide) rfl ?_
          refine v_goto (tgt := 23) E dX3_trees_69 (by decide) ?_
          replace h := Option.some.inj h
          subst h
          exact hx
        refine v_icmp_ne (tgt := 66) E dX3_trees_43 (by decide) (fun c13 => ?_) (fun c13 => ?_)
        · rw [if_neg c13] at h
          exact hK9 (s3.1, s3.2.2) h
        · rw [if_pos c13] at h
          refine v_aload_n E dX3_trees_46 rfl ?_
          refine v_iload E dX3_trees_47 rfl ?_
          refine v_iload_n E dX3_trees_49 rfl ?_
          refine v_aload_n E dX3_trees_50 rfl ?_
          replace h := bnd_e h
          obtain ⟨r10, er10, h⟩ := h
          refine v_callV (na := 3) (As := [vI s3.2.1, vI a1, vR a2]) (rest := []) (ci := 3) (q := (RX3, TX3, 8)) E gw3_131 (by decide +kernel) rfl rfl (by decide) (kX3_heapsJoinedBy l er10).2 (kX3_heapsJoinedBy l er10).1 rfl rfl dX3_trees_51 ⟨Nat.le_of_ble_eq_true rfl, Nat.le_of_ble_eq_true rfl⟩ ⟨(Nat.le_of_ble_eq_true rfl), (Nat.le_of_ble_eq_true rfl)⟩ (Nat.le_of_ble_eq_true rfl) ?_
          refine v_aload_n E dX3_trees_54 rfl ?_
          replace h := bnd_e h
          obtain ⟨v11, ev11, h⟩ := h
          refine g3_19 E ev11 dX3_trees_55 ?_
          refine v_iload_n E dX3_trees_58 rfl ?_
          refine v_isub E dX3_trees_59 ?_
          refine v_icmp_ne (tgt := 66) E dX3_trees_60 (by decide) (fun c12 => ?_) (fun c12 => ?_)
          · rw [if_neg c12] at h
            exact hK9 (s3.1, r10.2) h
          · rw [if_pos c12] at h
            refine v_iinc (v := (s3.1 + 1)) (lv' := [some (vR (some o1)), some (vI a1), some (vR a2), some (vI (r2 - 1)), some (vI (s3.1 + 1)), some (vI s3.2.1)]) E dX3_trees_63 rfl (by rfl) (by decide) rfl ?_
            exact hK9 ((s3.1 + 1), r10.2) h
    · refine v_iload E dX3_trees_72 rfl ?_
      replace h := Option.some.inj h
      subst h
      refine v_widen (k' := 0) (n' := 0) (Nat.le_of_ble_eq_true rfl) (Nat.le_of_ble_eq_true rfl) ?_
      exact v_iret E dX3_trees_74
  · rw [if_pos c17] at h
    refine v_iconst (v := (-1)) E dX3_trees_7 (by decide) ?_
    replace h := Option.some.inj h
    subst h
    refine v_widen (k' := 0) (n' := 0) (Nat.le_of_ble_eq_true rfl) (Nat.le_of_ble_eq_true rfl) ?_
    exact v_iret E dX3_trees_8
noncomputable def fX7_kin (A0 : AH) (o0 : Option Nat) : Option (Int32 × AH) :=
  (rcv A0 8 o0).bind fun o0 =>
  (fX7_tryTurns A0 ((some o0))).bind fun r1 =>
  (gI r1 8 232 ((some o0))).bind fun v2 =>
  some ((v2, r1))
set_option maxRecDepth 100000 in
set_option maxHeartbeats 4000000 in
theorem kX7_kin (l : Launch) {A0 : AH} {o0 : Option Nat} {r : Int32 × AH} (h : fX7_kin A0 o0 = some r) : (∃ a, o0 = some a ∧ Hk A0 a = 8) ∧ Cn l yX7_kin cX7_kin 1 (some .int) 3 77 1 8 [vR o0] A0 (some (vI r.1)) r.2 := by
  unfold fX7_kin at h
  replace h := bnd_e h
  obtain ⟨o1, e1, h⟩ := h
  obtain ⟨rfl, hk0⟩ := rcv_e e1
  refine ⟨⟨o1, rfl, hk0⟩, ?_⟩
  refine Cn.of (pad := 0) (lv0 := [some (vR (some o1))]) (by decide +kernel) (Nat.le_of_ble_eq_true rfl) rfl ?_
  intro p e s m below meth c base D cy E
  generalize (List.map toV [vR (some o1)]).toArray = ar at E ⊢
  have E : EN p s m ar meth c D cy RX7 cX7_kin 1 (some .int) "kin" := E
  refine v_aload_n E dX7_kin_0 rfl ?_
  replace h := bnd_e h
  obtain ⟨r1, er1, h⟩ := h
  refine v_callV (na := 0) (As := []) (rest := []) (ci := 7) (q := (RX7, TX7, 14)) E gw7_134 (by decide +kernel) rfl rfl (by decide) (kX7_tryTurns l er1).2 (kX7_tryTurns l er1).1 rfl rfl dX7_kin_1 ⟨Nat.le_of_ble_eq_true rfl, Nat.le_of_ble_eq_true rfl⟩ ⟨(Nat.le_of_ble_eq_true rfl), (Nat.le_of_ble_eq_true rfl)⟩ (Nat.le_of_ble_eq_true rfl) ?_
  refine v_widen (k' := 1) (n' := 8) (Nat.le_of_ble_eq_true rfl) (Nat.le_of_ble_eq_true rfl) ?_
  refine v_aload_n E dX7_kin_4 rfl ?_
  replace h := bnd_e h
  obtain ⟨v2, ev2, h⟩ := h
  refine g7_19 E ev2 dX7_kin_5 ?_
  replace h := Option.some.inj h
  subst h
  refine v_widen (k' := 1) (n' := 8) (Nat.le_of_ble_eq_true rfl) (Nat.le_of_ble_eq_true rfl) ?_
  exact v_iret E dX7_kin_8
noncomputable def fX7_placeOf (A0 : AH) (o0 : Option Nat) (a1 : Int32) (a2 : Int32) : Option (Int32) :=
  (rcv A0 8 o0).bind fun o0 =>
  (fX7_hasLetter A0 ((some o0)) a1).bind fun r1 =>
  if r1 = 0 then
    some ((-1))
  else
    if a2 = 0 then
      (gR A0 8 227 ((some o0))).bind fun v4 =>
      (aI A0 14 v4 a1).bind fun v5 =>
      some v5
    else
      (gR A0 8 228 ((some o0))).bind fun v2 =>
      (aI A0 14 v2 a1).bind fun v3 =>
      some v3
set_option maxRecDepth 100000 in
set_option maxHeartbeats 4000000 in
theorem kX7_placeOf (l : Launch) {A0 : AH} {o0 : Option Nat} {a1 : Int32} {a2 : Int32} {r : Int32} (h : fX7_placeOf A0 o0 a1 a2 = some r) : (∃ a, o0 = some a ∧ Hk A0 a = 8) ∧ Cn l yX7_placeOf cX7_placeOf 3 (some .int) 1 21 0 0 [vR o0, vI a1, vI a2] A0 (some (vI r)) A0 := by
  unfold fX7_placeOf at h
  replace h := bnd_e h
  obtain ⟨o1, e1, h⟩ := h
  obtain ⟨rfl, hk0⟩ := rcv_e e1
  refine ⟨⟨o1, rfl, hk0⟩, ?_⟩
  refine Cn.of (pad := 0) (lv0 := [some (vR (some o1)), some (vI a1), some (vI a2)]) (by decide +kernel) (Nat.le_of_ble_eq_true rfl) rfl ?_
  intro p e s m below meth c base D cy E
  generalize (List.map toV [vR (some o1), vI a1, vI a2]).toArray = ar at E ⊢
  have E : EN p s m ar meth c D cy RX7 cX7_placeOf 3 (some .int) "placeOf" := E
  refine v_aload_n E dX7_placeOf_0 rfl ?_
  refine v_iload_n E dX7_placeOf_1 rfl ?_
  replace h := bnd_e h
  obtain ⟨r1, er1, h⟩ := h
  refine v_callV (na := 1) (As := [vI a1]) (rest := []) (ci := 7) (q := (RX7, TX7, 14)) E gw7_71 (by decide +kernel) rfl rfl (by decide) (kX7_hasLetter l er1).2 (kX7_hasLetter l er1).1 rfl rfl dX7_placeOf_2 ⟨Nat.le_of_ble_eq_true rfl, Nat.le_of_ble_eq_true rfl⟩ ⟨(Nat.le_of_ble_eq_true rfl), (Nat.le_of_ble_eq_true rfl)⟩ (Nat.le_of_ble_eq_true rfl) ?_
  refine v_if_ne (tgt := 10) E dX7_placeOf_5 (by decide) (fun c7 => ?_) (fun c7 => ?_)
  · rw [if_neg c7] at h
    refine v_iload_n E dX7_placeOf_10 rfl ?_
    refine v_if_ne (tgt := 23) E dX7_placeOf_11 (by decide) (fun c6 => ?_) (fun c6 => ?_)
    · rw [if_neg c6] at h
      refine v_aload_n E dX7_placeOf_23 rfl ?_
      replace h := bnd_e h
      obtain ⟨v2, ev2, h⟩ := h
      refine g7_57 E ev2 dX7_placeOf_24 ?_
      refine v_iload_n E dX7_placeOf_27 rfl ?_
      replace h := bnd_e h
      obtain ⟨v3, ev3, h⟩ := h
      refine v_iaload E ev3 dX7_placeOf_28 ?_
      replace h := Option.some.inj h
      subst h
      refine v_widen (k' := 0) (n' := 0) (Nat.le_of_ble_eq_true rfl) (Nat.le_of_ble_eq_true rfl) ?_
      exact v_iret E dX7_placeOf_29
    · rw [if_pos c6] at h
      refine v_aload_n E dX7_placeOf_14 rfl ?_
      replace h := bnd_e h
      obtain ⟨v4, ev4, h⟩ := h
      refine g7_54 E ev4 dX7_placeOf_15 ?_
      refine v_iload_n E dX7_placeOf_18 rfl ?_
      replace h := bnd_e h
      obtain ⟨v5, ev5, h⟩ := h
      refine v_iaload E ev5 dX7_placeOf_19 ?_
      refine v_goto (tgt := 29) E dX7_placeOf_20 (by decide) ?_
      replace h := Option.some.inj h
      subst h
      refine v_widen (k' := 0) (n' := 0) (Nat.le_of_ble_eq_true rfl) (Nat.le_of_ble_eq_true rfl) ?_
      exact v_iret E dX7_placeOf_29
  · rw [if_pos c7] at h
    refine v_iconst (v := (-1)) E dX7_placeOf_8 (by decide) ?_
    replace h := Option.some.inj h
    subst h
    refine v_widen (k' := 0) (n' := 0) (Nat.le_of_ble_eq_true rfl) (Nat.le_of_ble_eq_true rfl) ?_
    exact v_iret E dX7_placeOf_9
noncomputable def fX7_areBeside (A0 : AH) (o0 : Option Nat) (a1 : Int32) (a2 : Int32) : Option (Int32) :=
  (rcv A0 8 o0).bind fun o0 =>
  (fX7_placeBehind A0 ((some o0)) a1).bind fun r1 =>
  if r1 = a2 then
    some 1
  else
    (fX7_placeBehind A0 ((some o0)) a2).bind fun r2 =>
    if r2 = a1 then
      some 1
    else
      some 0
set_option maxRecDepth 100000 in
set_option maxHeartbeats 4000000 in
theorem kX7_areBeside (l : Launch) {A0 : AH} {o0 : Option Nat} {a1 : Int32} {a2 : Int32} {r : Int32} (h : fX7_areBeside A0 o0 a1 a2 = some r) : (∃ a, o0 = some a ∧ Hk A0 a = 8) ∧ Cn l yX7_areBeside cX7_areBeside 3 (some .boolean) 1 21 0 0 [vR o0, vI a1, vI a2] A0 (some (vI r)) A0 := by
  unfold fX7_areBeside at h
  replace h := bnd_e h
  obtain ⟨o1, e1, h⟩ := h
  obtain ⟨rfl, hk0⟩ := rcv_e e1
  refine ⟨⟨o1, rfl, hk0⟩, ?_⟩
  refine Cn.of (pad := 0) (lv0 := [some (vR (some o1)), some (vI a1), some (vI a2)]) (by decide +kernel) (Nat.le_of_ble_eq_true rfl) rfl ?_
  intro p e s m below meth c base D cy E
  generalize (List.map toV [vR (some o1), vI a1, vI a2]).toArray = ar at E ⊢
  have E : EN p s m ar meth c D cy RX7 cX7_areBeside 3 (some .boolean) "areBeside" := E
  refine v_aload_n E dX7_areBeside_0 rfl ?_
  refine v_iload_n E dX7_areBeside_1 rfl ?_
  replace h := bnd_e h
  obtain ⟨r1, er1, h⟩ := h
  refine v_callV (na := 1) (As := [vI a1]) (rest := []) (ci := 7) (q := (RX7, TX7, 14)) E gw7_87 (by decide +kernel) rfl rfl (by decide) (kX7_placeBehind l er1).2 (kX7_placeBehind l er1).1 rfl rfl dX7_areBeside_2 ⟨Nat.le_of_ble_eq_true rfl, Nat.le_of_ble_eq_true rfl⟩ ⟨(Nat.le_of_ble_eq_true rfl), (Nat.le_of_ble_eq_true rfl)⟩ (Nat.le_of_ble_eq_true rfl) ?_
  refine v_iload_n E dX7_areBeside_5 rfl ?_
  refine v_icmp_eq (tgt := 18) E dX7_areBeside_6 (by decide) (fun c4 => ?_) (fun c4 => ?_)
  · rw [if_pos c4] at h
    refine v_iconst (v := 1) E dX7_areBeside_18 (by decide) ?_
    refine v_goto (tgt := 23) E dX7_areBeside_19 (by decide) ?_
    replace h := Option.some.inj h
    subst h
    refine v_widen (k' := 0) (n' := 0) (Nat.le_of_ble_eq_true rfl) (Nat.le_of_ble_eq_true rfl) ?_
    exact v_zret E (Or.inr rfl) dX7_areBeside_23
  · rw [if_neg c4] at h
    refine v_aload_n E dX7_areBeside_9 rfl ?_
    refine v_iload_n E dX7_areBeside_10 rfl ?_
    replace h := bnd_e h
    obtain ⟨r2, er2, h⟩ := h
    refine v_callV (na := 1) (As := [vI a2]) (rest := []) (ci := 7) (q := (RX7, TX7, 14)) E gw7_87 (by decide +kernel) rfl rfl (by decide) (kX7_placeBehind l er2).2 (kX7_placeBehind l er2).1 rfl rfl dX7_areBeside_11 ⟨Nat.le_of_ble_eq_true rfl, Nat.le_of_ble_eq_true rfl⟩ ⟨(Nat.le_of_ble_eq_true rfl), (Nat.le_of_ble_eq_true rfl)⟩ (Nat.le_of_ble_eq_true rfl) ?_
    refine v_iload_n E dX7_areBeside_14 rfl ?_
    refine v_icmp_ne (tgt := 22) E dX7_areBeside_15 (by decide) (fun c3 => ?_) (fun c3 => ?_)
    · rw [if_neg c3] at h
      refine v_iconst (v := 0) E dX7_areBeside_22 (by decide) ?_
      replace h := Option.some.inj h
      subst h
      refine v_widen (k' := 0) (n' := 0) (Nat.le_of_ble_eq_true rfl) (Nat.le_of_ble_eq_true rfl) ?_
      exact v_zret E (Or.inl rfl) dX7_areBeside_23
    · rw [if_pos c3] at h
      refine v_iconst (v := 1) E dX7_areBeside_18 (by decide) ?_
      refine v_goto (tgt := 23) E dX7_areBeside_19 (by decide) ?_
      replace h := Option.some.inj h
      subst h
      refine v_widen (k' := 0) (n' := 0) (Nat.le_of_ble_eq_true rfl) (Nat.le_of_ble_eq_true rfl) ?_
      exact v_zret E (Or.inr rfl) dX7_areBeside_23
noncomputable def fX7_isLoop (A0 : AH) (o0 : Option Nat) (a1 : Int32) : Option (Int32) :=
  (rcv A0 8 o0).bind fun o0 =>
  (fX7_placeOf A0 ((some o0)) a1 0).bind fun r1 =>
  (fX7_placeOf A0 ((some o0)) a1 1).bind fun r2 =>
  (fX7_areBeside A0 ((some o0)) r1 r2).bind fun r3 =>
  (rz r3).bind fun z4 => some z4
set_option maxRecDepth 100000 in
set_option maxHeartbeats 4000000 in
theorem kX7_isLoop (l : Launch) {A0 : AH} {o0 : Option Nat} {a1 : Int32} {r : Int32} (h : fX7_isLoop A0 o0 a1 = some r) : (∃ a, o0 = some a ∧ Hk A0 a = 8) ∧ Cn l yX7_isLoop cX7_isLoop 2 (some .boolean) 2 43 0 0 [vR o0, vI a1] A0 (some (vI r)) A0 := by
  unfold fX7_isLoop at h
  replace h := bnd_e h
  obtain ⟨o1, e1, h⟩ := h
  obtain ⟨rfl, hk0⟩ := rcv_e e1
  refine ⟨⟨o1, rfl, hk0⟩, ?_⟩
  refine Cn.of (pad := 0) (lv0 := [some (vR (some o1)), some (vI a1)]) (by decide +kernel) (Nat.le_of_ble_eq_true rfl) rfl ?_
  intro p e s m below meth c base D cy E
  generalize (List.map toV [vR (some o1), vI a1]).toArray = ar at E ⊢
  have E : EN p s m ar meth c D cy RX7 cX7_isLoop 2 (some .boolean) "isLoop" := E
  refine v_aload_n E dX7_isLoop_0 rfl ?_
  refine v_aload_n E dX7_isLoop_1 rfl ?_
  refine v_iload_n E dX7_isLoop_2 rfl ?_
  refine v_iconst (v := 0) E dX7_isLoop_3 (by decide) ?_
  replace h := bnd_e h
  obtain ⟨r1, er1, h⟩ := h
  refine v_callV (na := 2) (As := [vI a1, vI 0]) (rest := [vR (some o1)]) (ci := 7) (q := (RX7, TX7, 14)) E gw7_164 (by decide +kernel) rfl rfl (by decide) (kX7_placeOf l er1).2 (kX7_placeOf l er1).1 rfl rfl dX7_isLoop_4 ⟨Nat.le_of_ble_eq_true rfl, Nat.le_of_ble_eq_true rfl⟩ ⟨(Nat.le_of_ble_eq_true rfl), (Nat.le_of_ble_eq_true rfl)⟩ (Nat.le_of_ble_eq_true rfl) ?_
  refine v_aload_n E dX7_isLoop_7 rfl ?_
  refine v_iload_n E dX7_isLoop_8 rfl ?_
  refine v_iconst (v := 1) E dX7_isLoop_9 (by decide) ?_
  replace h := bnd_e h
  obtain ⟨r2, er2, h⟩ := h
  refine v_callV (na := 2) (As := [vI a1, vI 1]) (rest := [vI r1, vR (some o1)]) (ci := 7) (q := (RX7, TX7, 14)) E gw7_164 (by decide +kernel) rfl rfl (by decide) (kX7_placeOf l er2).2 (kX7_placeOf l er2).1 rfl rfl dX7_isLoop_10 ⟨Nat.le_of_ble_eq_true rfl, Nat.le_of_ble_eq_true rfl⟩ ⟨(Nat.le_of_ble_eq_true rfl), (Nat.le_of_ble_eq_true rfl)⟩ (Nat.le_of_ble_eq_true rfl) ?_
  replace h := bnd_e h
  obtain ⟨r3, er3, h⟩ := h
  refine v_callV (na := 2) (As := [vI r1, vI r2]) (rest := []) (ci := 7) (q := (RX7, TX7, 14)) E gw7_167 (by decide +kernel) rfl rfl (by decide) (kX7_areBeside l er3).2 (kX7_areBeside l er3).1 rfl rfl dX7_isLoop_13 ⟨Nat.le_of_ble_eq_true rfl, Nat.le_of_ble_eq_true rfl⟩ ⟨(Nat.le_of_ble_eq_true rfl), (Nat.le_of_ble_eq_true rfl)⟩ (Nat.le_of_ble_eq_true rfl) ?_
  replace h := bnd_e h
  obtain ⟨z4, ez4, h⟩ := h
  obtain ⟨rfl, ez4⟩ := rz_e ez4
  replace h := Option.some.inj h
  subst h
  refine v_widen (k' := 0) (n' := 0) (Nat.le_of_ble_eq_true rfl) (Nat.le_of_ble_eq_true rfl) ?_
  exact v_zret E ez4 dX7_isLoop_16
noncomputable def fX7_loops (A0 : AH) (o0 : Option Nat) : Option (Int32) :=
  (rcv A0 8 o0).bind fun o0 =>
  (iter (S := Int32 × Int32) (T := Int32) (fun s1 =>
      (gI A0 8 224 ((some o0))).bind fun v4 =>
      if v4 ≤ s1.2 then
        some (.inr s1.1)
      else
        (fX7_isLoop A0 ((some o0)) s1.2).bind fun r5 =>
        jp (fun (x8 : Int32) =>
          some (.inl (x8, (s1.2 + 1)))) fun K6 =>
          if r5 = 0 then
            K6 s1.1
          else
            K6 ((s1.1 ||| ((1 : Int32) <<< ((s1.2 : Int32) &&& 31))))) (0, 0)).bind fun t2 =>
  some t2
set_option maxRecDepth 100000 in
set_option maxHeartbeats 4000000 in
theorem kX7_loops (l : Launch) {A0 : AH} {o0 : Option Nat} {r : Int32} (h : fX7_loops A0 o0 = some r) : (∃ a, o0 = some a ∧ Hk A0 a = 8) ∧ Cn l yX7_loops cX7_loops 3 (some .int) 3 64 0 0 [vR o0] A0 (some (vI r)) A0 := by
  unfold fX7_loops at h
  replace h := bnd_e h
  obtain ⟨o1, e1, h⟩ := h
  obtain ⟨rfl, hk0⟩ := rcv_e e1
  refine ⟨⟨o1, rfl, hk0⟩, ?_⟩
  refine Cn.of (pad := 2) (lv0 := [some (vR (some o1)), none, none]) (by decide +kernel) (Nat.le_of_ble_eq_true rfl) rfl ?_
  intro p e s m below meth c base D cy E
  generalize (List.map toV [vR (some o1)]).toArray = ar at E ⊢
  have E : EN p s m ar meth c D cy RX7 cX7_loops 3 (some .int) "loops" := E
  refine v_iconst (v := 0) E dX7_loops_0 (by decide) ?_
  refine v_istore_n (lv' := [some (vR (some o1)), some (vI 0), none]) E dX7_loops_1 (by decide) rfl ?_
  refine v_iconst (v := 0) E dX7_loops_2 (by decide) ?_
  refine v_istore_n (lv' := [some (vR (some o1)), some (vI 0), some (vI 0)]) E dX7_loops_3 (by decide) rfl ?_
  replace h := bnd_e h
  obtain ⟨t2, et2, h⟩ := h
  refine iter_V (S := Int32 × Int32) (T := Int32) (Ph := fun s1 => V p l e { frames := 3, cells := 0, slots := 0, locals := 64 } s m ar below meth c (MQ below (Qd base D cy (some (vI r)) A0) ar s 0 0 (fun q => base ≤ q)) base D cy 3 4 [some (vR (some o1)), some (vI s1.1), some (vI s1.2)] [] A0 0 0) (Pt := fun t2 => V p l e { frames := 3, cells := 0, slots := 0, locals := 64 } s m ar below meth c (MQ below (Qd base D cy (some (vI r)) A0) ar s 0 0 (fun q => base ≤ q)) base D cy 3 32 [none, some (vI t2), none] [] A0 0 0) et2 (fun s1 w3 h hx => ?_) ?_
  · try dsimp only at h
    refine v_iload_n E dX7_loops_4 rfl ?_
    refine v_aload_n E dX7_loops_5 rfl ?_
    replace h := bnd_e h
    obtain ⟨v4, ev4, h⟩ := h
    refine g7_45 E ev4 dX7_loops_6 ?_
    refine v_icmp_ge (tgt := 32) E dX7_loops_9 (by decide) (fun c9 => ?_) (fun c9 => ?_)
    · rw [if_pos c9] at h
      refine v_drop (lv' := [none, some (vI s1.1), none]) [0, 2] rfl ?_
      replace h := Option.some.inj h
      subst h
      exact hx
    · rw [if_neg c9] at h
      refine v_aload_n E dX7_loops_12 rfl ?_
      refine v_iload_n E dX7_loops_13 rfl ?_
      replace h := bnd_e h
      obtain ⟨r5, er5, h⟩ := h
      refine v_callV (na := 1) (As := [vI s1.2]) (rest := []) (ci := 7) (q := (RX7, TX7, 14)) E gw7_170 (by decide +kernel) rfl rfl (by decide) (kX7_isLoop l er5).2 (kX7_isLoop l er5).1 rfl rfl dX7_loops_14 ⟨Nat.le_of_ble_eq_true rfl, Nat.le_of_ble_eq_true rfl⟩ ⟨(Nat.le_of_ble_eq_true rfl), (Nat.le_of_ble_eq_true rfl)⟩ (Nat.le_of_ble_eq_true rfl) ?_
      refine jp_use h (fun K6 eK6 h => ?_)
      have hK6 : ∀ x8 : Int32, K6 x8 = some w3 → V p l e { frames := 3, cells := 0, slots := 0, locals := 64 } s m ar below meth c (MQ below (Qd base D cy (some (vI r)) A0) ar s 0 0 (fun q => base ≤ q)) base D cy 3 26 [some (vR (some o1)), some (vI x8), some (vI s1.2)] [] A0 0 0 := by
        intro x8 h
        rw [eK6] at h
        try dsimp only at h
        refine v_iinc (v := (s1.2 + 1)) (lv' := [some (vR (some o1)), some (vI x8), some (vI (s1.2 + 1))]) E dX7_loops_26 rfl (by rfl) (by decide) rfl ?_
        refine v_goto (tgt := 4) E dX7_loops_29 (by decide) ?_
        replace h := Option.some.inj h
        subst h
        exact hx
      refine v_if_eq (tgt := 26) E dX7_loops_17 (by decide) (fun c7 => ?_) (fun c7 => ?_)
      · rw [if_pos c7] at h
        exact hK6 s1.1 h
      · rw [if_neg c7] at h
        refine v_iload_n E dX7_loops_20 rfl ?_
        refine v_iconst (v := 1) E dX7_loops_21 (by decide) ?_
        refine v_iload_n E dX7_loops_22 rfl ?_
        refine v_ishl E dX7_loops_23 ?_
        refine v_ior E dX7_loops_24 ?_
        refine v_istore_n (lv' := [some (vR (some o1)), some (vI (s1.1 ||| ((1 : Int32) <<< ((s1.2 : Int32) &&& 31)))), some (vI s1.2)]) E dX7_loops_25 (by decide) rfl ?_
        exact hK6 ((s1.1 ||| ((1 : Int32) <<< ((s1.2 : Int32) &&& 31)))) h
  · refine v_iload_n E dX7_loops_32 rfl ?_
    replace h := Option.some.inj h
    subst h
    refine v_widen (k' := 0) (n' := 0) (Nat.le_of_ble_eq_true rfl) (Nat.le_of_ble_eq_true rfl) ?_
    exact v_iret E dX7_loops_33
noncomputable def fX3_countOfSize (A0 : AH) (o0 : Option Nat) (a1 : Int32) : Option (Int32) :=
  (rcv A0 4 o0).bind fun o0 =>
  (iter (S := Int32 × Int32) (T := Int32) (fun s1 =>
      (gI A0 4 97 ((some o0))).bind fun v4 =>
      if v4 ≤ s1.2 then
        some (.inr s1.1)
      else
        (gR A0 4 99 ((some o0))).bind fun v5 =>
        (aI A0 14 v5 s1.2).bind fun v6 =>
        jp (fun (x9 : Int32) =>
          some (.inl (x9, (s1.2 + 1)))) fun K7 =>
          if v6 = a1 then
            K7 ((s1.1 + 1))
          else
            K7 s1.1) (0, 0)).bind fun t2 =>
  some t2
set_option maxRecDepth 100000 in
set_option maxHeartbeats 4000000 in
theorem kX3_countOfSize (l : Launch) {A0 : AH} {o0 : Option Nat} {a1 : Int32} {r : Int32} (h : fX3_countOfSize A0 o0 a1 = some r) : (∃ a, o0 = some a ∧ Hk A0 a = 4) ∧ Cn l yX3_countOfSize cX3_countOfSize 4 (some .int) 0 0 0 0 [vR o0, vI a1] A0 (some (vI r)) A0 := by
  unfold fX3_countOfSize at h
  replace h := bnd_e h
  obtain ⟨o1, e1, h⟩ := h
  obtain ⟨rfl, hk0⟩ := rcv_e e1
  refine ⟨⟨o1, rfl, hk0⟩, ?_⟩
  refine Cn.of (pad := 2) (lv0 := [some (vR (some o1)), some (vI a1), none, none]) (by decide +kernel) (Nat.le_of_ble_eq_true rfl) rfl ?_
  intro p e s m below meth c base D cy E
  generalize (List.map toV [vR (some o1), vI a1]).toArray = ar at E ⊢
  have E : EN p s m ar meth c D cy RX3 cX3_countOfSize 4 (some .int) "countOfSize" := E
  refine v_iconst (v := 0) E dX3_countOfSize_0 (by decide) ?_
  refine v_istore_n (lv' := [some (vR (some o1)), some (vI a1), some (vI 0), none]) E dX3_countOfSize_1 (by decide) rfl ?_
  refine v_iconst (v := 0) E dX3_countOfSize_2 (by decide) ?_
  refine v_istore_n (lv' := [some (vR (some o1)), some (vI a1), some (vI 0), some (vI 0)]) E dX3_countOfSize_3 (by decide) rfl ?_
  replace h := bnd_e h
  obtain ⟨t2, et2, h⟩ := h
  refine iter_V (S := Int32 × Int32) (T := Int32) (Ph := fun s1 => V p l e { frames := 0, cells := 0, slots := 0, locals := 0 } s m ar below meth c (MQ below (Qd base D cy (some (vI r)) A0) ar s 0 0 (fun q => base ≤ q)) base D cy 4 4 [some (vR (some o1)), some (vI a1), some (vI s1.1), some (vI s1.2)] [] A0 0 0) (Pt := fun t2 => V p l e { frames := 0, cells := 0, slots := 0, locals := 0 } s m ar below meth c (MQ below (Qd base D cy (some (vI r)) A0) ar s 0 0 (fun q => base ≤ q)) base D cy 4 31 [none, none, some (vI t2), none] [] A0 0 0) et2 (fun s1 w3 h hx => ?_) ?_
  · try dsimp only at h
    refine v_iload_n E dX3_countOfSize_4 rfl ?_
    refine v_aload_n E dX3_countOfSize_5 rfl ?_
    replace h := bnd_e h
    obtain ⟨v4, ev4, h⟩ := h
    refine g3_19 E ev4 dX3_countOfSize_6 ?_
    refine v_icmp_ge (tgt := 31) E dX3_countOfSize_9 (by decide) (fun c10 => ?_) (fun c10 => ?_)
    · rw [if_pos c10] at h
      refine v_drop (lv' := [none, none, some (vI s1.1), none]) [0, 1, 3] rfl ?_
      replace h := Option.some.inj h
      subst h
      exact hx
    · rw [if_neg c10] at h
      refine v_aload_n E dX3_countOfSize_12 rfl ?_
      replace h := bnd_e h
      obtain ⟨v5, ev5, h⟩ := h
      refine g3_33 E ev5 dX3_countOfSize_13 ?_
      refine v_iload_n E dX3_countOfSize_16 rfl ?_
      replace h := bnd_e h
      obtain ⟨v6, ev6, h⟩ := h
      refine v_iaload E ev6 dX3_countOfSize_17 ?_
      refine v_iload_n E dX3_countOfSize_18 rfl ?_
      refine jp_use h (fun K7 eK7 h => ?_)
      have hK7 : ∀ x9 : Int32, K7 x9 = some w3 → V p l e { frames := 0, cells := 0, slots := 0, locals := 0 } s m ar below meth c (MQ below (Qd base D cy (some (vI r)) A0) ar s 0 0 (fun q => base ≤ q)) base D cy 4 25 [some (vR (some o1)), some (vI a1), some (vI x9), some (vI s1.2)] [] A0 0 0 := by
        intro x9 h
        rw [eK7] at h
        try dsimp only at h
        refine v_iinc (v := (s1.2 + 1)) (lv' := [some (vR (some o1)), some (vI a1), some (vI x9), some (vI (s1.2 + 1))]) E dX3_countOfSize_25 rfl (by rfl) (by decide) rfl ?_
        refine v_goto (tgt := 4) E dX3_countOfSize_28 (by decide) ?_
        replace h := Option.some.inj h
        subst h
        exact hx
      refine v_icmp_ne (tgt := 25) E dX3_countOfSize_19 (by decide) (fun c8 => ?_) (fun c8 => ?_)
      · rw [if_neg c8] at h
        exact hK7 s1.1 h
      · rw [if_pos c8] at h
        refine v_iinc (v := (s1.1 + 1)) (lv' := [some (vR (some o1)), some (vI a1), some (vI (s1.1 + 1)), some (vI s1.2)]) E dX3_countOfSize_22 rfl (by rfl) (by decide) rfl ?_
        exact hK7 ((s1.1 + 1)) h
  · refine v_iload_n E dX3_countOfSize_31 rfl ?_
    replace h := Option.some.inj h
    subst h
    refine v_widen (k' := 0) (n' := 0) (Nat.le_of_ble_eq_true rfl) (Nat.le_of_ble_eq_true rfl) ?_
    exact v_iret E dX3_countOfSize_32
noncomputable def fX11_word (A0 : AH) (o0 : Option Nat) (a1 : Int32) (a2 : Int32) : Option (Int32 × AH) :=
  (rcv A0 12 o0).bind fun o0 =>
  (gR A0 12 352 ((some o0))).bind fun v1 =>
  (fX8_get A0 v1 a1).bind fun r2 =>
  if r2 = none then
    some (((-1000000001), A0))
  else
    (fX10_row A0 r2).bind fun r3 =>
    if a2 = 0 then
      (fX7_letterCount A0 r3).bind fun r5 =>
      some ((r5, A0))
    else if a2 = 1 then
      (gR A0 12 359 ((some o0))).bind fun v7 =>
      (fX7_parts A0 r3 v7).bind fun r8 =>
      some ((r8.1, r8.2))
    else if a2 = 2 then
      (gR A0 12 359 ((some o0))).bind fun v10 =>
      (fX7_brokenLaw A0 r3 v10).bind fun r11 =>
      some ((r11.1, r11.2))
    else if a2 = 3 then
      (fX10_signSet A0 r2).bind fun r13 =>
      some ((r13, A0))
    else if a2 = 4 then
      (gR A0 12 359 ((some o0))).bind fun v15 =>
      (fX10_faces A0 r2 v15).bind fun r16 =>
      (fX3_count r16.2 r16.1).bind fun r17 =>
      some ((r17, r16.2))
    else if a2 = 5 then
      (gR A0 12 359 ((some o0))).bind fun v19 =>
      (fX10_faces A0 r2 v19).bind fun r20 =>
      (fX3_handles r20.2 r20.1).bind fun r21 =>
      some ((r21, r20.2))
    else if a2 = 6 then
      (gR A0 12 359 ((some o0))).bind fun v23 =>
      (fX7_drawnSigns A0 r3 v23).bind fun r24 =>
      some ((r24.1, r24.2))
    else if a2 = 7 then
      (gR A0 12 359 ((some o0))).bind fun v26 =>
      (fX7_drawings A0 r3 v26).bind fun r27 =>
      some ((r27.1, r27.2))
    else if a2 = 8 then
      (gR A0 12 359 ((some o0))).bind fun v29 =>
      (fX7_ringsOf A0 r3 0 v29).bind fun r30 =>
      some ((r30.1, r30.2))
    else if a2 = 9 then
      (gR A0 12 359 ((some o0))).bind fun v32 =>
      (fX10_faces A0 r2 v32).bind fun r33 =>
      (gR r33.2 12 359 ((some o0))).bind fun v34 =>
      (fX3_trees r33.2 r33.1 1 v34).bind fun r35 =>
      some ((r35.1, r35.2))
    else if a2 = 10 then
      (gR A0 12 359 ((some o0))).bind fun v37 =>
      (fX10_faces A0 r2 v37).bind fun r38 =>
      (gR r38.2 12 359 ((some o0))).bind fun v39 =>
      (fX3_trees r38.2 r38.1 0 v39).bind fun r40 =>
      some ((r40.1, r40.2))
    else if a2 = 11 then
      (fX7_kin A0 r3).bind fun r42 =>
      some ((r42.1, r42.2))
    else if a2 = 12 then
      (fX7_loops A0 r3).bind fun r44 =>
      some ((r44, A0))
    else if a2 = 13 then
      (gR A0 12 359 ((some o0))).bind fun v46 =>
      (fX10_faces A0 r2 v46).bind fun r47 =>
      (fX3_countOfSize r47.2 r47.1 2).bind fun r48 =>
      some ((r48, r47.2))
    else if a2 = 14 then
      (gR A0 12 359 ((some o0))).bind fun v50 =>
      (fX10_faces A0 r2 v50).bind fun r51 =>
      (fX3_countOfSize r51.2 r51.1 3).bind fun r52 =>
      some ((r52, r51.2))
    else 
      some (((-1000000002), A0))
set_option maxRecDepth 100000 in
set_option maxHeartbeats 4000000 in
theorem kX11_word (l : Launch) {A0 : AH} {o0 : Option Nat} {a1 : Int32} {a2 : Int32} {r : Int32 × AH} (h : fX11_word A0 o0 a1 a2 = some r) : (∃ a, o0 = some a ∧ Hk A0 a = 12) ∧ Cn l yX11_word cX11_word 5 (some .int) 6 134 7 168 [vR o0, vI a1, vI a2] A0 (some (vI r.1)) r.2 := by
  unfold fX11_word at h
  replace h := bnd_e h
  obtain ⟨o1, e1, h⟩ := h
  obtain ⟨rfl, hk0⟩ := rcv_e e1
  refine ⟨⟨o1, rfl, hk0⟩, ?_⟩
  refine Cn.of (pad := 2) (lv0 := [some (vR (some o1)), some (vI a1), some (vI a2), none, none]) (by decide +kernel) (Nat.le_of_ble_eq_true rfl) rfl ?_
  intro p e s m below meth c base D cy E
  generalize (List.map toV [vR (some o1), vI a1, vI a2]).toArray = ar at E ⊢
  have E : EN p s m ar meth c D cy RX11 cX11_word 5 (some .int) "word" := E
  refine v_aload_n E dX11_word_0 rfl ?_
  replace h := bnd_e h
  obtain ⟨v1, ev1, h⟩ := h
  refine g11_10 E ev1 dX11_word_1 ?_
  refine v_iload_n E dX11_word_4 rfl ?_
  replace h := bnd_e h
  obtain ⟨r2, er2, h⟩ := h
  refine v_callV (na := 1) (As := [vI a1]) (rest := []) (ci := 8) (q := (RX8, TX8, 2)) E gw11_110 (by decide +kernel) rfl rfl (by decide) (kX8_get l er2).2 (kX8_get l er2).1 rfl rfl dX11_word_5 ⟨Nat.le_of_ble_eq_true rfl, Nat.le_of_ble_eq_true rfl⟩ ⟨(Nat.le_of_ble_eq_true rfl), (Nat.le_of_ble_eq_true rfl)⟩ (Nat.le_of_ble_eq_true rfl) ?_
  refine v_astore_n (lv' := [some (vR (some o1)), some (vI a1), some (vI a2), some (vR r2), none]) E dX11_word_8 (by decide) rfl ?_
  refine v_aload_n E dX11_word_9 rfl ?_
  refine v_ifnonnull (tgt := 16) E dX11_word_10 (by decide) (fun c53 => ?_) (fun c53 => ?_)
  · rw [if_neg c53] at h
    refine v_aload_n E dX11_word_16 rfl ?_
    replace h := bnd_e h
    obtain ⟨r3, er3, h⟩ := h
    refine v_callV (na := 0) (As := []) (rest := []) (ci := 10) (q := (RX10, TX10, 3)) E gw11_115 (by decide +kernel) rfl rfl (by decide) (kX10_row l er3).2 (kX10_row l er3).1 rfl rfl dX11_word_17 ⟨Nat.le_of_ble_eq_true rfl, Nat.le_of_ble_eq_true rfl⟩ ⟨(Nat.le_of_ble_eq_true rfl), (Nat.le_of_ble_eq_true rfl)⟩ (Nat.le_of_ble_eq_true rfl) ?_
    refine v_astore (lv' := [some (vR (some o1)), some (vI a1), some (vI a2), some (vR r2), some (vR r3)]) E dX11_word_20 (by decide) rfl ?_
    refine v_iload_n E dX11_word_22 rfl ?_
    refine v_tsw (tgts := [96, 102, 112, 122, 127, 139, 151, 161, 171, 182, 199, 216, 222, 228, 241, 254]) E dX11_word_23 (fun j off hj => ?_) (by decide) (by decide) (by decide) (by decide) (fun j t hj ht => ?_)
    · match j, hj with
      | 0, hj => cases hj; exact ⟨_, rfl, by decide⟩
      | 1, hj => cases hj; exact ⟨_, rfl, by decide⟩
      | 2, hj => cases hj; exact ⟨_, rfl, by decide⟩
      | 3, hj => cases hj; exact ⟨_, rfl, by decide⟩
      | 4, hj => cases hj; exact ⟨_, rfl, by decide⟩
      | 5, hj => cases hj; exact ⟨_, rfl, by decide⟩
      | 6, hj => cases hj; exact ⟨_, rfl, by decide⟩
      | 7, hj => cases hj; exact ⟨_, rfl, by decide⟩
      | 8, hj => cases hj; exact ⟨_, rfl, by decide⟩
      | 9, hj => cases hj; exact ⟨_, rfl, by decide⟩
      | 10, hj => cases hj; exact ⟨_, rfl, by decide⟩
      | 11, hj => cases hj; exact ⟨_, rfl, by decide⟩
      | 12, hj => cases hj; exact ⟨_, rfl, by decide⟩
      | 13, hj => cases hj; exact ⟨_, rfl, by decide⟩
      | 14, hj => cases hj; exact ⟨_, rfl, by decide⟩
      | j + 15, hj => simp at hj
    · by_cases c4 : a2 = 0
      · rw [if_pos c4] at h
        rw [c4] at hj
        obtain rfl : j = 0 := hj.symm
        cases ht
        refine v_aload E dX11_word_96 rfl ?_
        replace h := bnd_e h
        obtain ⟨r5, er5, h⟩ := h
        refine v_callV (na := 0) (As := []) (rest := []) (ci := 7) (q := (RX7, TX7, 14)) E gw11_121 (by decide +kernel) rfl rfl (by decide) (kX7_letterCount l er5).2 (kX7_letterCount l er5).1 rfl rfl dX11_word_98 ⟨Nat.le_of_ble_eq_true rfl, Nat.le_of_ble_eq_true rfl⟩ ⟨(Nat.le_of_ble_eq_true rfl), (Nat.le_of_ble_eq_true rfl)⟩ (Nat.le_of_ble_eq_true rfl) ?_
        replace h := Option.some.inj h
        subst h
        refine v_widen (k' := 7) (n' := 168) (Nat.le_of_ble_eq_true rfl) (Nat.le_of_ble_eq_true rfl) ?_
        exact v_iret E dX11_word_101
      rw [if_neg c4] at h
      by_cases c6 : a2 = 1
      · rw [if_pos c6] at h
        rw [c6] at hj
        obtain rfl : j = 1 := hj.symm
        cases ht
        refine v_aload E dX11_word_102 rfl ?_
        refine v_aload_n E dX11_word_104 rfl ?_
        replace h := bnd_e h
        obtain ⟨v7, ev7, h⟩ := h
        refine g11_61 E ev7 dX11_word_105 ?_
        replace h := bnd_e h
        obtain ⟨r8, er8, h⟩ := h
        refine v_callV (na := 1) (As := [vR v7]) (rest := []) (ci := 7) (q := (RX7, TX7, 14)) E gw11_126 (by decide +kernel) rfl rfl (by decide) (kX7_parts l er8).2 (kX7_parts l er8).1 rfl rfl dX11_word_108 ⟨Nat.le_of_ble_eq_true rfl, Nat.le_of_ble_eq_true rfl⟩ ⟨(Nat.le_of_ble_eq_true rfl), (Nat.le_of_ble_eq_true rfl)⟩ (Nat.le_of_ble_eq_true rfl) ?_
        replace h := Option.some.inj h
        subst h
        refine v_widen (k' := 7) (n' := 168) (Nat.le_of_ble_eq_true rfl) (Nat.le_of_ble_eq_true rfl) ?_
        exact v_iret E dX11_word_111
      rw [if_neg c6] at h
      by_cases c9 : a2 = 2
      · rw [if_pos c9] at h
        rw [c9] at hj
        obtain rfl : j = 2 := hj.symm
        cases ht
        refine v_aload E dX11_word_112 rfl ?_
        refine v_aload_n E dX11_word_114 rfl ?_
        replace h := bnd_e h
        obtain ⟨v10, ev10, h⟩ := h
        refine g11_61 E ev10 dX11_word_115 ?_
        replace h := bnd_e h
        obtain ⟨r11, er11, h⟩ := h
        refine v_callV (na := 1) (As := [vR v10]) (rest := []) (ci := 7) (q := (RX7, TX7, 14)) E gw11_130 (by decide +kernel) rfl rfl (by decide) (kX7_brokenLaw l er11).2 (kX7_brokenLaw l er11).1 rfl rfl dX11_word_118 ⟨Nat.le_of_ble_eq_true rfl, Nat.le_of_ble_eq_true rfl⟩ ⟨(Nat.le_of_ble_eq_true rfl), (Nat.le_of_ble_eq_true rfl)⟩ (Nat.le_of_ble_eq_true rfl) ?_
        replace h := Option.some.inj h
        subst h
        refine v_widen (k' := 7) (n' := 168) (Nat.le_of_ble_eq_true rfl) (Nat.le_of_ble_eq_true rfl) ?_
        exact v_iret E dX11_word_121
      rw [if_neg c9] at h
      by_cases c12 : a2 = 3
      · rw [if_pos c12] at h
        rw [c12] at hj
        obtain rfl : j = 3 := hj.symm
        cases ht
        refine v_aload_n E dX11_word_122 rfl ?_
        replace h := bnd_e h
        obtain ⟨r13, er13, h⟩ := h
        refine v_callV (na := 0) (As := []) (rest := []) (ci := 10) (q := (RX10, TX10, 3)) E gw11_133 (by decide +kernel) rfl rfl (by decide) (kX10_signSet l er13).2 (kX10_signSet l er13).1 rfl rfl dX11_word_123 ⟨Nat.le_of_ble_eq_true rfl, Nat.le_of_ble_eq_true rfl⟩ ⟨(Nat.le_of_ble_eq_true rfl), (Nat.le_of_ble_eq_true rfl)⟩ (Nat.le_of_ble_eq_true rfl) ?_
        replace h := Option.some.inj h
        subst h
        refine v_widen (k' := 7) (n' := 168) (Nat.le_of_ble_eq_true rfl) (Nat.le_of_ble_eq_true rfl) ?_
        exact v_iret E dX11_word_126
      rw [if_neg c12] at h
      by_cases c14 : a2 = 4
      · rw [if_pos c14] at h
        rw [c14] at hj
        obtain rfl : j = 4 := hj.symm
        cases ht
        refine v_aload_n E dX11_word_127 rfl ?_
        refine v_aload_n E dX11_word_128 rfl ?_
        replace h := bnd_e h
        obtain ⟨v15, ev15, h⟩ := h
        refine g11_61 E ev15 dX11_word_129 ?_
        replace h := bnd_e h
        obtain ⟨r16, er16, h⟩ := h
        refine v_callV (na := 1) (As := [vR v15]) (rest := []) (ci := 10) (q := (RX10, TX10, 3)) E gw11_136 (by decide +kernel) rfl rfl (by decide) (kX10_faces l er16).2 (kX10_faces l er16).1 rfl rfl dX11_word_132 ⟨Nat.le_of_ble_eq_true rfl, Nat.le_of_ble_eq_true rfl⟩ ⟨(Nat.le_of_ble_eq_true rfl), (Nat.le_of_ble_eq_true rfl)⟩ (Nat.le_of_ble_eq_true rfl) ?_
        refine v_widen (k' := 7) (n' := 168) (Nat.le_of_ble_eq_true rfl) (Nat.le_of_ble_eq_true rfl) ?_
        replace h := bnd_e h
        obtain ⟨r17, er17, h⟩ := h
        refine v_callV (na := 0) (As := []) (rest := []) (ci := 3) (q := (RX3, TX3, 8)) E gw11_140 (by decide +kernel) rfl rfl (by decide) (kX3_count l er17).2 (kX3_count l er17).1 rfl rfl dX11_word_135 ⟨Nat.le_of_ble_eq_true rfl, Nat.le_of_ble_eq_true rfl⟩ ⟨(Nat.le_of_ble_eq_true rfl), (Nat.le_of_ble_eq_true rfl)⟩ (Nat.le_of_ble_eq_true rfl) ?_
        replace h := Option.some.inj h
        subst h
        refine v_widen (k' := 7) (n' := 168) (Nat.le_of_ble_eq_true rfl) (Nat.le_of_ble_eq_true rfl) ?_
        exact v_iret E dX11_word_138
      rw [if_neg c14] at h
      by_cases c18 : a2 = 5
      · rw [if_pos c18] at h
        rw [c18] at hj
        obtain rfl : j = 5 := hj.symm
        cases ht
        refine v_aload_n E dX11_word_139 rfl ?_
        refine v_aload_n E dX11_word_140 rfl ?_
        replace h := bnd_e h
        obtain ⟨v19, ev19, h⟩ := h
        refine g11_61 E ev19 dX11_word_141 ?_
        replace h := bnd_e h
        obtain ⟨r20, er20, h⟩ := h
        refine v_callV (na := 1) (As := [vR v19]) (rest := []) (ci := 10) (q := (RX10, TX10, 3)) E gw11_136 (by decide +kernel) rfl rfl (by decide) (kX10_faces l er20).2 (kX10_faces l er20).1 rfl rfl dX11_word_144 ⟨Nat.le_of_ble_eq_true rfl, Nat.le_of_ble_eq_true rfl⟩ ⟨(Nat.le_of_ble_eq_true rfl), (Nat.le_of_ble_eq_true rfl)⟩ (Nat.le_of_ble_eq_true rfl) ?_
        refine v_widen (k' := 7) (n' := 168) (Nat.le_of_ble_eq_true rfl) (Nat.le_of_ble_eq_true rfl) ?_
        replace h := bnd_e h
        obtain ⟨r21, er21, h⟩ := h
        refine v_callV (na := 0) (As := []) (rest := []) (ci := 3) (q := (RX3, TX3, 8)) E gw11_143 (by decide +kernel) rfl rfl (by decide) (kX3_handles l er21).2 (kX3_handles l er21).1 rfl rfl dX11_word_147 ⟨Nat.le_of_ble_eq_true rfl, Nat.le_of_ble_eq_true rfl⟩ ⟨(Nat.le_of_ble_eq_true rfl), (Nat.le_of_ble_eq_true rfl)⟩ (Nat.le_of_ble_eq_true rfl) ?_
        replace h := Option.some.inj h
        subst h
        refine v_widen (k' := 7) (n' := 168) (Nat.le_of_ble_eq_true rfl) (Nat.le_of_ble_eq_true rfl) ?_
        exact v_iret E dX11_word_150
      rw [if_neg c18] at h
      by_cases c22 : a2 = 6
      · rw [if_pos c22] at h
        rw [c22] at hj
        obtain rfl : j = 6 := hj.symm
        cases ht
        refine v_aload E dX11_word_151 rfl ?_
        refine v_aload_n E dX11_word_153 rfl ?_
        replace h := bnd_e h
        obtain ⟨v23, ev23, h⟩ := h
        refine g11_61 E ev23 dX11_word_154 ?_
        replace h := bnd_e h
        obtain ⟨r24, er24, h⟩ := h
        refine v_callV (na := 1) (As := [vR v23]) (rest := []) (ci := 7) (q := (RX7, TX7, 14)) E gw11_146 (by decide +kernel) rfl rfl (by decide) (kX7_drawnSigns l er24).2 (kX7_drawnSigns l er24).1 rfl rfl dX11_word_157 ⟨Nat.le_of_ble_eq_true rfl, Nat.le_of_ble_eq_true rfl⟩ ⟨(Nat.le_of_ble_eq_true rfl), (Nat.le_of_ble_eq_true rfl)⟩ (Nat.le_of_ble_eq_true rfl) ?_
        replace h := Option.some.inj h
        subst h
        refine v_widen (k' := 7) (n' := 168) (Nat.le_of_ble_eq_true rfl) (Nat.le_of_ble_eq_true rfl) ?_
        exact v_iret E dX11_word_160
      rw [if_neg c22] at h
      by_cases c25 : a2 = 7
      · rw [if_pos c25] at h
        rw [c25] at hj
        obtain rfl : j = 7 := hj.symm
        cases ht
        refine v_aload E dX11_word_161 rfl ?_
        refine v_aload_n E dX11_word_163 rfl ?_
        replace h := bnd_e h
        obtain ⟨v26, ev26, h⟩ := h
        refine g11_61 E ev26 dX11_word_164 ?_
        replace h := bnd_e h
        obtain ⟨r27, er27, h⟩ := h
        refine v_callV (na := 1) (As := [vR v26]) (rest := []) (ci := 7) (q := (RX7, TX7, 14)) E gw11_149 (by decide +kernel) rfl rfl (by decide) (kX7_drawings l er27).2 (kX7_drawings l er27).1 rfl rfl dX11_word_167 ⟨Nat.le_of_ble_eq_true rfl, Nat.le_of_ble_eq_true rfl⟩ ⟨(Nat.le_of_ble_eq_true rfl), (Nat.le_of_ble_eq_true rfl)⟩ (Nat.le_of_ble_eq_true rfl) ?_
        replace h := Option.some.inj h
        subst h
        refine v_widen (k' := 7) (n' := 168) (Nat.le_of_ble_eq_true rfl) (Nat.le_of_ble_eq_true rfl) ?_
        exact v_iret E dX11_word_170
      rw [if_neg c25] at h
      by_cases c28 : a2 = 8
      · rw [if_pos c28] at h
        rw [c28] at hj
        obtain rfl : j = 8 := hj.symm
        cases ht
        refine v_aload E dX11_word_171 rfl ?_
        refine v_iconst (v := 0) E dX11_word_173 (by decide) ?_
        refine v_aload_n E dX11_word_174 rfl ?_
        replace h := bnd_e h
        obtain ⟨v29, ev29, h⟩ := h
        refine g11_61 E ev29 dX11_word_175 ?_
        replace h := bnd_e h
        obtain ⟨r30, er30, h⟩ := h
        refine v_callV (na := 2) (As := [vI 0, vR v29]) (rest := []) (ci := 7) (q := (RX7, TX7, 14)) E gw11_152 (by decide +kernel) rfl rfl (by decide) (kX7_ringsOf l er30).2 (kX7_ringsOf l er30).1 rfl rfl dX11_word_178 ⟨Nat.le_of_ble_eq_true rfl, Nat.le_of_ble_eq_true rfl⟩ ⟨(Nat.le_of_ble_eq_true rfl), (Nat.le_of_ble_eq_true rfl)⟩ (Nat.le_of_ble_eq_true rfl) ?_
        replace h := Option.some.inj h
        subst h
        refine v_widen (k' := 7) (n' := 168) (Nat.le_of_ble_eq_true rfl) (Nat.le_of_ble_eq_true rfl) ?_
        exact v_iret E dX11_word_181
      rw [if_neg c28] at h
      by_cases c31 : a2 = 9
      · rw [if_pos c31] at h
        rw [c31] at hj
        obtain rfl : j = 9 := hj.symm
        cases ht
        refine v_aload_n E dX11_word_182 rfl ?_
        refine v_aload_n E dX11_word_183 rfl ?_
        replace h := bnd_e h
        obtain ⟨v32, ev32, h⟩ := h
        refine g11_61 E ev32 dX11_word_184 ?_
        replace h := bnd_e h
        obtain ⟨r33, er33, h⟩ := h
        refine v_callV (na := 1) (As := [vR v32]) (rest := []) (ci := 10) (q := (RX10, TX10, 3)) E gw11_136 (by decide +kernel) rfl rfl (by decide) (kX10_faces l er33).2 (kX10_faces l er33).1 rfl rfl dX11_word_187 ⟨Nat.le_of_ble_eq_true rfl, Nat.le_of_ble_eq_true rfl⟩ ⟨(Nat.le_of_ble_eq_true rfl), (Nat.le_of_ble_eq_true rfl)⟩ (Nat.le_of_ble_eq_true rfl) ?_
        refine v_widen (k' := 7) (n' := 168) (Nat.le_of_ble_eq_true rfl) (Nat.le_of_ble_eq_true rfl) ?_
        refine v_iconst (v := 1) E dX11_word_190 (by decide) ?_
        refine v_aload_n E dX11_word_191 rfl ?_
        replace h := bnd_e h
        obtain ⟨v34, ev34, h⟩ := h
        refine g11_61 E ev34 dX11_word_192 ?_
        replace h := bnd_e h
        obtain ⟨r35, er35, h⟩ := h
        refine v_callV (na := 2) (As := [vI 1, vR v34]) (rest := []) (ci := 3) (q := (RX3, TX3, 8)) E gw11_156 (by decide +kernel) rfl rfl (by decide) (kX3_trees l er35).2 (kX3_trees l er35).1 rfl rfl dX11_word_195 ⟨Nat.le_of_ble_eq_true rfl, Nat.le_of_ble_eq_true rfl⟩ ⟨(Nat.le_of_ble_eq_true rfl), (Nat.le_of_ble_eq_true rfl)⟩ (Nat.le_of_ble_eq_true rfl) ?_
        replace h := Option.some.inj h
        subst h
        refine v_widen (k' := 7) (n' := 168) (Nat.le_of_ble_eq_true rfl) (Nat.le_of_ble_eq_true rfl) ?_
        exact v_iret E dX11_word_198
      rw [if_neg c31] at h
      by_cases c36 : a2 = 10
      · rw [if_pos c36] at h
        rw [c36] at hj
        obtain rfl : j = 10 := hj.symm
        cases ht
        refine v_aload_n E dX11_word_199 rfl ?_
        refine v_aload_n E dX11_word_200 rfl ?_
        replace h := bnd_e h
        obtain ⟨v37, ev37, h⟩ := h
        refine g11_61 E ev37 dX11_word_201 ?_
        replace h := bnd_e h
        obtain ⟨r38, er38, h⟩ := h
        refine v_callV (na := 1) (As := [vR v37]) (rest := []) (ci := 10) (q := (RX10, TX10, 3)) E gw11_136 (by decide +kernel) rfl rfl (by decide) (kX10_faces l er38).2 (kX10_faces l er38).1 rfl rfl dX11_word_204 ⟨Nat.le_of_ble_eq_true rfl, Nat.le_of_ble_eq_true rfl⟩ ⟨(Nat.le_of_ble_eq_true rfl), (Nat.le_of_ble_eq_true rfl)⟩ (Nat.le_of_ble_eq_true rfl) ?_
        refine v_widen (k' := 7) (n' := 168) (Nat.le_of_ble_eq_true rfl) (Nat.le_of_ble_eq_true rfl) ?_
        refine v_iconst (v := 0) E dX11_word_207 (by decide) ?_
        refine v_aload_n E dX11_word_208 rfl ?_
        replace h := bnd_e h
        obtain ⟨v39, ev39, h⟩ := h
        refine g11_61 E ev39 dX11_word_209 ?_
        replace h := bnd_e h
        obtain ⟨r40, er40, h⟩ := h
        refine v_callV (na := 2) (As := [vI 0, vR v39]) (rest := []) (ci := 3) (q := (RX3, TX3, 8)) E gw11_156 (by decide +kernel) rfl rfl (by decide) (kX3_trees l er40).2 (kX3_trees l er40).1 rfl rfl dX11_word_212 ⟨Nat.le_of_ble_eq_true rfl, Nat.le_of_ble_eq_true rfl⟩ ⟨(Nat.le_of_ble_eq_true rfl), (Nat.le_of_ble_eq_true rfl)⟩ (Nat.le_of_ble_eq_true rfl) ?_
        replace h := Option.some.inj h
        subst h
        refine v_widen (k' := 7) (n' := 168) (Nat.le_of_ble_eq_true rfl) (Nat.le_of_ble_eq_true rfl) ?_
        exact v_iret E dX11_word_215
      rw [if_neg c36] at h
      by_cases c41 : a2 = 11
      · rw [if_pos c41] at h
        rw [c41] at hj
        obtain rfl : j = 11 := hj.symm
        cases ht
        refine v_aload E dX11_word_216 rfl ?_
        replace h := bnd_e h
        obtain ⟨r42, er42, h⟩ := h
        refine v_callV (na := 0) (As := []) (rest := []) (ci := 7) (q := (RX7, TX7, 14)) E gw11_160 (by decide +kernel) rfl rfl (by decide) (kX7_kin l er42).2 (kX7_kin l er42).1 rfl rfl dX11_word_218 ⟨Nat.le_of_ble_eq_true rfl, Nat.le_of_ble_eq_true rfl⟩ ⟨(Nat.le_of_ble_eq_true rfl), (Nat.le_of_ble_eq_true rfl)⟩ (Nat.le_of_ble_eq_true rfl) ?_
        refine v_widen (k' := 1) (n' := 8) (Nat.le_of_ble_eq_true rfl) (Nat.le_of_ble_eq_true rfl) ?_
        replace h := Option.some.inj h
        subst h
        refine v_widen (k' := 7) (n' := 168) (Nat.le_of_ble_eq_true rfl) (Nat.le_of_ble_eq_true rfl) ?_
        exact v_iret E dX11_word_221
      rw [if_neg c41] at h
      by_cases c43 : a2 = 12
      · rw [if_pos c43] at h
        rw [c43] at hj
        obtain rfl : j = 12 := hj.symm
        cases ht
        refine v_aload E dX11_word_222 rfl ?_
        replace h := bnd_e h
        obtain ⟨r44, er44, h⟩ := h
        refine v_callV (na := 0) (As := []) (rest := []) (ci := 7) (q := (RX7, TX7, 14)) E gw11_163 (by decide +kernel) rfl rfl (by decide) (kX7_loops l er44).2 (kX7_loops l er44).1 rfl rfl dX11_word_224 ⟨Nat.le_of_ble_eq_true rfl, Nat.le_of_ble_eq_true rfl⟩ ⟨(Nat.le_of_ble_eq_true rfl), (Nat.le_of_ble_eq_true rfl)⟩ (Nat.le_of_ble_eq_true rfl) ?_
        replace h := Option.some.inj h
        subst h
        refine v_widen (k' := 7) (n' := 168) (Nat.le_of_ble_eq_true rfl) (Nat.le_of_ble_eq_true rfl) ?_
        exact v_iret E dX11_word_227
      rw [if_neg c43] at h
      by_cases c45 : a2 = 13
      · rw [if_pos c45] at h
        rw [c45] at hj
        obtain rfl : j = 13 := hj.symm
        cases ht
        refine v_aload_n E dX11_word_228 rfl ?_
        refine v_aload_n E dX11_word_229 rfl ?_
        replace h := bnd_e h
        obtain ⟨v46, ev46, h⟩ := h
        refine g11_61 E ev46 dX11_word_230 ?_
        replace h := bnd_e h
        obtain ⟨r47, er47, h⟩ := h
        refine v_callV (na := 1) (As := [vR v46]) (rest := []) (ci := 10) (q := (RX10, TX10, 3)) E gw11_136 (by decide +kernel) rfl rfl (by decide) (kX10_faces l er47).2 (kX10_faces l er47).1 rfl rfl dX11_word_233 ⟨Nat.le_of_ble_eq_true rfl, Nat.le_of_ble_eq_true rfl⟩ ⟨(Nat.le_of_ble_eq_true rfl), (Nat.le_of_ble_eq_true rfl)⟩ (Nat.le_of_ble_eq_true rfl) ?_
        refine v_widen (k' := 7) (n' := 168) (Nat.le_of_ble_eq_true rfl) (Nat.le_of_ble_eq_true rfl) ?_
        refine v_iconst (v := 2) E dX11_word_236 (by decide) ?_
        replace h := bnd_e h
        obtain ⟨r48, er48, h⟩ := h
        refine v_callV (na := 1) (As := [vI 2]) (rest := []) (ci := 3) (q := (RX3, TX3, 8)) E gw11_166 (by decide +kernel) rfl rfl (by decide) (kX3_countOfSize l er48).2 (kX3_countOfSize l er48).1 rfl rfl dX11_word_237 ⟨Nat.le_of_ble_eq_true rfl, Nat.le_of_ble_eq_true rfl⟩ ⟨(Nat.le_of_ble_eq_true rfl), (Nat.le_of_ble_eq_true rfl)⟩ (Nat.le_of_ble_eq_true rfl) ?_
        replace h := Option.some.inj h
        subst h
        refine v_widen (k' := 7) (n' := 168) (Nat.le_of_ble_eq_true rfl) (Nat.le_of_ble_eq_true rfl) ?_
        exact v_iret E dX11_word_240
      rw [if_neg c45] at h
      by_cases c49 : a2 = 14
      · rw [if_pos c49] at h
        rw [c49] at hj
        obtain rfl : j = 14 := hj.symm
        cases ht
        refine v_aload_n E dX11_word_241 rfl ?_
        refine v_aload_n E dX11_word_242 rfl ?_
        replace h := bnd_e h
        obtain ⟨v50, ev50, h⟩ := h
        refine g11_61 E ev50 dX11_word_243 ?_
        replace h := bnd_e h
        obtain ⟨r51, er51, h⟩ := h
        refine v_callV (na := 1) (As := [vR v50]) (rest := []) (ci := 10) (q := (RX10, TX10, 3)) E gw11_136 (by decide +kernel) rfl rfl (by decide) (kX10_faces l er51).2 (kX10_faces l er51).1 rfl rfl dX11_word_246 ⟨Nat.le_of_ble_eq_true rfl, Nat.le_of_ble_eq_true rfl⟩ ⟨(Nat.le_of_ble_eq_true rfl), (Nat.le_of_ble_eq_true rfl)⟩ (Nat.le_of_ble_eq_true rfl) ?_
        refine v_widen (k' := 7) (n' := 168) (Nat.le_of_ble_eq_true rfl) (Nat.le_of_ble_eq_true rfl) ?_
        refine v_iconst (v := 3) E dX11_word_249 (by decide) ?_
        replace h := bnd_e h
        obtain ⟨r52, er52, h⟩ := h
        refine v_callV (na := 1) (As := [vI 3]) (rest := []) (ci := 3) (q := (RX3, TX3, 8)) E gw11_166 (by decide +kernel) rfl rfl (by decide) (kX3_countOfSize l er52).2 (kX3_countOfSize l er52).1 rfl rfl dX11_word_250 ⟨Nat.le_of_ble_eq_true rfl, Nat.le_of_ble_eq_true rfl⟩ ⟨(Nat.le_of_ble_eq_true rfl), (Nat.le_of_ble_eq_true rfl)⟩ (Nat.le_of_ble_eq_true rfl) ?_
        replace h := Option.some.inj h
        subst h
        refine v_widen (k' := 7) (n' := 168) (Nat.le_of_ble_eq_true rfl) (Nat.le_of_ble_eq_true rfl) ?_
        exact v_iret E dX11_word_253
      rw [if_neg c49] at h
      have hd : t = 254 := by
        match j, hj, ht with
        | 0, hj, ht => exact absurd (Int32.toInt_inj.mp ((swi_val hj (by decide)).trans (by decide : (0 : Int) + ((0 : Nat) : Int) = (0 : Int32).toInt))) c4
        | 1, hj, ht => exact absurd (Int32.toInt_inj.mp ((swi_val hj (by decide)).trans (by decide : (0 : Int) + ((1 : Nat) : Int) = (1 : Int32).toInt))) c6
        | 2, hj, ht => exact absurd (Int32.toInt_inj.mp ((swi_val hj (by decide)).trans (by decide : (0 : Int) + ((2 : Nat) : Int) = (2 : Int32).toInt))) c9
        | 3, hj, ht => exact absurd (Int32.toInt_inj.mp ((swi_val hj (by decide)).trans (by decide : (0 : Int) + ((3 : Nat) : Int) = (3 : Int32).toInt))) c12
        | 4, hj, ht => exact absurd (Int32.toInt_inj.mp ((swi_val hj (by decide)).trans (by decide : (0 : Int) + ((4 : Nat) : Int) = (4 : Int32).toInt))) c14
        | 5, hj, ht => exact absurd (Int32.toInt_inj.mp ((swi_val hj (by decide)).trans (by decide : (0 : Int) + ((5 : Nat) : Int) = (5 : Int32).toInt))) c18
        | 6, hj, ht => exact absurd (Int32.toInt_inj.mp ((swi_val hj (by decide)).trans (by decide : (0 : Int) + ((6 : Nat) : Int) = (6 : Int32).toInt))) c22
        | 7, hj, ht => exact absurd (Int32.toInt_inj.mp ((swi_val hj (by decide)).trans (by decide : (0 : Int) + ((7 : Nat) : Int) = (7 : Int32).toInt))) c25
        | 8, hj, ht => exact absurd (Int32.toInt_inj.mp ((swi_val hj (by decide)).trans (by decide : (0 : Int) + ((8 : Nat) : Int) = (8 : Int32).toInt))) c28
        | 9, hj, ht => exact absurd (Int32.toInt_inj.mp ((swi_val hj (by decide)).trans (by decide : (0 : Int) + ((9 : Nat) : Int) = (9 : Int32).toInt))) c31
        | 10, hj, ht => exact absurd (Int32.toInt_inj.mp ((swi_val hj (by decide)).trans (by decide : (0 : Int) + ((10 : Nat) : Int) = (10 : Int32).toInt))) c36
        | 11, hj, ht => exact absurd (Int32.toInt_inj.mp ((swi_val hj (by decide)).trans (by decide : (0 : Int) + ((11 : Nat) : Int) = (11 : Int32).toInt))) c41
        | 12, hj, ht => exact absurd (Int32.toInt_inj.mp ((swi_val hj (by decide)).trans (by decide : (0 : Int) + ((12 : Nat) : Int) = (12 : Int32).toInt))) c43
        | 13, hj, ht => exact absurd (Int32.toInt_inj.mp ((swi_val hj (by decide)).trans (by decide : (0 : Int) + ((13 : Nat) : Int) = (13 : Int32).toInt))) c45
        | 14, hj, ht => exact absurd (Int32.toInt_inj.mp ((swi_val hj (by decide)).trans (by decide : (0 : Int) + ((14 : Nat) : Int) = (14 : Int32).toInt))) c49
        | 15, hj, ht => cases ht; rfl
        | j + 16, hj, ht => simp at ht
      subst hd
      refine v_ldc (v := (-1000000002)) E dX11_word_254 q262 ?_
      replace h := Option.some.inj h
      subst h
      refine v_widen (k' := 7) (n' := 168) (Nat.le_of_ble_eq_true rfl) (Nat.le_of_ble_eq_true rfl) ?_
      exact v_iret E dX11_word_256
  · rw [if_pos c53] at h
    refine v_ldc (v := (-1000000001)) E dX11_word_13 q516 ?_
    replace h := Option.some.inj h
    subst h
    refine v_widen (k' := 7) (n' := 168) (Nat.le_of_ble_eq_true rfl) (Nat.le_of_ble_eq_true rfl) ?_
    exact v_iret E dX11_word_15
noncomputable def fX7_leastCode (A0 : AH) (o0 : Option Nat) : Option (Int64 × AH) :=
  (rcv A0 8 o0).bind fun o0 =>
  (fX7_tryTurns A0 ((some o0))).bind fun r1 =>
  (gJ r1 8 231 ((some o0))).bind fun v2 =>
  some ((v2, r1))
set_option maxRecDepth 100000 in
set_option maxHeartbeats 4000000 in
theorem kX7_leastCode (l : Launch) {A0 : AH} {o0 : Option Nat} {r : Int64 × AH} (h : fX7_leastCode A0 o0 = some r) : (∃ a, o0 = some a ∧ Hk A0 a = 8) ∧ Cn l yX7_leastCode cX7_leastCode 1 (some .long) 3 77 1 8 [vR o0] A0 (some (vJ r.1)) r.2 := by
  unfold fX7_leastCode at h
  replace h := bnd_e h
  obtain ⟨o1, e1, h⟩ := h
  obtain ⟨rfl, hk0⟩ := rcv_e e1
  refine ⟨⟨o1, rfl, hk0⟩, ?_⟩
  refine Cn.of (pad := 0) (lv0 := [some (vR (some o1))]) (by decide +kernel) (Nat.le_of_ble_eq_true rfl) rfl ?_
  intro p e s m below meth c base D cy E
  generalize (List.map toV [vR (some o1)]).toArray = ar at E ⊢
  have E : EN p s m ar meth c D cy RX7 cX7_leastCode 1 (some .long) "leastCode" := E
  refine v_aload_n E dX7_leastCode_0 rfl ?_
  replace h := bnd_e h
  obtain ⟨r1, er1, h⟩ := h
  refine v_callV (na := 0) (As := []) (rest := []) (ci := 7) (q := (RX7, TX7, 14)) E gw7_134 (by decide +kernel) rfl rfl (by decide) (kX7_tryTurns l er1).2 (kX7_tryTurns l er1).1 rfl rfl dX7_leastCode_1 ⟨Nat.le_of_ble_eq_true rfl, Nat.le_of_ble_eq_true rfl⟩ ⟨(Nat.le_of_ble_eq_true rfl), (Nat.le_of_ble_eq_true rfl)⟩ (Nat.le_of_ble_eq_true rfl) ?_
  refine v_widen (k' := 1) (n' := 8) (Nat.le_of_ble_eq_true rfl) (Nat.le_of_ble_eq_true rfl) ?_
  refine v_aload_n E dX7_leastCode_4 rfl ?_
  replace h := bnd_e h
  obtain ⟨v2, ev2, h⟩ := h
  refine g7_15 E ev2 dX7_leastCode_5 ?_
  replace h := Option.some.inj h
  subst h
  refine v_widen (k' := 1) (n' := 8) (Nat.le_of_ble_eq_true rfl) (Nat.le_of_ble_eq_true rfl) ?_
  exact v_lret E dX7_leastCode_8
noncomputable def fX11_code (A0 : AH) (o0 : Option Nat) (a1 : Int32) : Option (Int64 × AH) :=
  (rcv A0 12 o0).bind fun o0 =>
  (gR A0 12 352 ((some o0))).bind fun v1 =>
  (fX8_get A0 v1 a1).bind fun r2 =>
  if r2 = none then
    some (((-1000000001), A0))
  else
    (fX10_row A0 r2).bind fun r3 =>
    (fX7_leastCode A0 r3).bind fun r4 =>
    some ((r4.1, r4.2))
set_option maxRecDepth 100000 in
set_option maxHeartbeats 4000000 in
theorem kX11_code (l : Launch) {A0 : AH} {o0 : Option Nat} {a1 : Int32} {r : Int64 × AH} (h : fX11_code A0 o0 a1 = some r) : (∃ a, o0 = some a ∧ Hk A0 a = 12) ∧ Cn l yX11_code cX11_code 3 (some .long) 4 97 1 8 [vR o0, vI a1] A0 (some (vJ r.1)) r.2 := by
  unfold fX11_code at h
  replace h := bnd_e h
  obtain ⟨o1, e1, h⟩ := h
  obtain ⟨rfl, hk0⟩ := rcv_e e1
  refine ⟨⟨o1, rfl, hk0⟩, ?_⟩
  refine Cn.of (pad := 1) (lv0 := [some (vR (some o1)), some (vI a1), none]) (by decide +kernel) (Nat.le_of_ble_eq_true rfl) rfl ?_
  intro p e s m below meth c base D cy E
  generalize (List.map toV [vR (some o1), vI a1]).toArray = ar at E ⊢
  have E : EN p s m ar meth c D cy RX11 cX11_code 3 (some .long) "code" := E
  refine v_aload_n E dX11_code_0 rfl ?_
  replace h := bnd_e h
  obtain ⟨v1, ev1, h⟩ := h
  refine g11_10 E ev1 dX11_code_1 ?_
  refine v_iload_n E dX11_code_4 rfl ?_
  replace h := bnd_e h
  obtain ⟨r2, er2, h⟩ := h
  refine v_callV (na := 1) (As := [vI a1]) (rest := []) (ci := 8) (q := (RX8, TX8, 2)) E gw11_110 (by decide +kernel) rfl rfl (by decide) (kX8_get l er2).2 (kX8_get l er2).1 rfl rfl dX11_code_5 ⟨Nat.le_of_ble_eq_true rfl, Nat.le_of_ble_eq_true rfl⟩ ⟨(Nat.le_of_ble_eq_true rfl), (Nat.le_of_ble_eq_true rfl)⟩ (Nat.le_of_ble_eq_true rfl) ?_
  refine v_astore_n (lv' := [some (vR (some o1)), some (vI a1), some (vR r2)]) E dX11_code_8 (by decide) rfl ?_
  refine v_aload_n E dX11_code_9 rfl ?_
  refine v_ifnonnull (tgt := 19) E dX11_code_10 (by decide) (fun c5 => ?_) (fun c5 => ?_)
  · rw [if_neg c5] at h
    refine v_aload_n E dX11_code_19 rfl ?_
    replace h := bnd_e h
    obtain ⟨r3, er3, h⟩ := h
    refine v_callV (na := 0) (As := []) (rest := []) (ci := 10) (q := (RX10, TX10, 3)) E gw11_115 (by decide +kernel) rfl rfl (by decide) (kX10_row l er3).2 (kX10_row l er3).1 rfl rfl dX11_code_20 ⟨Nat.le_of_ble_eq_true rfl, Nat.le_of_ble_eq_true rfl⟩ ⟨(Nat.le_of_ble_eq_true rfl), (Nat.le_of_ble_eq_true rfl)⟩ (Nat.le_of_ble_eq_true rfl) ?_
    replace h := bnd_e h
    obtain ⟨r4, er4, h⟩ := h
    refine v_callV (na := 0) (As := []) (rest := []) (ci := 7) (q := (RX7, TX7, 14)) E gw11_172 (by decide +kernel) rfl rfl (by decide) (kX7_leastCode l er4).2 (kX7_leastCode l er4).1 rfl rfl dX11_code_23 ⟨Nat.le_of_ble_eq_true rfl, Nat.le_of_ble_eq_true rfl⟩ ⟨(Nat.le_of_ble_eq_true rfl), (Nat.le_of_ble_eq_true rfl)⟩ (Nat.le_of_ble_eq_true rfl) ?_
    refine v_widen (k' := 1) (n' := 8) (Nat.le_of_ble_eq_true rfl) (Nat.le_of_ble_eq_true rfl) ?_
    replace h := Option.some.inj h
    subst h
    refine v_widen (k' := 1) (n' := 8) (Nat.le_of_ble_eq_true rfl) (Nat.le_of_ble_eq_true rfl) ?_
    exact v_lret E dX11_code_26
  · rw [if_pos c5] at h
    refine v_ldc2 (v := (-1000000001)) E dX11_code_13 q737 ?_
    refine v_goto (tgt := 26) E dX11_code_16 (by decide) ?_
    replace h := Option.some.inj h
    subst h
    refine v_widen (k' := 1) (n' := 8) (Nat.le_of_ble_eq_true rfl) (Nat.le_of_ble_eq_true rfl) ?_
    exact v_lret E dX11_code_26
noncomputable def fX11_at (A0 : AH) (o0 : Option Nat) (a1 : Int32) (a2 : Int32) : Option (Int32) :=
  (rcv A0 12 o0).bind fun o0 =>
  (gR A0 12 352 ((some o0))).bind fun v1 =>
  (fX8_get A0 v1 a1).bind fun r2 =>
  if r2 = none then
    some ((-1000000001))
  else
    (fX10_row A0 r2).bind fun r3 =>
    (fX7_letterOn A0 r3 a2).bind fun r4 =>
    some r4
set_option maxRecDepth 100000 in
set_option maxHeartbeats 4000000 in
theorem kX11_at (l : Launch) {A0 : AH} {o0 : Option Nat} {a1 : Int32} {a2 : Int32} {r : Int32} (h : fX11_at A0 o0 a1 a2 = some r) : (∃ a, o0 = some a ∧ Hk A0 a = 12) ∧ Cn l yX11_at cX11_at 4 (some .int) 2 42 0 0 [vR o0, vI a1, vI a2] A0 (some (vI r)) A0 := by
  unfold fX11_at at h
  replace h := bnd_e h
  obtain ⟨o1, e1, h⟩ := h
  obtain ⟨rfl, hk0⟩ := rcv_e e1
  refine ⟨⟨o1, rfl, hk0⟩, ?_⟩
  refine Cn.of (pad := 1) (lv0 := [some (vR (some o1)), some (vI a1), some (vI a2), none]) (by decide +kernel) (Nat.le_of_ble_eq_true rfl) rfl ?_
  intro p e s m below meth c base D cy E
  generalize (List.map toV [vR (some o1), vI a1, vI a2]).toArray = ar at E ⊢
  have E : EN p s m ar meth c D cy RX11 cX11_at 4 (some .int) "at" := E
  refine v_aload_n E dX11_at_0 rfl ?_
  replace h := bnd_e h
  obtain ⟨v1, ev1, h⟩ := h
  refine g11_10 E ev1 dX11_at_1 ?_
  refine v_iload_n E dX11_at_4 rfl ?_
  replace h := bnd_e h
  obtain ⟨r2, er2, h⟩ := h
  refine v_callV (na := 1) (As := [vI a1]) (rest := []) (ci := 8) (q := (RX8, TX8, 2)) E gw11_110 (by decide +kernel) rfl rfl (by decide) (kX8_get l er2).2 (kX8_get l er2).1 rfl rfl dX11_at_5 ⟨Nat.le_of_ble_eq_true rfl, Nat.le_of_ble_eq_true rfl⟩ ⟨(Nat.le_of_ble_eq_true rfl), (Nat.le_of_ble_eq_true rfl)⟩ (Nat.le_of_ble_eq_true rfl) ?_
  refine v_astore_n (lv' := [some (vR (some o1)), some (vI a1), some (vI a2), some (vR r2)]) E dX11_at_8 (by decide) rfl ?_
  refine v_aload_n E dX11_at_9 rfl ?_
  refine v_ifnonnull (tgt := 18) E dX11_at_10 (by decide) (fun c5 => ?_) (fun c5 => ?_)
  · rw [if_neg c5] at h
    refine v_aload_n E dX11_at_18 rfl ?_
    replace h := bnd_e h
    obtain ⟨r3, er3, h⟩ := h
    refine v_callV (na := 0) (As := []) (rest := []) (ci := 10) (q := (RX10, TX10, 3)) E gw11_115 (by decide +kernel) rfl rfl (by decide) (kX10_row l er3).2 (kX10_row l er3).1 rfl rfl dX11_at_19 ⟨Nat.le_of_ble_eq_true rfl, Nat.le_of_ble_eq_true rfl⟩ ⟨(Nat.le_of_ble_eq_true rfl), (Nat.le_of_ble_eq_true rfl)⟩ (Nat.le_of_ble_eq_true rfl) ?_
    refine v_iload_n E dX11_at_22 rfl ?_
    replace h := bnd_e h
    obtain ⟨r4, er4, h⟩ := h
    refine v_callV (na := 1) (As := [vI a2]) (rest := []) (ci := 7) (q := (RX7, TX7, 14)) E gw11_176 (by decide +kernel) rfl rfl (by decide) (kX7_letterOn l er4).2 (kX7_letterOn l er4).1 rfl rfl dX11_at_23 ⟨Nat.le_of_ble_eq_true rfl, Nat.le_of_ble_eq_true rfl⟩ ⟨(Nat.le_of_ble_eq_true rfl), (Nat.le_of_ble_eq_true rfl)⟩ (Nat.le_of_ble_eq_true rfl) ?_
    replace h := Option.some.inj h
    subst h
    refine v_widen (k' := 0) (n' := 0) (Nat.le_of_ble_eq_true rfl) (Nat.le_of_ble_eq_true rfl) ?_
    exact v_iret E dX11_at_26
  · rw [if_pos c5] at h
    refine v_ldc (v := (-1000000001)) E dX11_at_13 q516 ?_
    refine v_goto (tgt := 26) E dX11_at_15 (by decide) ?_
    replace h := Option.some.inj h
    subst h
    refine v_widen (k' := 0) (n' := 0) (Nat.le_of_ble_eq_true rfl) (Nat.le_of_ble_eq_true rfl) ?_
    exact v_iret E dX11_at_26
noncomputable def fX3_isPlane (A0 : AH) (o0 : Option Nat) : Option (Int32) :=
  (rcv A0 4 o0).bind fun o0 =>
  (gI A0 4 103 ((some o0))).bind fun v1 =>
  (rz v1).bind fun z2 => some z2
set_option maxRecDepth 100000 in
set_option maxHeartbeats 4000000 in
theorem kX3_isPlane (l : Launch) {A0 : AH} {o0 : Option Nat} {r : Int32} (h : fX3_isPlane A0 o0 = some r) : (∃ a, o0 = some a ∧ Hk A0 a = 4) ∧ Cn l yX3_isPlane cX3_isPlane 1 (some .boolean) 0 0 0 0 [vR o0] A0 (some (vI r)) A0 := by
  unfold fX3_isPlane at h
  replace h := bnd_e h
  obtain ⟨o1, e1, h⟩ := h
  obtain ⟨rfl, hk0⟩ := rcv_e e1
  refine ⟨⟨o1, rfl, hk0⟩, ?_⟩
  refine Cn.of (pad := 0) (lv0 := [some (vR (some o1))]) (by decide +kernel) (Nat.le_of_ble_eq_true rfl) rfl ?_
  intro p e s m below meth c base D cy E
  generalize (List.map toV [vR (some o1)]).toArray = ar at E ⊢
  have E : EN p s m ar meth c D cy RX3 cX3_isPlane 1 (some .boolean) "isPlane" := E
  refine v_aload_n E dX3_isPlane_0 rfl ?_
  replace h := bnd_e h
  obtain ⟨v1, ev1, h⟩ := h
  refine g3_48 E ev1 dX3_isPlane_1 ?_
  replace h := bnd_e h
  obtain ⟨z2, ez2, h⟩ := h
  obtain ⟨rfl, ez2⟩ := rz_e ez2
  replace h := Option.some.inj h
  subst h
  refine v_widen (k' := 0) (n' := 0) (Nat.le_of_ble_eq_true rfl) (Nat.le_of_ble_eq_true rfl) ?_
  exact v_zret E ez2 dX3_isPlane_4
noncomputable def fX3_middle (A0 : AH) (o0 : Option Nat) (a1 : Int32) : Option (Int32) :=
  (rcv A0 4 o0).bind fun o0 =>
  (iter (S := Int32 × Int32) (T := Int32) (fun s1 =>
      if 4 ≤ s1.2 then
        some (.inr s1.1)
      else
        (fX3_faceOf A0 ((some o0)) a1 s1.2).bind fun r4 =>
        (fX3_indexOf A0 ((some o0)) r4).bind fun r5 =>
        some (.inl ((s1.1 + r5), (s1.2 + 1)))) (0, 0)).bind fun t2 =>
  (dvI t2 4).bind fun v7 =>
  some v7
set_option maxRecDepth 100000 in
set_option maxHeartbeats 4000000 in
theorem kX3_middle (l : Launch) {A0 : AH} {o0 : Option Nat} {a1 : Int32} {r : Int32} (h : fX3_middle A0 o0 a1 = some r) : (∃ a, o0 = some a ∧ Hk A0 a = 4) ∧ Cn l yX3_middle cX3_middle 4 (some .int) 2 44 0 0 [vR o0, vI a1] A0 (some (vI r)) A0 := by
  unfold fX3_middle at h
  replace h := bnd_e h
  obtain ⟨o1, e1, h⟩ := h
  obtain ⟨rfl, hk0⟩ := rcv_e e1
  refine ⟨⟨o1, rfl, hk0⟩, ?_⟩
  refine Cn.of (pad := 2) (lv0 := [some (vR (some o1)), some (vI a1), none, none]) (by decide +kernel) (Nat.le_of_ble_eq_true rfl) rfl ?_
  intro p e s m below meth c base D cy E
  generalize (List.map toV [vR (some o1), vI a1]).toArray = ar at E ⊢
  have E : EN p s m ar meth c D cy RX3 cX3_middle 4 (some .int) "middle" := E
  refine v_iconst (v := 0) E dX3_middle_0 (by decide) ?_
  refine v_istore_n (lv' := [some (vR (some o1)), some (vI a1), some (vI 0), none]) E dX3_middle_1 (by decide) rfl ?_
  refine v_iconst (v := 0) E dX3_middle_2 (by decide) ?_
  refine v_istore_n (lv' := [some (vR (some o1)), some (vI a1), some (vI 0), some (vI 0)]) E dX3_middle_3 (by decide) rfl ?_
  replace h := bnd_e h
  obtain ⟨t2, et2, h⟩ := h
  refine iter_V (S := Int32 × Int32) (T := Int32) (Ph := fun s1 => V p l e { frames := 2, cells := 0, slots := 0, locals := 44 } s m ar below meth c (MQ below (Qd base D cy (some (vI r)) A0) ar s 0 0 (fun q => base ≤ q)) base D cy 4 4 [some (vR (some o1)), some (vI a1), some (vI s1.1), some (vI s1.2)] [] A0 0 0) (Pt := fun t2 => V p l e { frames := 2, cells := 0, slots := 0, locals := 44 } s m ar below meth c (MQ below (Qd base D cy (some (vI r)) A0) ar s 0 0 (fun q => base ≤ q)) base D cy 4 28 [none, none, some (vI t2), none] [] A0 0 0) et2 (fun s1 w3 h hx => ?_) ?_
  · try dsimp only at h
    refine v_iload_n E dX3_middle_4 rfl ?_
    refine v_iconst (v := 4) E dX3_middle_5 (by decide) ?_
    refine v_icmp_ge (tgt := 28) E dX3_middle_6 (by decide) (fun c6 => ?_) (fun c6 => ?_)
    · rw [if_pos c6] at h
      refine v_drop (lv' := [none, none, some (vI s1.1), none]) [0, 1, 3] rfl ?_
      replace h := Option.some.inj h
      subst h
      exact hx
    · rw [if_neg c6] at h
      refine v_iload_n E dX3_middle_9 rfl ?_
      refine v_aload_n E dX3_middle_10 rfl ?_
      refine v_aload_n E dX3_middle_11 rfl ?_
      refine v_iload_n E dX3_middle_12 rfl ?_
      refine v_iload_n E dX3_middle_13 rfl ?_
      replace h := bnd_e h
      obtain ⟨r4, er4, h⟩ := h
      refine v_callV (na := 2) (As := [vI a1, vI s1.2]) (rest := [vR (some o1), vI s1.1]) (ci := 3) (q := (RX3, TX3, 8)) E gw3_103 (by decide +kernel) rfl rfl (by decide) (kX3_faceOf l er4).2 (kX3_faceOf l er4).1 rfl rfl dX3_middle_14 ⟨Nat.le_of_ble_eq_true rfl, Nat.le_of_ble_eq_true rfl⟩ ⟨(Nat.le_of_ble_eq_true rfl), (Nat.le_of_ble_eq_true rfl)⟩ (Nat.le_of_ble_eq_true rfl) ?_
      replace h := bnd_e h
      obtain ⟨r5, er5, h⟩ := h
      refine v_callV (na := 1) (As := [vI r4]) (rest := [vI s1.1]) (ci := 3) (q := (RX3, TX3, 8)) E gw3_113 (by decide +kernel) rfl rfl (by decide) (kX3_indexOf l er5).2 (kX3_indexOf l er5).1 rfl rfl dX3_middle_17 ⟨Nat.le_of_ble_eq_true rfl, Nat.le_of_ble_eq_true rfl⟩ ⟨(Nat.le_of_ble_eq_true rfl), (Nat.le_of_ble_eq_true rfl)⟩ (Nat.le_of_ble_eq_true rfl) ?_
      refine v_iadd E dX3_middle_20 ?_
      refine v_istore_n (lv' := [some (vR (some o1)), some (vI a1), some (vI (s1.1 + r5)), some (vI s1.2)]) E dX3_middle_21 (by decide) rfl ?_
      refine v_iinc (v := (s1.2 + 1)) (lv' := [some (vR (some o1)), some (vI a1), some (vI (s1.1 + r5)), some (vI (s1.2 + 1))]) E dX3_middle_22 rfl (by rfl) (by decide) rfl ?_
      refine v_goto (tgt := 4) E dX3_middle_25 (by decide) ?_
      replace h := Option.some.inj h
      subst h
      exact hx
  · refine v_iload_n E dX3_middle_28 rfl ?_
    refine v_iconst (v := 4) E dX3_middle_29 (by decide) ?_
    replace h := bnd_e h
    obtain ⟨v7, ev7, h⟩ := h
    refine v_idiv E ev7 dX3_middle_30 ?_
    replace h := Option.some.inj h
    subst h
    refine v_widen (k' := 0) (n' := 0) (Nat.le_of_ble_eq_true rfl) (Nat.le_of_ble_eq_true rfl) ?_
    exact v_iret E dX3_middle_31
noncomputable def fX11_letter (A0 : AH) (o0 : Option Nat) (a1 : Int32) (a2 : Int32) (a3 : Int32) : Option (Int32 × AH) :=
  (rcv A0 12 o0).bind fun o0 =>
  (gR A0 12 352 ((some o0))).bind fun v1 =>
  (fX8_get A0 v1 a1).bind fun r2 =>
  if r2 = none then
    some (((-1000000001), A0))
  else
    (fX10_row A0 r2).bind fun r3 =>
    (fX7_hasLetter A0 r3 a2).bind fun r4 =>
    if r4 = 0 then
      some (((-1000000001), A0))
    else
      jp (fun (x27 : Unit) =>
        (gR A0 12 359 ((some o0))).bind fun v28 =>
        (fX10_faces A0 r2 v28).bind fun r29 =>
        (fX3_faceOf r29.2 r29.1 a2 ((a3 - 3))).bind fun r30 =>
        some ((r30, r29.2))) fun K5 =>
        if a3 = 0 then
          (fX10_row A0 r2).bind fun r7 =>
          (fX7_placeOf A0 r7 a2 0).bind fun r8 =>
          some ((r8, A0))
        else if a3 = 1 then
          (fX10_row A0 r2).bind fun r10 =>
          (fX7_placeOf A0 r10 a2 1).bind fun r11 =>
          some ((r11, A0))
        else if a3 = 2 then
          (fX10_row A0 r2).bind fun r13 =>
          (fX7_betweenSet A0 r13 a2).bind fun r14 =>
          some ((r14, A0))
        else if a3 = 3 then
          K5 ()
        else if a3 = 4 then
          K5 ()
        else if a3 = 5 then
          K5 ()
        else if a3 = 6 then
          K5 ()
        else if a3 = 7 then
          (gR A0 12 359 ((some o0))).bind fun v20 =>
          (fX10_faces A0 r2 v20).bind fun r21 =>
          (fX3_isPlane r21.2 r21.1).bind fun r22 =>
          if r22 = 0 then
            some (((-1), r21.2))
          else
            (gR r21.2 12 359 ((some o0))).bind fun v23 =>
            (fX10_faces r21.2 r2 v23).bind fun r24 =>
            (fX3_middle r24.2 r24.1 a2).bind fun r25 =>
            some (((r25 + 100), r24.2))
        else 
          some (((-1000000002), A0))
set_option maxRecDepth 100000 in
set_option maxHeartbeats 4000000 in
theorem kX11_letter (l : Launch) {A0 : AH} {o0 : Option Nat} {a1 : Int32} {a2 : Int32} {a3 : Int32} {r : Int32 × AH} (h : fX11_letter A0 o0 a1 a2 a3 = some r) : (∃ a, o0 = some a ∧ Hk A0 a = 12) ∧ Cn l yX11_letter cX11_letter 5 (some .int) 6 134 14 336 [vR o0, vI a1, vI a2, vI a3] A0 (some (vI r.1)) r.2 := by
  unfold fX11_letter at h
  replace h := bnd_e h
  obtain ⟨o1, e1, h⟩ := h
  obtain ⟨rfl, hk0⟩ := rcv_e e1
  refine ⟨⟨o1, rfl, hk0⟩, ?_⟩
  refine Cn.of (pad := 1) (lv0 := [some (vR (some o1)), some (vI a1), some (vI a2), some (vI a3), none]) (by decide +kernel) (Nat.le_of_ble_eq_true rfl) rfl ?_
  intro p e s m below meth c base D cy E
  generalize (List.map toV [vR (some o1), vI a1, vI a2, vI a3]).toArray = ar at E ⊢
  have E : EN p s m ar meth c D cy RX11 cX11_letter 5 (some .int) "letter" := E
  refine v_aload_n E dX11_letter_0 rfl ?_
  replace h := bnd_e h
  obtain ⟨v1, ev1, h⟩ := h
  refine g11_10 E ev1 dX11_letter_1 ?_
  refine v_iload_n E dX11_letter_4 rfl ?_
  replace h := bnd_e h
  obtain ⟨r2, er2, h⟩ := h
  refine v_callV (na := 1) (As := [vI a1]) (rest := []) (ci := 8) (q := (RX8, TX8, 2)) E gw11_110 (by decide +kernel) rfl rfl (by decide) (kX8_get l er2).2 (kX8_get l er2).1 rfl rfl dX11_letter_5 ⟨Nat.le_of_ble_eq_true rfl, Nat.le_of_ble_eq_true rfl⟩ ⟨(Nat.le_of_ble_eq_true rfl), (Nat.le_of_ble_eq_true rfl)⟩ (Nat.le_of_ble_eq_true rfl) ?_
  refine v_astore (lv' := [some (vR (some o1)), some (vI a1), some (vI a2), some (vI a3), some (vR r2)]) E dX11_letter_8 (by decide) rfl ?_
  refine v_aload E dX11_letter_10 rfl ?_
  refine v_ifnull (tgt := 27) E dX11_letter_12 (by decide) (fun c32 => ?_) (fun c32 => ?_)
  · rw [if_pos c32] at h
    refine v_ldc (v := (-1000000001)) E dX11_letter_27 q516 ?_
    replace h := Option.some.inj h
    subst h
    refine v_widen (k' := 14) (n' := 336) (Nat.le_of_ble_eq_true rfl) (Nat.le_of_ble_eq_true rfl) ?_
    exact v_iret E dX11_letter_29
  · rw [if_neg c32] at h
    refine v_aload E dX11_letter_15 rfl ?_
    replace h := bnd_e h
    obtain ⟨r3, er3, h⟩ := h
    refine v_callV (na := 0) (As := []) (rest := []) (ci := 10) (q := (RX10, TX10, 3)) E gw11_115 (by decide +kernel) rfl rfl (by decide) (kX10_row l er3).2 (kX10_row l er3).1 rfl rfl dX11_letter_17 ⟨Nat.le_of_ble_eq_true rfl, Nat.le_of_ble_eq_true rfl⟩ ⟨(Nat.le_of_ble_eq_true rfl), (Nat.le_of_ble_eq_true rfl)⟩ (Nat.le_of_ble_eq_true rfl) ?_
    refine v_iload_n E dX11_letter_20 rfl ?_
    replace h := bnd_e h
    obtain ⟨r4, er4, h⟩ := h
    refine v_callV (na := 1) (As := [vI a2]) (rest := []) (ci := 7) (q := (RX7, TX7, 14)) E gw11_179 (by decide +kernel) rfl rfl (by decide) (kX7_hasLetter l er4).2 (kX7_hasLetter l er4).1 rfl rfl dX11_letter_21 ⟨Nat.le_of_ble_eq_true rfl, Nat.le_of_ble_eq_true rfl⟩ ⟨(Nat.le_of_ble_eq_true rfl), (Nat.le_of_ble_eq_true rfl)⟩ (Nat.le_of_ble_eq_true rfl) ?_
    refine v_if_ne (tgt := 30) E dX11_letter_24 (by decide) (fun c31 => ?_) (fun c31 => ?_)
    · rw [if_neg c31] at h
      refine v_iload_n E dX11_letter_30 rfl ?_
      refine jp_use h (fun K5 eK5 h => ?_)
      have hK5 : ∀ x27 : Unit, K5 x27 = some r → V p l e { frames := 6, cells := 14, slots := 336, locals := 134 } s m ar below meth c (MQ below (Qd base D cy (some (vI r.1)) r.2) ar s 14 336 (fun q => base ≤ q)) base D cy 5 108 [some (vR (some o1)), none, some (vI a2), some (vI a3), some (vR r2)] [] A0 0 0 := by
        intro x27 h
        rw [eK5] at h
        try dsimp only at h
        refine v_aload E dX11_letter_108 rfl ?_
        refine v_aload_n E dX11_letter_110 rfl ?_
        replace h := bnd_e h
        obtain ⟨v28, ev28, h⟩ := h
        refine g11_61 E ev28 dX11_letter_111 ?_
        replace h := bnd_e h
        obtain ⟨r29, er29, h⟩ := h
        refine v_callV (na := 1) (As := [vR v28]) (rest := []) (ci := 10) (q := (RX10, TX10, 3)) E gw11_136 (by decide +kernel) rfl rfl (by decide) (kX10_faces l er29).2 (kX10_faces l er29).1 rfl rfl dX11_letter_114 ⟨Nat.le_of_ble_eq_true rfl, Nat.le_of_ble_eq_true rfl⟩ ⟨(Nat.le_of_ble_eq_true rfl), (Nat.le_of_ble_eq_true rfl)⟩ (Nat.le_of_ble_eq_true rfl) ?_
        refine v_widen (k' := 7) (n' := 168) (Nat.le_of_ble_eq_true rfl) (Nat.le_of_ble_eq_true rfl) ?_
        refine v_iload_n E dX11_letter_117 rfl ?_
        refine v_iload_n E dX11_letter_118 rfl ?_
        refine v_iconst (v := 3) E dX11_letter_119 (by decide) ?_
        refine v_isub E dX11_letter_120 ?_
        replace h := bnd_e h
        obtain ⟨r30, er30, h⟩ := h
        refine v_callV (na := 2) (As := [vI a2, vI (a3 - 3)]) (rest := []) (ci := 3) (q := (RX3, TX3, 8)) E gw11_189 (by decide +kernel) rfl rfl (by decide) (kX3_faceOf l er30).2 (kX3_faceOf l er30).1 rfl rfl dX11_letter_121 ⟨Nat.le_of_ble_eq_true rfl, Nat.le_of_ble_eq_true rfl⟩ ⟨(Nat.le_of_ble_eq_true rfl), (Nat.le_of_ble_eq_true rfl)⟩ (Nat.le_of_ble_eq_true rfl) ?_
        replace h := Option.some.inj h
        subst h
        refine v_widen (k' := 14) (n' := 336) (Nat.le_of_ble_eq_true rfl) (Nat.le_of_ble_eq_true rfl) ?_
        exact v_iret E dX11_letter_124
      refine v_tsw (tgts := [76, 87, 98, 108, 108, 108, 108, 125, 161]) E dX11_letter_31 (fun j off hj => ?_) (by decide) (by decide) (by decide) (by decide) (fun j t hj ht => ?_)
      · match j, hj with
        | 0, hj => cases hj; exact ⟨_, rfl, by decide⟩
        | 1, hj => cases hj; exact ⟨_, rfl, by decide⟩
        | 2, hj => cases hj; exact ⟨_, rfl, by decide⟩
        | 3, hj => cases hj; exact ⟨_, rfl, by decide⟩
        | 4, hj => cases hj; exact ⟨_, rfl, by decide⟩
        | 5, hj => cases hj; exact ⟨_, rfl, by decide⟩
        | 6, hj => cases hj; exact ⟨_, rfl, by decide⟩
        | 7, hj => cases hj; exact ⟨_, rfl, by decide⟩
        | j + 8, hj => simp at hj
      · by_cases c6 : a3 = 0
        · rw [if_pos c6] at h
          rw [c6] at hj
          obtain rfl : j = 0 := hj.symm
          cases ht
          refine v_aload E dX11_letter_76 rfl ?_
          replace h := bnd_e h
          obtain ⟨r7, er7, h⟩ := h
          refine v_callV (na := 0) (As := []) (rest := []) (ci := 10) (q := (RX10, TX10, 3)) E gw11_115 (by decide +kernel) rfl rfl (by decide) (kX10_row l er7).2 (kX10_row l er7).1 rfl rfl dX11_letter_78 ⟨Nat.le_of_ble_eq_true rfl, Nat.le_of_ble_eq_true rfl⟩ ⟨(Nat.le_of_ble_eq_true rfl), (Nat.le_of_ble_eq_true rfl)⟩ (Nat.le_of_ble_eq_true rfl) ?_
          refine v_iload_n E dX11_letter_81 rfl ?_
          refine v_iconst (v := 0) E dX11_letter_82 (by decide) ?_
          replace h := bnd_e h
          obtain ⟨r8, er8, h⟩ := h
          refine v_callV (na := 2) (As := [vI a2, vI 0]) (rest := []) (ci := 7) (q := (RX7, TX7, 14)) E gw11_182 (by decide +kernel) rfl rfl (by decide) (kX7_placeOf l er8).2 (kX7_placeOf l er8).1 rfl rfl dX11_letter_83 ⟨Nat.le_of_ble_eq_true rfl, Nat.le_of_ble_eq_true rfl⟩ ⟨(Nat.le_of_ble_eq_true rfl), (Nat.le_of_ble_eq_true rfl)⟩ (Nat.le_of_ble_eq_true rfl) ?_
          replace h := Option.some.inj h
          subst h
          refine v_widen (k' := 14) (n' := 336) (Nat.le_of_ble_eq_true rfl) (Nat.le_of_ble_eq_true rfl) ?_
          exact v_iret E dX11_letter_86
        rw [if_neg c6] at h
        by_cases c9 : a3 = 1
        · rw [if_pos c9] at h
          rw [c9] at hj
          obtain rfl : j = 1 := hj.symm
          cases ht
          refine v_aload E dX11_letter_87 rfl ?_
          replace h := bnd_e h
          obtain ⟨r10, er10, h⟩ := h
          refine v_callV (na := 0) (As := []) (rest := []) (ci := 10) (q := (RX10, TX10, 3)) E gw11_115 (by decide +kernel) rfl rfl (by decide) (kX10_row l er10).2 (kX10_row l er10).1 rfl rfl dX11_letter_89 ⟨Nat.le_of_ble_eq_true rfl, Nat.le_of_ble_eq_true rfl⟩ ⟨(Nat.le_of_ble_eq_true rfl), (Nat.le_of_ble_eq_true rfl)⟩ (Nat.le_of_ble_eq_true rfl) ?_
          refine v_iload_n E dX11_letter_92 rfl ?_
          refine v_iconst (v := 1) E dX11_letter_93 (by decide) ?_
          replace h := bnd_e h
          obtain ⟨r11, er11, h⟩ := h
          refine v_callV (na := 2) (As := [vI a2, vI 1]) (rest := []) (ci := 7) (q := (RX7, TX7, 14)) E gw11_182 (by decide +kernel) rfl rfl (by decide) (kX7_placeOf l er11).2 (kX7_placeOf l er11).1 rfl rfl dX11_letter_94 ⟨Nat.le_of_ble_eq_true rfl, Nat.le_of_ble_eq_true rfl⟩ ⟨(Nat.le_of_ble_eq_true rfl), (Nat.le_of_ble_eq_true rfl)⟩ (Nat.le_of_ble_eq_true rfl) ?_
          replace h := Option.some.inj h
          subst h
          refine v_widen (k' := 14) (n' := 336) (Nat.le_of_ble_eq_true rfl) (Nat.le_of_ble_eq_true rfl) ?_
          exact v_iret E dX11_letter_97
        rw [if_neg c9] at h
        by_cases c12 : a3 = 2
        · rw [if_pos c12] at h
          rw [c12] at hj
          obtain rfl : j = 2 := hj.symm
          cases ht
          refine v_aload E dX11_letter_98 rfl ?_
          replace h := bnd_e h
          obtain ⟨r13, er13, h⟩ := h
          refine v_callV (na := 0) (As := []) (rest := []) (ci := 10) (q := (RX10, TX10, 3)) E gw11_115 (by decide +kernel) rfl rfl (by decide) (kX10_row l er13).2 (kX10_row l er13).1 rfl rfl dX11_letter_100 ⟨Nat.le_of_ble_eq_true rfl, Nat.le_of_ble_eq_true rfl⟩ ⟨(Nat.le_of_ble_eq_true rfl), (Nat.le_of_ble_eq_true rfl)⟩ (Nat.le_of_ble_eq_true rfl) ?_
          refine v_iload_n E dX11_letter_103 rfl ?_
          replace h := bnd_e h
          obtain ⟨r14, er14, h⟩ := h
          refine v_callV (na := 1) (As := [vI a2]) (rest := []) (ci := 7) (q := (RX7, TX7, 14)) E gw11_186 (by decide +kernel) rfl rfl (by decide) (kX7_betweenSet l er14).2 (kX7_betweenSet l er14).1 rfl rfl dX11_letter_104 ⟨Nat.le_of_ble_eq_true rfl, Nat.le_of_ble_eq_true rfl⟩ ⟨(Nat.le_of_ble_eq_true rfl), (Nat.le_of_ble_eq_true rfl)⟩ (Nat.le_of_ble_eq_true rfl) ?_
          replace h := Option.some.inj h
          subst h
          refine v_widen (k' := 14) (n' := 336) (Nat.le_of_ble_eq_true rfl) (Nat.le_of_ble_eq_true rfl) ?_
          exact v_iret E dX11_letter_107
        rw [if_neg c12] at h
        by_cases c15 : a3 = 3
        · rw [if_pos c15] at h
          rw [c15] at hj
          obtain rfl : j = 3 := hj.symm
          cases ht
          refine v_drop (lv' := [some (vR (some o1)), none, some (vI a2), some (vI a3), some (vR r2)]) [1] rfl ?_
          exact hK5 () h
        rw [if_neg c15] at h
        by_cases c16 : a3 = 4
        · rw [if_pos c16] at h
          rw [c16] at hj
          obtain rfl : j = 4 := hj.symm
          cases ht
          refine v_drop (lv' := [some (vR (some o1)), none, some (vI a2), some (vI a3), some (vR r2)]) [1] rfl ?_
          exact hK5 () h
        rw [if_neg c16] at h
        by_cases c17 : a3 = 5
        · rw [if_pos c17] at h
          rw [c17] at hj
          obtain rfl : j = 5 := hj.symm
          cases ht
          refine v_drop (lv' := [some (vR (some o1)), none, some (vI a2), some (vI a3), some (vR r2)]) [1] rfl ?_
          exact hK5 () h
        rw [if_neg c17] at h
        by_cases c18 : a3 = 6
        · rw [if_pos c18] at h
          rw [c18] at hj
          obtain rfl : j = 6 := hj.symm
          cases ht
          refine v_drop (lv' := [some (vR (some o1)), none, some (vI a2), some (vI a3), some (vR r2)]) [1] rfl ?_
          exact hK5 () h
        rw [if_neg c18] at h
        by_cases c19 : a3 = 7
        · rw [if_pos c19] at h
          rw [c19] at hj
          obtain rfl : j = 7 := hj.symm
          cases ht
          refine v_aload E dX11_letter_125 rfl ?_
          refine v_aload_n E dX11_letter_127 rfl ?_
          replace h := bnd_e h
          obtain ⟨v20, ev20, h⟩ := h
          refine g11_61 E ev20 dX11_letter_128 ?_
          replace h := bnd_e h
          obtain ⟨r21, er21, h⟩ := h
          refine v_callV (na := 1) (As := [vR v20]) (rest := []) (ci := 10) (q := (RX10, TX10, 3)) E gw11_136 (by decide +kernel) rfl rfl (by decide) (kX10_faces l er21).2 (kX10_faces l er21).1 rfl rfl dX11_letter_131 ⟨Nat.le_of_ble_eq_true rfl, Nat.le_of_ble_eq_true rfl⟩ ⟨(Nat.le_of_ble_eq_true rfl), (Nat.le_of_ble_eq_true rfl)⟩ (Nat.le_of_ble_eq_true rfl) ?_
          refine v_widen (k' := 7) (n' := 168) (Nat.le_of_ble_eq_true rfl) (Nat.le_of_ble_eq_true rfl) ?_
          replace h := bnd_e h
          obtain ⟨r22, er22, h⟩ := h
          refine v_callV (na := 0) (As := []) (rest := []) (ci := 3) (q := (RX3, TX3, 8)) E gw11_192 (by decide +kernel) rfl rfl (by decide) (kX3_isPlane l er22).2 (kX3_isPlane l er22).1 rfl rfl dX11_letter_134 ⟨Nat.le_of_ble_eq_true rfl, Nat.le_of_ble_eq_true rfl⟩ ⟨(Nat.le_of_ble_eq_true rfl), (Nat.le_of_ble_eq_true rfl)⟩ (Nat.le_of_ble_eq_true rfl) ?_
          refine v_if_eq (tgt := 159) E dX11_letter_137 (by decide) (fun c26 => ?_) (fun c26 => ?_)
          · rw [if_pos c26] at h
            refine v_iconst (v := (-1)) E dX11_letter_159 (by decide) ?_
            replace h := Option.some.inj h
            subst h
            refine v_widen (k' := 14) (n' := 336) (Nat.le_of_ble_eq_true rfl) (Nat.le_of_ble_eq_true rfl) ?_
            exact v_iret E dX11_letter_160
          · rw [if_neg c26] at h
            refine v_aload E dX11_letter_140 rfl ?_
            refine v_aload_n E dX11_letter_142 rfl ?_
            replace h := bnd_e h
            obtain ⟨v23, ev23, h⟩ := h
            refine g11_61 E ev23 dX11_letter_143 ?_
            replace h := bnd_e h
            obtain ⟨r24, er24, h⟩ := h
            refine v_callV (na := 1) (As := [vR v23]) (rest := []) (ci := 10) (q := (RX10, TX10, 3)) E gw11_136 (by decide +kernel) rfl rfl (by decide) (kX10_faces l er24).2 (kX10_faces l er24).1 rfl rfl dX11_letter_146 ⟨Nat.le_of_ble_eq_true rfl, Nat.le_of_ble_eq_true rfl⟩ ⟨(Nat.le_of_ble_eq_true rfl), (Nat.le_of_ble_eq_true rfl)⟩ (Nat.le_of_ble_eq_true rfl) ?_
            refine v_widen (k' := 14) (n' := 336) (Nat.le_of_ble_eq_true rfl) (Nat.le_of_ble_eq_true rfl) ?_
            refine v_iload_n E dX11_letter_149 rfl ?_
            replace h := bnd_e h
            obtain ⟨r25, er25, h⟩ := h
            refine v_callV (na := 1) (As := [vI a2]) (rest := []) (ci := 3) (q := (RX3, TX3, 8)) E gw11_195 (by decide +kernel) rfl rfl (by decide) (kX3_middle l er25).2 (kX3_middle l er25).1 rfl rfl dX11_letter_150 ⟨Nat.le_of_ble_eq_true rfl, Nat.le_of_ble_eq_true rfl⟩ ⟨(Nat.le_of_ble_eq_true rfl), (Nat.le_of_ble_eq_true rfl)⟩ (Nat.le_of_ble_eq_true rfl) ?_
            refine v_bipush (v := 100) E dX11_letter_153 (by decide) ?_
            refine v_iadd E dX11_letter_155 ?_
            refine v_goto (tgt := 160) E dX11_letter_156 (by decide) ?_
            replace h := Option.some.inj h
            subst h
            refine v_widen (k' := 14) (n' := 336) (Nat.le_of_ble_eq_true rfl) (Nat.le_of_ble_eq_true rfl) ?_
            exact v_iret E dX11_letter_160
        rw [if_neg c19] at h
        have hd : t = 161 := by
          match j, hj, ht with
          | 0, hj, ht => exact absurd (Int32.toInt_inj.mp ((swi_val hj (by decide)).trans (by decide : (0 : Int) + ((0 : Nat) : Int) = (0 : Int32).toInt))) c6
          | 1, hj, ht => exact absurd (Int32.toInt_inj.mp ((swi_val hj (by decide)).trans (by decide : (0 : Int) + ((1 : Nat) : Int) = (1 : Int32).toInt))) c9
          | 2, hj, ht => exact absurd (Int32.toInt_inj.mp ((swi_val hj (by decide)).trans (by decide : (0 : Int) + ((2 : Nat) : Int) = (2 : Int32).toInt))) c12
          | 3, hj, ht => exact absurd (Int32.toInt_inj.mp ((swi_val hj (by decide)).trans (by decide : (0 : Int) + ((3 : Nat) : Int) = (3 : Int32).toInt))) c15
          | 4, hj, ht => exact absurd (Int32.toInt_inj.mp ((swi_val hj (by decide)).trans (by decide : (0 : Int) + ((4 : Nat) : Int) = (4 : Int32).toInt))) c16
          | 5, hj, ht => exact absurd (Int32.toInt_inj.mp ((swi_val hj (by decide)).trans (by decide : (0 : Int) + ((5 : Nat) : Int) = (5 : Int32).toInt))) c17
          | 6, hj, ht => exact absurd (Int32.toInt_inj.mp ((swi_val hj (by decide)).trans (by decide : (0 : Int) + ((6 : Nat) : Int) = (6 : Int32).toInt))) c18
          | 7, hj, ht => exact absurd (Int32.toInt_inj.mp ((swi_val hj (by decide)).trans (by decide : (0 : Int) + ((7 : Nat) : Int) = (7 : Int32).toInt))) c19
          | 8, hj, ht => cases ht; rfl
          | j + 9, hj, ht => simp at ht
        subst hd
        refine v_ldc (v := (-1000000002)) E dX11_letter_161 q262 ?_
        replace h := Option.some.inj h
        subst h
        refine v_widen (k' := 14) (n' := 336) (Nat.le_of_ble_eq_true rfl) (Nat.le_of_ble_eq_true rfl) ?_
        exact v_iret E dX11_letter_163
    · rw [if_pos c31] at h
      refine v_ldc (v := (-1000000001)) E dX11_letter_27 q516 ?_
      replace h := Option.some.inj h
      subst h
      refine v_widen (k' := 14) (n' := 336) (Nat.le_of_ble_eq_true rfl) (Nat.le_of_ble_eq_true rfl) ?_
      exact v_iret E dX11_letter_29
noncomputable def fX3_sizeOf (A0 : AH) (o0 : Option Nat) (a1 : Int32) : Option (Int32) :=
  (rcv A0 4 o0).bind fun o0 =>
  (fX3_hasFace A0 ((some o0)) a1).bind fun r1 =>
  if r1 = 0 then
    some 0
  else
    (gR A0 4 99 ((some o0))).bind fun v2 =>
    (aI A0 14 v2 a1).bind fun v3 =>
    some v3
set_option maxRecDepth 100000 in
set_option maxHeartbeats 4000000 in
theorem kX3_sizeOf (l : Launch) {A0 : AH} {o0 : Option Nat} {a1 : Int32} {r : Int32} (h : fX3_sizeOf A0 o0 a1 = some r) : (∃ a, o0 = some a ∧ Hk A0 a = 4) ∧ Cn l yX3_sizeOf cX3_sizeOf 2 (some .int) 1 21 0 0 [vR o0, vI a1] A0 (some (vI r)) A0 := by
  unfold fX3_sizeOf at h
  replace h := bnd_e h
  obtain ⟨o1, e1, h⟩ := h
  obtain ⟨rfl, hk0⟩ := rcv_e e1
  refine ⟨⟨o1, rfl, hk0⟩, ?_⟩
  refine Cn.of (pad := 0) (lv0 := [some (vR (some o1)), some (vI a1)]) (by decide +kernel) (Nat.le_of_ble_eq_true rfl) rfl ?_
  intro p e s m below meth c base D cy E
  generalize (List.map toV [vR (some o1), vI a1]).toArray = ar at E ⊢
  have E : EN p s m ar meth c D cy RX3 cX3_sizeOf 2 (some .int) "sizeOf" := E
  refine v_aload_n E dX3_sizeOf_0 rfl ?_
  refine v_iload_n E dX3_sizeOf_1 rfl ?_
  replace h := bnd_e h
  obtain ⟨r1, er1, h⟩ := h
  refine v_callV (na := 1) (As := [vI a1]) (rest := []) (ci := 3) (q := (RX3, TX3, 8)) E gw3_106 (by decide +kernel) rfl rfl (by decide) (kX3_hasFace l er1).2 (kX3_hasFace l er1).1 rfl rfl dX3_sizeOf_2 ⟨Nat.le_of_ble_eq_true rfl, Nat.le_of_ble_eq_true rfl⟩ ⟨(Nat.le_of_ble_eq_true rfl), (Nat.le_of_ble_eq_true rfl)⟩ (Nat.le_of_ble_eq_true rfl) ?_
  refine v_if_eq (tgt := 17) E dX3_sizeOf_5 (by decide) (fun c4 => ?_) (fun c4 => ?_)
  · rw [if_pos c4] at h
    refine v_iconst (v := 0) E dX3_sizeOf_17 (by decide) ?_
    replace h := Option.some.inj h
    subst h
    refine v_widen (k' := 0) (n' := 0) (Nat.le_of_ble_eq_true rfl) (Nat.le_of_ble_eq_true rfl) ?_
    exact v_iret E dX3_sizeOf_18
  · rw [if_neg c4] at h
    refine v_aload_n E dX3_sizeOf_8 rfl ?_
    replace h := bnd_e h
    obtain ⟨v2, ev2, h⟩ := h
    refine g3_33 E ev2 dX3_sizeOf_9 ?_
    refine v_iload_n E dX3_sizeOf_12 rfl ?_
    replace h := bnd_e h
    obtain ⟨v3, ev3, h⟩ := h
    refine v_iaload E ev3 dX3_sizeOf_13 ?_
    refine v_goto (tgt := 18) E dX3_sizeOf_14 (by decide) ?_
    replace h := Option.some.inj h
    subst h
    refine v_widen (k' := 0) (n' := 0) (Nat.le_of_ble_eq_true rfl) (Nat.le_of_ble_eq_true rfl) ?_
    exact v_iret E dX3_sizeOf_18
noncomputable def fX3_turnsAround (A0 : AH) (o0 : Option Nat) (a1 : Int32) : Option (Int32) :=
  (rcv A0 4 o0).bind fun o0 =>
  (fX3_indexOf A0 ((some o0)) a1).bind fun r1 =>
  (iter (S := Int32 × Int32) (T := Int32) (fun s2 =>
      (gI A0 4 97 ((some o0))).bind fun v5 =>
      if v5 ≤ s2.2 then
        some (.inr s2.1)
      else
        (gR A0 4 102 ((some o0))).bind fun v6 =>
        (aI A0 14 v6 s2.2).bind fun v7 =>
        some (.inl ((s2.1 + v7), (s2.2 + 1)))) (((-2) * r1), 0)).bind fun t3 =>
  (iter (S := Int32 × Int32) (T := Int32) (fun s9 =>
      (gR A0 4 96 ((some o0))).bind fun v12 =>
      (fX7_letterCount A0 v12).bind fun r13 =>
      if r13 ≤ s9.2 then
        some (.inr s9.1)
      else
        (fX3_middle A0 ((some o0)) s9.2).bind fun r14 =>
        some (.inl ((s9.1 - r14), (s9.2 + 1)))) (t3, 0)).bind fun t10 =>
  some t10
set_option maxRecDepth 100000 in
set_option maxHeartbeats 4000000 in
theorem kX3_turnsAround (l : Launch) {A0 : AH} {o0 : Option Nat} {a1 : Int32} {r : Int32} (h : fX3_turnsAround A0 o0 a1 = some r) : (∃ a, o0 = some a ∧ Hk A0 a = 4) ∧ Cn l yX3_turnsAround cX3_turnsAround 4 (some .int) 3 67 0 0 [vR o0, vI a1] A0 (some (vI r)) A0 := by
  unfold fX3_turnsAround at h
  replace h := bnd_e h
  obtain ⟨o1, e1, h⟩ := h
  obtain ⟨rfl, hk0⟩ := rcv_e e1
  refine ⟨⟨o1, rfl, hk0⟩, ?_⟩
  refine Cn.of (pad := 2) (lv0 := [some (vR (some o1)), some (vI a1), none, none]) (by decide +kernel) (Nat.le_of_ble_eq_true rfl) rfl ?_
  intro p e s m below meth c base D cy E
  generalize (List.map toV [vR (some o1), vI a1]).toArray = ar at E ⊢
  have E : EN p s m ar meth c D cy RX3 cX3_turnsAround 4 (some .int) "turnsAround" := E
  refine v_bipush (v := (-2)) E dX3_turnsAround_0 (by decide) ?_
  refine v_aload_n E dX3_turnsAround_2 rfl ?_
  refine v_iload_n E dX3_turnsAround_3 rfl ?_
  replace h := bnd_e h
  obtain ⟨r1, er1, h⟩ := h
  refine v_callV (na := 1) (As := [vI a1]) (rest := [vI (-2)]) (ci := 3) (q := (RX3, TX3, 8)) E gw3_113 (by decide +kernel) rfl rfl (by decide) (kX3_indexOf l er1).2 (kX3_indexOf l er1).1 rfl rfl dX3_turnsAround_4 ⟨Nat.le_of_ble_eq_true rfl, Nat.le_of_ble_eq_true rfl⟩ ⟨(Nat.le_of_ble_eq_true rfl), (Nat.le_of_ble_eq_true rfl)⟩ (Nat.le_of_ble_eq_true rfl) ?_
  refine v_imul E dX3_turnsAround_7 ?_
  refine v_istore_n (lv' := [some (vR (some o1)), some (vI a1), some (vI ((-2) * r1)), none]) E dX3_turnsAround_8 (by decide) rfl ?_
  refine v_iconst (v := 0) E dX3_turnsAround_9 (by decide) ?_
  refine v_istore_n (lv' := [some (vR (some o1)), some (vI a1), some (vI ((-2) * r1)), some (vI 0)]) E dX3_turnsAround_10 (by decide) rfl ?_
  refine v_drop (lv' := [some (vR (some o1)), none, some (vI ((-2) * r1)), some (vI 0)]) [1] rfl ?_
  replace h := bnd_e h
  obtain ⟨t3, et3, h⟩ := h
  refine iter_V (S := Int32 × Int32) (T := Int32) (Ph := fun s2 => V p l e { frames := 3, cells := 0, slots := 0, locals := 67 } s m ar below meth c (MQ below (Qd base D cy (some (vI r)) A0) ar s 0 0 (fun q => base ≤ q)) base D cy 4 11 [some (vR (some o1)), none, some (vI s2.1), some (vI s2.2)] [] A0 0 0) (Pt := fun t3 => V p l e { frames := 3, cells := 0, slots := 0, locals := 67 } s m ar below meth c (MQ below (Qd base D cy (some (vI r)) A0) ar s 0 0 (fun q => base ≤ q)) base D cy 4 34 [some (vR (some o1)), none, some (vI t3), none] [] A0 0 0) et3 (fun s2 w4 h hx => ?_) ?_
  · try dsimp only at h
    refine v_iload_n E dX3_turnsAround_11 rfl ?_
    refine v_aload_n E dX3_turnsAround_12 rfl ?_
    replace h := bnd_e h
    obtain ⟨v5, ev5, h⟩ := h
    refine g3_19 E ev5 dX3_turnsAround_13 ?_
    refine v_icmp_ge (tgt := 34) E dX3_turnsAround_16 (by decide) (fun c8 => ?_) (fun c8 => ?_)
    · rw [if_pos c8] at h
      refine v_drop (lv' := [some (vR (some o1)), none, some (vI s2.1), none]) [3] rfl ?_
      replace h := Option.some.inj h
      subst h
      exact hx
    · rw [if_neg c8] at h
      refine v_iload_n E dX3_turnsAround_19 rfl ?_
      refine v_aload_n E dX3_turnsAround_20 rfl ?_
      replace h := bnd_e h
      obtain ⟨v6, ev6, h⟩ := h
      refine g3_45 E ev6 dX3_turnsAround_21 ?_
      refine v_iload_n E dX3_turnsAround_24 rfl ?_
      replace h := bnd_e h
      obtain ⟨v7, ev7, h⟩ := h
      refine v_iaload E ev7 dX3_turnsAround_25 ?_
      refine v_iadd E dX3_turnsAround_26 ?_
      refine v_istore_n (lv' := [some (vR (some o1)), none, some (vI (s2.1 + v7)), some (vI s2.2)]) E dX3_turnsAround_27 (by decide) rfl ?_
      refine v_iinc (v := (s2.2 + 1)) (lv' := [some (vR (some o1)), none, some (vI (s2.1 + v7)), some (vI (s2.2 + 1))]) E dX3_turnsAround_28 rfl (by rfl) (by decide) rfl ?_
      refine v_goto (tgt := 11) E dX3_turnsAround_31 (by decide) ?_
      replace h := Option.some.inj h
      subst h
      exact hx
  · refine v_iconst (v := 0) E dX3_turnsAround_34 (by decide) ?_
    refine v_istore_n (lv' := [some (vR (some o1)), none, some (vI t3), some (vI 0)]) E dX3_turnsAround_35 (by decide) rfl ?_
    replace h := bnd_e h
    obtain ⟨t10, et10, h⟩ := h
    refine iter_V (S := Int32 × Int32) (T := Int32) (Ph := fun s9 => V p l e { frames := 3, cells := 0, slots := 0, locals := 67 } s m ar below meth c (MQ below (Qd base D cy (some (vI r)) A0) ar s 0 0 (fun q => base ≤ q)) base D cy 4 36 [some (vR (some o1)), none, some (vI s9.1), some (vI s9.2)] [] A0 0 0) (Pt := fun t10 => V p l e { frames := 3, cells := 0, slots := 0, locals := 67 } s m ar below meth c (MQ below (Qd base D cy (some (vI r)) A0) ar s 0 0 (fun q => base ≤ q)) base D cy 4 61 [none, none, some (vI t10), none] [] A0 0 0) et10 (fun s9 w11 h hx => ?_) ?_
    · try dsimp only at h
      refine v_iload_n E dX3_turnsAround_36 rfl ?_
      refine v_aload_n E dX3_turnsAround_37 rfl ?_
      replace h := bnd_e h
      obtain ⟨v12, ev12, h⟩ := h
      refine g3_9 E ev12 dX3_turnsAround_38 ?_
      replace h := bnd_e h
      obtain ⟨r13, er13, h⟩ := h
      refine v_callV (na := 0) (As := []) (rest := [vI s9.2]) (ci := 7) (q := (RX7, TX7, 14)) E gw3_23 (by decide +kernel) rfl rfl (by decide) (kX7_letterCount l er13).2 (kX7_letterCount l er13).1 rfl rfl dX3_turnsAround_41 ⟨Nat.le_of_ble_eq_true rfl, Nat.le_of_ble_eq_true rfl⟩ ⟨(Nat.le_of_ble_eq_true rfl), (Nat.le_of_ble_eq_true rfl)⟩ (Nat.le_of_ble_eq_true rfl) ?_
      refine v_icmp_ge (tgt := 61) E dX3_turnsAround_44 (by decide) (fun c15 => ?_) (fun c15 => ?_)
      · rw [if_pos c15] at h
        refine v_drop (lv' := [none, none, some (vI s9.1), none]) [0, 3] rfl ?_
        replace h := Option.some.inj h
        subst h
        exact hx
      · rw [if_neg c15] at h
        refine v_iload_n E dX3_turnsAround_47 rfl ?_
        refine v_aload_n E dX3_turnsAround_48 rfl ?_
        refine v_iload_n E dX3_turnsAround_49 rfl ?_
        replace h := bnd_e h
        obtain ⟨r14, er14, h⟩ := h
        refine v_callV (na := 1) (As := [vI s9.2]) (rest := [vI s9.1]) (ci := 3) (q := (RX3, TX3, 8)) E gw3_119 (by decide +kernel) rfl rfl (by decide) (kX3_middle l er14).2 (kX3_middle l er14).1 rfl rfl dX3_turnsAround_50 ⟨Nat.le_of_ble_eq_true rfl, Nat.le_of_ble_eq_true rfl⟩ ⟨(Nat.le_of_ble_eq_true rfl), (Nat.le_of_ble_eq_true rfl)⟩ (Nat.le_of_ble_eq_true rfl) ?_
        refine v_isub E dX3_turnsAround_53 ?_
        refine v_istore_n (lv' := [some (vR (some o1)), none, some (vI (s9.1 - r14)), some (vI s9.2)]) E dX3_turnsAround_54 (by decide) rfl ?_
        refine v_iinc (v := (s9.2 + 1)) (lv' := [some (vR (some o1)), none, some (vI (s9.1 - r14)), some (vI (s9.2 + 1))]) E dX3_turnsAround_55 rfl (by rfl) (by decide) rfl ?_
        refine v_goto (tgt := 36) E dX3_turnsAround_58 (by decide) ?_
        replace h := Option.some.inj h
        subst h
        exact hx
    · refine v_iload_n E dX3_turnsAround_61 rfl ?_
      replace h := Option.some.inj h
      subst h
      refine v_widen (k' := 0) (n' := 0) (Nat.le_of_ble_eq_true rfl) (Nat.le_of_ble_eq_true rfl) ?_
      exact v_iret E dX3_turnsAround_62
noncomputable def fX11_face (A0 : AH) (o0 : Option Nat) (a1 : Int32) (a2 : Int32) (a3 : Int32) : Option (Int32 × AH) :=
  (rcv A0 12 o0).bind fun o0 =>
  (gR A0 12 352 ((some o0))).bind fun v1 =>
  (fX8_get A0 v1 a1).bind fun r2 =>
  if r2 = none then
    some (((-1000000001), A0))
  else
    (gR A0 12 359 ((some o0))).bind fun v3 =>
    (fX10_faces A0 r2 v3).bind fun r4 =>
    (fX3_hasFace r4.2 r4.1 a2).bind fun r5 =>
    if r5 = 0 then
      some (((-1000000001), r4.2))
    else
      if a3 < 0 then
        some (((-1000000002), r4.2))
      else
        if a3 ≤ 3 then
          (gR r4.2 12 359 ((some o0))).bind fun v6 =>
          (fX10_faces r4.2 r2 v6).bind fun r7 =>
          if a3 = 0 then
            (fX3_sizeOf r7.2 r7.1 a2).bind fun r18 =>
            some ((r18, r7.2))
          else
            (fX3_isPlane r7.2 r7.1).bind fun r8 =>
            if r8 = 0 then
              some (((-1), r7.2))
            else
              if a3 = 1 then
                (fX3_isDark r7.2 r7.1 a2).bind fun r14 =>
                if r14 = 0 then
                  some ((0, r7.2))
                else
                  some ((1, r7.2))
              else
                jp (fun (x13 : Int32) =>
                  some (((x13 + 100), r7.2))) fun K9 =>
                  if a3 = 2 then
                    (fX3_indexOf r7.2 r7.1 a2).bind fun r11 =>
                    K9 r11
                  else
                    (fX3_turnsAround r7.2 r7.1 a2).bind fun r10 =>
                    K9 r10
        else
          some (((-1000000002), r4.2))
set_option maxRecDepth 100000 in
set_option maxHeartbeats 4000000 in
theorem kX11_face (l : Launch) {A0 : AH} {o0 : Option Nat} {a1 : Int32} {a2 : Int32} {a3 : Int32} {r : Int32 × AH} (h : fX11_face A0 o0 a1 a2 a3 = some r) : (∃ a, o0 = some a ∧ Hk A0 a = 12) ∧ Cn l yX11_face cX11_face 6 (some .int) 6 134 14 336 [vR o0, vI a1, vI a2, vI a3] A0 (some (vI r.1)) r.2 := by
  unfold fX11_face at h
  replace h := bnd_e h
  obtain ⟨o1, e1, h⟩ := h
  obtain ⟨rfl, hk0⟩ := rcv_e e1
  refine ⟨⟨o1, rfl, hk0⟩, ?_⟩
  refine Cn.of (pad := 2) (lv0 := [some (vR (some o1)), some (vI a1), some (vI a2), some (vI a3), none, none]) (by decide +kernel) (Nat.le_of_ble_eq_true rfl) rfl ?_
  intro p e s m below meth c base D cy E
  generalize (List.map toV [vR (some o1), vI a1, vI a2, vI a3]).toArray = ar at E ⊢
  have E : EN p s m ar meth c D cy RX11 cX11_face 6 (some .int) "face" := E
  refine v_aload_n E dX11_face_0 rfl ?_
  replace h := bnd_e h
  obtain ⟨v1, ev1, h⟩ := h
  refine g11_10 E ev1 dX11_face_1 ?_
  refine v_iload_n E dX11_face_4 rfl ?_
  replace h := bnd_e h
  obtain ⟨r2, er2, h⟩ := h
  refine v_callV (na := 1) (As := [vI a1]) (rest := []) (ci := 8) (q := (RX8, TX8, 2)) E gw11_110 (by decide +kernel) rfl rfl (by decide) (kX8_get l er2).2 (kX8_get l er2).1 rfl rfl dX11_face_5 ⟨Nat.le_of_ble_eq_true rfl, Nat.le_of_ble_eq_true rfl⟩ ⟨(Nat.le_of_ble_eq_true rfl), (Nat.le_of_ble_eq_true rfl)⟩ (Nat.le_of_ble_eq_true rfl) ?_
  refine v_astore (lv' := [some (vR (some o1)), some (vI a1), some (vI a2), some (vI a3), some (vR r2), none]) E dX11_face_8 (by decide) rfl ?_
  refine v_aload E dX11_face_10 rfl ?_
  refine v_ifnull (tgt := 31) E dX11_face_12 (by decide) (fun c23 => ?_) (fun c23 => ?_)
  · rw [if_pos c23] at h
    refine v_ldc (v := (-1000000001)) E dX11_face_31 q516 ?_
    replace h := Option.some.inj h
    subst h
    refine v_widen (k' := 14) (n' := 336) (Nat.le_of_ble_eq_true rfl) (Nat.le_of_ble_eq_true rfl) ?_
    exact v_iret E dX11_face_33
  · rw [if_neg c23] at h
    refine v_aload E dX11_face_15 rfl ?_
    refine v_aload_n E dX11_face_17 rfl ?_
    replace h := bnd_e h
    obtain ⟨v3, ev3, h⟩ := h
    refine g11_61 E ev3 dX11_face_18 ?_
    replace h := bnd_e h
    obtain ⟨r4, er4, h⟩ := h
    refine v_callV (na := 1) (As := [vR v3]) (rest := []) (ci := 10) (q := (RX10, TX10, 3)) E gw11_136 (by decide +kernel) rfl rfl (by decide) (kX10_faces l er4).2 (kX10_faces l er4).1 rfl rfl dX11_face_21 ⟨Nat.le_of_ble_eq_true rfl, Nat.le_of_ble_eq_true rfl⟩ ⟨(Nat.le_of_ble_eq_true rfl), (Nat.le_of_ble_eq_true rfl)⟩ (Nat.le_of_ble_eq_true rfl) ?_
    refine v_widen (k' := 7) (n' := 168) (Nat.le_of_ble_eq_true rfl) (Nat.le_of_ble_eq_true rfl) ?_
    refine v_iload_n E dX11_face_24 rfl ?_
    replace h := bnd_e h
    obtain ⟨r5, er5, h⟩ := h
    refine v_callV (na := 1) (As := [vI a2]) (rest := []) (ci := 3) (q := (RX3, TX3, 8)) E gw11_198 (by decide +kernel) rfl rfl (by decide) (kX3_hasFace l er5).2 (kX3_hasFace l er5).1 rfl rfl dX11_face_25 ⟨Nat.le_of_ble_eq_true rfl, Nat.le_of_ble_eq_true rfl⟩ ⟨(Nat.le_of_ble_eq_true rfl), (Nat.le_of_ble_eq_true rfl)⟩ (Nat.le_of_ble_eq_true rfl) ?_
    refine v_if_ne (tgt := 34) E dX11_face_28 (by decide) (fun c22 => ?_) (fun c22 => ?_)
    · rw [if_neg c22] at h
      refine v_iload_n E dX11_face_34 rfl ?_
      refine v_if_lt (tgt := 43) E dX11_face_35 (by decide) (fun c21 => ?_) (fun c21 => ?_)
      · rw [if_pos c21] at h
        refine v_ldc (v := (-1000000002)) E dX11_face_43 q262 ?_
        replace h := Option.some.inj h
        subst h
        refine v_widen (k' := 14) (n' := 336) (Nat.le_of_ble_eq_true rfl) (Nat.le_of_ble_eq_true rfl) ?_
        exact v_iret E dX11_face_45
      · rw [if_neg c21] at h
        refine v_iload_n E dX11_face_38 rfl ?_
        refine v_iconst (v := 3) E dX11_face_39 (by decide) ?_
        refine v_icmp_le (tgt := 46) E dX11_face_40 (by decide) (fun c20 => ?_) (fun c20 => ?_)
        · rw [if_pos c20] at h
          refine v_aload E dX11_face_46 rfl ?_
          refine v_aload_n E dX11_face_48 rfl ?_
          replace h := bnd_e h
          obtain ⟨v6, ev6, h⟩ := h
          refine g11_61 E ev6 dX11_face_49 ?_
          replace h := bnd_e h
          obtain ⟨r7, er7, h⟩ := h
          refine v_callV (na := 1) (As := [vR v6]) (rest := []) (ci := 10) (q := (RX10, TX10, 3)) E gw11_136 (by decide +kernel) rfl rfl (by decide) (kX10_faces l er7).2 (kX10_faces l er7).1 rfl rfl dX11_face_52 ⟨Nat.le_of_ble_eq_true rfl, Nat.le_of_ble_eq_true rfl⟩ ⟨(Nat.le_of_ble_eq_true rfl), (Nat.le_of_ble_eq_true rfl)⟩ (Nat.le_of_ble_eq_true rfl) ?_
          refine v_widen (k' := 14) (n' := 336) (Nat.le_of_ble_eq_true rfl) (Nat.le_of_ble_eq_true rfl) ?_
          refine v_astore (lv' := [some (vR (some o1)), some (vI a1), some (vI a2), some (vI a3), some (vR r2), some (vR r7.1)]) E dX11_face_55 (by decide) rfl ?_
          refine v_iload_n E dX11_face_57 rfl ?_
          refine v_if_ne (tgt := 68) E dX11_face_58 (by decide) (fun c19 => ?_) (fun c19 => ?_)
          · rw [if_neg c19] at h
            refine v_aload E dX11_face_68 rfl ?_
            replace h := bnd_e h
            obtain ⟨r8, er8, h⟩ := h
            refine v_callV (na := 0) (As := []) (rest := []) (ci := 3) (q := (RX3, TX3, 8)) E gw11_192 (by decide +kernel) rfl rfl (by decide) (kX3_isPlane l er8).2 (kX3_isPlane l er8).1 rfl rfl dX11_face_70 ⟨Nat.le_of_ble_eq_true rfl, Nat.le_of_ble_eq_true rfl⟩ ⟨(Nat.le_of_ble_eq_true rfl), (Nat.le_of_ble_eq_true rfl)⟩ (Nat.le_of_ble_eq_true rfl) ?_
            refine v_if_ne (tgt := 78) E dX11_face_73 (by decide) (fun c17 => ?_) (fun c17 => ?_)
            · rw [if_neg c17] at h
              refine v_iload_n E dX11_face_78 rfl ?_
              refine v_iconst (v := 1) E dX11_face_79 (by decide) ?_
              refine v_icmp_ne (tgt := 98) E dX11_face_80 (by decide) (fun c16 => ?_) (fun c16 => ?_)
              · rw [if_neg c16] at h
                refine v_iload_n E dX11_face_98 rfl ?_
                refine v_iconst (v := 2) E dX11_face_99 (by decide) ?_
                refine jp_use h (fun K9 eK9 h => ?_)
                have hK9 : ∀ x13 : Int32, K9 x13 = some r → V p l e { frames := 6, cells := 14, slots := 336, locals := 134 } s m ar below meth c (MQ below (Qd base D cy (some (vI r.1)) r.2) ar s 14 336 (fun q => base ≤ q)) base D cy 6 118 [none, none, none, none, none, none] [vI x13] r7.2 14 336 := by
                  intro x13 h
                  rw [eK9] at h
                  try dsimp only at h
                  refine v_bipush (v := 100) E dX11_face_118 (by decide) ?_
                  refine v_iadd E dX11_face_120 ?_
                  replace h := Option.some.inj h
                  subst h
                  refine v_widen (k' := 14) (n' := 336) (Nat.le_of_ble_eq_true rfl) (Nat.le_of_ble_eq_true rfl) ?_
                  exact v_iret E dX11_face_121
                refine v_icmp_ne (tgt := 112) E dX11_face_100 (by decide) (fun c12 => ?_) (fun c12 => ?_)
                · rw [if_neg c12] at h
                  refine v_aload E dX11_face_112 rfl ?_
                  refine v_iload_n E dX11_face_114 rfl ?_
                  replace h := bnd_e h
                  obtain ⟨r10, er10, h⟩ := h
                  refine v_callV (na := 1) (As := [vI a2]) (rest := []) (ci := 3) (q := (RX3, TX3, 8)) E gw11_210 (by decide +kernel) rfl rfl (by decide) (kX3_turnsAround l er10).2 (kX3_turnsAround l er10).1 rfl rfl dX11_face_115 ⟨Nat.le_of_ble_eq_true rfl, Nat.le_of_ble_eq_true rfl⟩ ⟨(Nat.le_of_ble_eq_true rfl), (Nat.le_of_ble_eq_true rfl)⟩ (Nat.le_of_ble_eq_true rfl) ?_
                  refine v_drop (lv' := [none, none, none, none, none, none]) [0, 1, 2, 3, 4, 5] rfl ?_
                  exact hK9 r10 h
                · rw [if_pos c12] at h
                  refine v_aload E dX11_face_103 rfl ?_
                  refine v_iload_n E dX11_face_105 rfl ?_
                  replace h := bnd_e h
                  obtain ⟨r11, er11, h⟩ := h
                  refine v_callV (na := 1) (As := [vI a2]) (rest := []) (ci := 3) (q := (RX3, TX3, 8)) E gw11_207 (by decide +kernel) rfl rfl (by decide) (kX3_indexOf l er11).2 (kX3_indexOf l er11).1 rfl rfl dX11_face_106 ⟨Nat.le_of_ble_eq_true rfl, Nat.le_of_ble_eq_true rfl⟩ ⟨(Nat.le_of_ble_eq_true rfl), (Nat.le_of_ble_eq_true rfl)⟩ (Nat.le_of_ble_eq_true rfl) ?_
                  refine v_goto (tgt := 118) E dX11_face_109 (by decide) ?_
                  refine v_drop (lv' := [none, none, none, none, none, none]) [0, 1, 2, 3, 4, 5] rfl ?_
                  exact hK9 r11 h
              · rw [if_pos c16] at h
                refine v_aload E dX11_face_83 rfl ?_
                refine v_iload_n E dX11_face_85 rfl ?_
                replace h := bnd_e h
                obtain ⟨r14, er14, h⟩ := h
                refine v_callV (na := 1) (As := [vI a2]) (rest := []) (ci := 3) (q := (RX3, TX3, 8)) E gw11_204 (by decide +kernel) rfl rfl (by decide) (kX3_isDark l er14).2 (kX3_isDark l er14).1 rfl rfl dX11_face_86 ⟨Nat.le_of_ble_eq_true rfl, Nat.le_of_ble_eq_true rfl⟩ ⟨(Nat.le_of_ble_eq_true rfl), (Nat.le_of_ble_eq_true rfl)⟩ (Nat.le_of_ble_eq_true rfl) ?_
                refine v_if_eq (tgt := 96) E dX11_face_89 (by decide) (fun c15 => ?_) (fun c15 => ?_)
                · rw [if_pos c15] at h
                  refine v_iconst (v := 0) E dX11_face_96 (by decide) ?_
                  replace h := Option.some.inj h
                  subst h
                  refine v_widen (k' := 14) (n' := 336) (Nat.le_of_ble_eq_true rfl) (Nat.le_of_ble_eq_true rfl) ?_
                  exact v_iret E dX11_face_97
                · rw [if_neg c15] at h
                  refine v_iconst (v := 1) E dX11_face_92 (by decide) ?_
                  refine v_goto (tgt := 97) E dX11_face_93 (by decide) ?_
                  replace h := Option.some.inj h
                  subst h
                  refine v_widen (k' := 14) (n' := 336) (Nat.le_of_ble_eq_true rfl) (Nat.le_of_ble_eq_true rfl) ?_
                  exact v_iret E dX11_face_97
            · rw [if_pos c17] at h
              refine v_iconst (v := (-1)) E dX11_face_76 (by decide) ?_
              replace h := Option.some.inj h
              subst h
              refine v_widen (k' := 14) (n' := 336) (Nat.le_of_ble_eq_true rfl) (Nat.le_of_ble_eq_true rfl) ?_
              exact v_iret E dX11_face_77
          · rw [if_pos c19] at h
            refine v_aload E dX11_face_61 rfl ?_
            refine v_iload_n E dX11_face_63 rfl ?_
            replace h := bnd_e h
            obtain ⟨r18, er18, h⟩ := h
            refine v_callV (na := 1) (As := [vI a2]) (rest := []) (ci := 3) (q := (RX3, TX3, 8)) E gw11_201 (by decide +kernel) rfl rfl (by decide) (kX3_sizeOf l er18).2 (kX3_sizeOf l er18).1 rfl rfl dX11_face_64 ⟨Nat.le_of_ble_eq_true rfl, Nat.le_of_ble_eq_true rfl⟩ ⟨(Nat.le_of_ble_eq_true rfl), (Nat.le_of_ble_eq_true rfl)⟩ (Nat.le_of_ble_eq_true rfl) ?_
            replace h := Option.some.inj h
            subst h
            refine v_widen (k' := 14) (n' := 336) (Nat.le_of_ble_eq_true rfl) (Nat.le_of_ble_eq_true rfl) ?_
            exact v_iret E dX11_face_67
        · rw [if_neg c20] at h
          refine v_ldc (v := (-1000000002)) E dX11_face_43 q262 ?_
          replace h := Option.some.inj h
          subst h
          refine v_widen (k' := 14) (n' := 336) (Nat.le_of_ble_eq_true rfl) (Nat.le_of_ble_eq_true rfl) ?_
          exact v_iret E dX11_face_45
    · rw [if_pos c22] at h
      refine v_ldc (v := (-1000000001)) E dX11_face_31 q516 ?_
      replace h := Option.some.inj h
      subst h
      refine v_widen (k' := 14) (n' := 336) (Nat.le_of_ble_eq_true rfl) (Nat.le_of_ble_eq_true rfl) ?_
      exact v_iret E dX11_face_33
noncomputable def fX7_hasLetters (A0 : AH) (o0 : Option Nat) (a1 : Int32) : Option (Int32) :=
  (rcv A0 8 o0).bind fun o0 =>
  if a1 < 0 then
    some 0
  else
    (gI A0 8 224 ((some o0))).bind fun v1 =>
    if ((1 : Int32) <<< ((v1 : Int32) &&& 31)) ≤ a1 then
      some 0
    else
      some 1
set_option maxRecDepth 100000 in
set_option maxHeartbeats 4000000 in
theorem kX7_hasLetters (l : Launch) {A0 : AH} {o0 : Option Nat} {a1 : Int32} {r : Int32} (h : fX7_hasLetters A0 o0 a1 = some r) : (∃ a, o0 = some a ∧ Hk A0 a = 8) ∧ Cn l yX7_hasLetters cX7_hasLetters 2 (some .boolean) 0 0 0 0 [vR o0, vI a1] A0 (some (vI r)) A0 := by
  unfold fX7_hasLetters at h
  replace h := bnd_e h
  obtain ⟨o1, e1, h⟩ := h
  obtain ⟨rfl, hk0⟩ := rcv_e e1
  refine ⟨⟨o1, rfl, hk0⟩, ?_⟩
  refine Cn.of (pad := 0) (lv0 := [some (vR (some o1)), some (vI a1)]) (by decide +kernel) (Nat.le_of_ble_eq_true rfl) rfl ?_
  intro p e s m below meth c base D cy E
  generalize (List.map toV [vR (some o1), vI a1]).toArray = ar at E ⊢
  have E : EN p s m ar meth c D cy RX7 cX7_hasLetters 2 (some .boolean) "hasLetters" := E
  refine v_iload_n E dX7_hasLetters_0 rfl ?_
  refine v_if_lt (tgt := 18) E dX7_hasLetters_1 (by decide) (fun c3 => ?_) (fun c3 => ?_)
  · rw [if_pos c3] at h
    refine v_iconst (v := 0) E dX7_hasLetters_18 (by decide) ?_
    replace h := Option.some.inj h
    subst h
    refine v_widen (k' := 0) (n' := 0) (Nat.le_of_ble_eq_true rfl) (Nat.le_of_ble_eq_true rfl) ?_
    exact v_zret E (Or.inl rfl) dX7_hasLetters_19
  · rw [if_neg c3] at h
    refine v_iload_n E dX7_hasLetters_4 rfl ?_
    refine v_iconst (v := 1) E dX7_hasLetters_5 (by decide) ?_
    refine v_aload_n E dX7_hasLetters_6 rfl ?_
    replace h := bnd_e h
    obtain ⟨v1, ev1, h⟩ := h
    refine g7_45 E ev1 dX7_hasLetters_7 ?_
    refine v_ishl E dX7_hasLetters_10 ?_
    refine v_icmp_ge (tgt := 18) E dX7_hasLetters_11 (by decide) (fun c2 => ?_) (fun c2 => ?_)
    · rw [if_pos c2] at h
      refine v_iconst (v := 0) E dX7_hasLetters_18 (by decide) ?_
      replace h := Option.some.inj h
      subst h
      refine v_widen (k' := 0) (n' := 0) (Nat.le_of_ble_eq_true rfl) (Nat.le_of_ble_eq_true rfl) ?_
      exact v_zret E (Or.inl rfl) dX7_hasLetters_19
    · rw [if_neg c2] at h
      refine v_iconst (v := 1) E dX7_hasLetters_14 (by decide) ?_
      refine v_goto (tgt := 19) E dX7_hasLetters_15 (by decide) ?_
      replace h := Option.some.inj h
      subst h
      refine v_widen (k' := 0) (n' := 0) (Nat.le_of_ble_eq_true rfl) (Nat.le_of_ble_eq_true rfl) ?_
      exact v_zret E (Or.inr rfl) dX7_hasLetters_19
noncomputable def fX11_rings (A0 : AH) (o0 : Option Nat) (a1 : Int32) (a2 : Int32) : Option (Int32 × AH) :=
  (rcv A0 12 o0).bind fun o0 =>
  (gR A0 12 352 ((some o0))).bind fun v1 =>
  (fX8_get A0 v1 a1).bind fun r2 =>
  if r2 = none then
    some (((-1000000001), A0))
  else
    (fX10_row A0 r2).bind fun r3 =>
    (fX7_hasLetters A0 r3 a2).bind fun r4 =>
    if r4 = 0 then
      some (((-1000000001), A0))
    else
      (fX10_row A0 r2).bind fun r5 =>
      (gR A0 12 359 ((some o0))).bind fun v6 =>
      (fX7_ringsOf A0 r5 a2 v6).bind fun r7 =>
      some ((r7.1, r7.2))
set_option maxRecDepth 100000 in
set_option maxHeartbeats 4000000 in
theorem kX11_rings (l : Launch) {A0 : AH} {o0 : Option Nat} {a1 : Int32} {a2 : Int32} {r : Int32 × AH} (h : fX11_rings A0 o0 a1 a2 = some r) : (∃ a, o0 = some a ∧ Hk A0 a = 12) ∧ Cn l yX11_rings cX11_rings 4 (some .int) 3 75 0 0 [vR o0, vI a1, vI a2] A0 (some (vI r.1)) r.2 := by
  unfold fX11_rings at h
  replace h := bnd_e h
  obtain ⟨o1, e1, h⟩ := h
  obtain ⟨rfl, hk0⟩ := rcv_e e1
  refine ⟨⟨o1, rfl, hk0⟩, ?_⟩
  refine Cn.of (pad := 1) (lv0 := [some (vR (some o1)), some (vI a1), some (vI a2), none]) (by decide +kernel) (Nat.le_of_ble_eq_true rfl) rfl ?_
  intro p e s m below meth c base D cy E
  generalize (List.map toV [vR (some o1), vI a1, vI a2]).toArray = ar at E ⊢
  have E : EN p s m ar meth c D cy RX11 cX11_rings 4 (some .int) "rings" := E
  refine v_aload_n E dX11_rings_0 rfl ?_
  replace h := bnd_e h
  obtain ⟨v1, ev1, h⟩ := h
  refine g11_10 E ev1 dX11_rings_1 ?_
  refine v_iload_n E dX11_rings_4 rfl ?_
  replace h := bnd_e h
  obtain ⟨r2, er2, h⟩ := h
  refine v_callV (na := 1) (As := [vI a1]) (rest := []) (ci := 8) (q := (RX8, TX8, 2)) E gw11_110 (by decide +kernel) rfl rfl (by decide) (kX8_get l er2).2 (kX8_get l er2).1 rfl rfl dX11_rings_5 ⟨Nat.le_of_ble_eq_true rfl, Nat.le_of_ble_eq_true rfl⟩ ⟨(Nat.le_of_ble_eq_true rfl), (Nat.le_of_ble_eq_true rfl)⟩ (Nat.le_of_ble_eq_true rfl) ?_
  refine v_astore_n (lv' := [some (vR (some o1)), some (vI a1), some (vI a2), some (vR r2)]) E dX11_rings_8 (by decide) rfl ?_
  refine v_aload_n E dX11_rings_9 rfl ?_
  refine v_ifnull (tgt := 24) E dX11_rings_10 (by decide) (fun c9 => ?_) (fun c9 => ?_)
  · rw [if_pos c9] at h
    refine v_ldc (v := (-1000000001)) E dX11_rings_24 q516 ?_
    replace h := Option.some.inj h
    subst h
    refine v_widen (k' := 0) (n' := 0) (Nat.le_of_ble_eq_true rfl) (Nat.le_of_ble_eq_true rfl) ?_
    exact v_iret E dX11_rings_26
  · rw [if_neg c9] at h
    refine v_aload_n E dX11_rings_13 rfl ?_
    replace h := bnd_e h
    obtain ⟨r3, er3, h⟩ := h
    refine v_callV (na := 0) (As := []) (rest := []) (ci := 10) (q := (RX10, TX10, 3)) E gw11_115 (by decide +kernel) rfl rfl (by decide) (kX10_row l er3).2 (kX10_row l er3).1 rfl rfl dX11_rings_14 ⟨Nat.le_of_ble_eq_true rfl, Nat.le_of_ble_eq_true rfl⟩ ⟨(Nat.le_of_ble_eq_true rfl), (Nat.le_of_ble_eq_true rfl)⟩ (Nat.le_of_ble_eq_true rfl) ?_
    refine v_iload_n E dX11_rings_17 rfl ?_
    replace h := bnd_e h
    obtain ⟨r4, er4, h⟩ := h
    refine v_callV (na := 1) (As := [vI a2]) (rest := []) (ci := 7) (q := (RX7, TX7, 14)) E gw11_213 (by decide +kernel) rfl rfl (by decide) (kX7_hasLetters l er4).2 (kX7_hasLetters l er4).1 rfl rfl dX11_rings_18 ⟨Nat.le_of_ble_eq_true rfl, Nat.le_of_ble_eq_true rfl⟩ ⟨(Nat.le_of_ble_eq_true rfl), (Nat.le_of_ble_eq_true rfl)⟩ (Nat.le_of_ble_eq_true rfl) ?_
    refine v_if_ne (tgt := 27) E dX11_rings_21 (by decide) (fun c8 => ?_) (fun c8 => ?_)
    · rw [if_neg c8] at h
      refine v_aload_n E dX11_rings_27 rfl ?_
      replace h := bnd_e h
      obtain ⟨r5, er5, h⟩ := h
      refine v_callV (na := 0) (As := []) (rest := []) (ci := 10) (q := (RX10, TX10, 3)) E gw11_115 (by decide +kernel) rfl rfl (by decide) (kX10_row l er5).2 (kX10_row l er5).1 rfl rfl dX11_rings_28 ⟨Nat.le_of_ble_eq_true rfl, Nat.le_of_ble_eq_true rfl⟩ ⟨(Nat.le_of_ble_eq_true rfl), (Nat.le_of_ble_eq_true rfl)⟩ (Nat.le_of_ble_eq_true rfl) ?_
      refine v_iload_n E dX11_rings_31 rfl ?_
      refine v_aload_n E dX11_rings_32 rfl ?_
      replace h := bnd_e h
      obtain ⟨v6, ev6, h⟩ := h
      refine g11_61 E ev6 dX11_rings_33 ?_
      replace h := bnd_e h
      obtain ⟨r7, er7, h⟩ := h
      refine v_callV (na := 2) (As := [vI a2, vR v6]) (rest := []) (ci := 7) (q := (RX7, TX7, 14)) E gw11_152 (by decide +kernel) rfl rfl (by decide) (kX7_ringsOf l er7).2 (kX7_ringsOf l er7).1 rfl rfl dX11_rings_36 ⟨Nat.le_of_ble_eq_true rfl, Nat.le_of_ble_eq_true rfl⟩ ⟨(Nat.le_of_ble_eq_true rfl), (Nat.le_of_ble_eq_true rfl)⟩ (Nat.le_of_ble_eq_true rfl) ?_
      replace h := Option.some.inj h
      subst h
      refine v_widen (k' := 0) (n' := 0) (Nat.le_of_ble_eq_true rfl) (Nat.le_of_ble_eq_true rfl) ?_
      exact v_iret E dX11_rings_39
    · rw [if_pos c8] at h
      refine v_ldc (v := (-1000000001)) E dX11_rings_24 q516 ?_
      replace h := Option.some.inj h
      subst h
      refine v_widen (k' := 0) (n' := 0) (Nat.le_of_ble_eq_true rfl) (Nat.le_of_ble_eq_true rfl) ?_
      exact v_iret E dX11_rings_26
noncomputable def fX11_states (A0 : AH) (o0 : Option Nat) (a1 : Int32) (a2 : Int32) : Option (Int32 × AH) :=
  (rcv A0 12 o0).bind fun o0 =>
  (gR A0 12 352 ((some o0))).bind fun v1 =>
  (fX8_get A0 v1 a1).bind fun r2 =>
  if r2 = none then
    some (((-1000000001), A0))
  else
    if a2 < 1 then
      some (((-1000000002), A0))
    else
      if a2 ≤ 9 then
        (fX10_row A0 r2).bind fun r3 =>
        (gR A0 12 359 ((some o0))).bind fun v4 =>
        (fX7_setsWithRings A0 r3 a2 v4).bind fun r5 =>
        some ((r5.1, r5.2))
      else
        some (((-1000000002), A0))
set_option maxRecDepth 100000 in
set_option maxHeartbeats 4000000 in
theorem kX11_states (l : Launch) {A0 : AH} {o0 : Option Nat} {a1 : Int32} {a2 : Int32} {r : Int32 × AH} (h : fX11_states A0 o0 a1 a2 = some r) : (∃ a, o0 = some a ∧ Hk A0 a = 12) ∧ Cn l yX11_states cX11_states 4 (some .int) 4 99 0 0 [vR o0, vI a1, vI a2] A0 (some (vI r.1)) r.2 := by
  unfold fX11_states at h
  replace h := bnd_e h
  obtain ⟨o1, e1, h⟩ := h
  obtain ⟨rfl, hk0⟩ := rcv_e e1
  refine ⟨⟨o1, rfl, hk0⟩, ?_⟩
  refine Cn.of (pad := 1) (lv0 := [some (vR (some o1)), some (vI a1), some (vI a2), none]) (by decide +kernel) (Nat.le_of_ble_eq_true rfl) rfl ?_
  intro p e s m below meth c base D cy E
  generalize (List.map toV [vR (some o1), vI a1, vI a2]).toArray = ar at E ⊢
  have E : EN p s m ar meth c D cy RX11 cX11_states 4 (some .int) "states" := E
  refine v_aload_n E dX11_states_0 rfl ?_
  replace h := bnd_e h
  obtain ⟨v1, ev1, h⟩ := h
  refine g11_10 E ev1 dX11_states_1 ?_
  refine v_iload_n E dX11_states_4 rfl ?_
  replace h := bnd_e h
  obtain ⟨r2, er2, h⟩ := h
  refine v_callV (na := 1) (As := [vI a1]) (rest := []) (ci := 8) (q := (RX8, TX8, 2)) E gw11_110 (by decide +kernel) rfl rfl (by decide) (kX8_get l er2).2 (kX8_get l er2).1 rfl rfl dX11_states_5 ⟨Nat.le_of_ble_eq_true rfl, Nat.le_of_ble_eq_true rfl⟩ ⟨(Nat.le_of_ble_eq_true rfl), (Nat.le_of_ble_eq_true rfl)⟩ (Nat.le_of_ble_eq_true rfl) ?_
  refine v_astore_n (lv' := [some (vR (some o1)), some (vI a1), some (vI a2), some (vR r2)]) E dX11_states_8 (by decide) rfl ?_
  refine v_aload_n E dX11_states_9 rfl ?_
  refine v_ifnonnull (tgt := 16) E dX11_states_10 (by decide) (fun c8 => ?_) (fun c8 => ?_)
  · rw [if_neg c8] at h
    refine v_iload_n E dX11_states_16 rfl ?_
    refine v_iconst (v := 1) E dX11_states_17 (by decide) ?_
    refine v_icmp_lt (tgt := 27) E dX11_states_18 (by decide) (fun c7 => ?_) (fun c7 => ?_)
    · rw [if_pos c7] at h
      refine v_ldc (v := (-1000000002)) E dX11_states_27 q262 ?_
      replace h := Option.some.inj h
      subst h
      refine v_widen (k' := 0) (n' := 0) (Nat.le_of_ble_eq_true rfl) (Nat.le_of_ble_eq_true rfl) ?_
      exact v_iret E dX11_states_29
    · rw [if_neg c7] at h
      refine v_iload_n E dX11_states_21 rfl ?_
      refine v_bipush (v := 9) E dX11_states_22 (by decide) ?_
      refine v_icmp_le (tgt := 30) E dX11_states_24 (by decide) (fun c6 => ?_) (fun c6 => ?_)
      · rw [if_pos c6] at h
        refine v_aload_n E dX11_states_30 rfl ?_
        replace h := bnd_e h
        obtain ⟨r3, er3, h⟩ := h
        refine v_callV (na := 0) (As := []) (rest := []) (ci := 10) (q := (RX10, TX10, 3)) E gw11_115 (by decide +kernel) rfl rfl (by decide) (kX10_row l er3).2 (kX10_row l er3).1 rfl rfl dX11_states_31 ⟨Nat.le_of_ble_eq_true rfl, Nat.le_of_ble_eq_true rfl⟩ ⟨(Nat.le_of_ble_eq_true rfl), (Nat.le_of_ble_eq_true rfl)⟩ (Nat.le_of_ble_eq_true rfl) ?_
        refine v_iload_n E dX11_states_34 rfl ?_
        refine v_aload_n E dX11_states_35 rfl ?_
        replace h := bnd_e h
        obtain ⟨v4, ev4, h⟩ := h
        refine g11_61 E ev4 dX11_states_36 ?_
        replace h := bnd_e h
        obtain ⟨r5, er5, h⟩ := h
        refine v_callV (na := 2) (As := [vI a2, vR v4]) (rest := []) (ci := 7) (q := (RX7, TX7, 14)) E gw11_216 (by decide +kernel) rfl rfl (by decide) (kX7_setsWithRings l er5).2 (kX7_setsWithRings l er5).1 rfl rfl dX11_states_39 ⟨Nat.le_of_ble_eq_true rfl, Nat.le_of_ble_eq_true rfl⟩ ⟨(Nat.le_of_ble_eq_true rfl), (Nat.le_of_ble_eq_true rfl)⟩ (Nat.le_of_ble_eq_true rfl) ?_
        replace h := Option.some.inj h
        subst h
        refine v_widen (k' := 0) (n' := 0) (Nat.le_of_ble_eq_true rfl) (Nat.le_of_ble_eq_true rfl) ?_
        exact v_iret E dX11_states_42
      · rw [if_neg c6] at h
        refine v_ldc (v := (-1000000002)) E dX11_states_27 q262 ?_
        replace h := Option.some.inj h
        subst h
        refine v_widen (k' := 0) (n' := 0) (Nat.le_of_ble_eq_true rfl) (Nat.le_of_ble_eq_true rfl) ?_
        exact v_iret E dX11_states_29
  · rw [if_pos c8] at h
    refine v_ldc (v := (-1000000001)) E dX11_states_13 q516 ?_
    replace h := Option.some.inj h
    subst h
    refine v_widen (k' := 0) (n' := 0) (Nat.le_of_ble_eq_true rfl) (Nat.le_of_ble_eq_true rfl) ?_
    exact v_iret E dX11_states_15
noncomputable def fX11_same (A0 : AH) (o0 : Option Nat) (a1 : Int32) (a2 : Int32) : Option (Int32 × AH) :=
  (rcv A0 12 o0).bind fun o0 =>
  (gR A0 12 352 ((some o0))).bind fun v1 =>
  (fX8_get A0 v1 a1).bind fun r2 =>
  (gR A0 12 352 ((some o0))).bind fun v3 =>
  (fX8_get A0 v3 a2).bind fun r4 =>
  if r2 = none then
    some (((-1000000001), A0))
  else
    if r4 = none then
      some (((-1000000001), A0))
    else
      (fX10_row A0 r2).bind fun r5 =>
      (fX10_row A0 r4).bind fun r6 =>
      (fX7_isLike A0 r5 r6).bind fun r7 =>
      if r7.1 = 0 then
        some ((0, r7.2))
      else
        some ((1, r7.2))
set_option maxRecDepth 100000 in
set_option maxHeartbeats 4000000 in
theorem kX11_same (l : Launch) {A0 : AH} {o0 : Option Nat} {a1 : Int32} {a2 : Int32} {r : Int32 × AH} (h : fX11_same A0 o0 a1 a2 = some r) : (∃ a, o0 = some a ∧ Hk A0 a = 12) ∧ Cn l yX11_same cX11_same 5 (some .int) 4 98 2 16 [vR o0, vI a1, vI a2] A0 (some (vI r.1)) r.2 := by
  unfold fX11_same at h
  replace h := bnd_e h
  obtain ⟨o1, e1, h⟩ := h
  obtain ⟨rfl, hk0⟩ := rcv_e e1
  refine ⟨⟨o1, rfl, hk0⟩, ?_⟩
  refine Cn.of (pad := 2) (lv0 := [some (vR (some o1)), some (vI a1), some (vI a2), none, none]) (by decide +kernel) (Nat.le_of_ble_eq_true rfl) rfl ?_
  intro p e s m below meth c base D cy E
  generalize (List.map toV [vR (some o1), vI a1, vI a2]).toArray = ar at E ⊢
  have E : EN p s m ar meth c D cy RX11 cX11_same 5 (some .int) "same" := E
  refine v_aload_n E dX11_same_0 rfl ?_
  replace h := bnd_e h
  obtain ⟨v1, ev1, h⟩ := h
  refine g11_10 E ev1 dX11_same_1 ?_
  refine v_iload_n E dX11_same_4 rfl ?_
  replace h := bnd_e h
  obtain ⟨r2, er2, h⟩ := h
  refine v_callV (na := 1) (As := [vI a1]) (rest := []) (ci := 8) (q := (RX8, TX8, 2)) E gw11_110 (by decide +kernel) rfl rfl (by decide) (kX8_get l er2).2 (kX8_get l er2).1 rfl rfl dX11_same_5 ⟨Nat.le_of_ble_eq_true rfl, Nat.le_of_ble_eq_true rfl⟩ ⟨(Nat.le_of_ble_eq_true rfl), (Nat.le_of_ble_eq_true rfl)⟩ (Nat.le_of_ble_eq_true rfl) ?_
  refine v_astore_n (lv' := [some (vR (some o1)), some (vI a1), some (vI a2), some (vR r2), none]) E dX11_same_8 (by decide) rfl ?_
  refine v_aload_n E dX11_same_9 rfl ?_
  replace h := bnd_e h
  obtain ⟨v3, ev3, h⟩ := h
  refine g11_10 E ev3 dX11_same_10 ?_
  refine v_iload_n E dX11_same_13 rfl ?_
  replace h := bnd_e h
  obtain ⟨r4, er4, h⟩ := h
  refine v_callV (na := 1) (As := [vI a2]) (rest := []) (ci := 8) (q := (RX8, TX8, 2)) E gw11_110 (by decide +kernel) rfl rfl (by decide) (kX8_get l er4).2 (kX8_get l er4).1 rfl rfl dX11_same_14 ⟨Nat.le_of_ble_eq_true rfl, Nat.le_of_ble_eq_true rfl⟩ ⟨(Nat.le_of_ble_eq_true rfl), (Nat.le_of_ble_eq_true rfl)⟩ (Nat.le_of_ble_eq_true rfl) ?_
  refine v_astore (lv' := [some (vR (some o1)), some (vI a1), some (vI a2), some (vR r2), some (vR r4)]) E dX11_same_17 (by decide) rfl ?_
  refine v_aload_n E dX11_same_19 rfl ?_
  refine v_ifnull (tgt := 28) E dX11_same_20 (by decide) (fun c10 => ?_) (fun c10 => ?_)
  · rw [if_pos c10] at h
    refine v_ldc (v := (-1000000001)) E dX11_same_28 q516 ?_
    replace h := Option.some.inj h
    subst h
    refine v_widen (k' := 2) (n' := 16) (Nat.le_of_ble_eq_true rfl) (Nat.le_of_ble_eq_true rfl) ?_
    exact v_iret E dX11_same_30
  · rw [if_neg c10] at h
    refine v_aload E dX11_same_23 rfl ?_
    refine v_ifnonnull (tgt := 31) E dX11_same_25 (by decide) (fun c9 => ?_) (fun c9 => ?_)
    · rw [if_neg c9] at h
      refine v_aload_n E dX11_same_31 rfl ?_
      replace h := bnd_e h
      obtain ⟨r5, er5, h⟩ := h
      refine v_callV (na := 0) (As := []) (rest := []) (ci := 10) (q := (RX10, TX10, 3)) E gw11_115 (by decide +kernel) rfl rfl (by decide) (kX10_row l er5).2 (kX10_row l er5).1 rfl rfl dX11_same_32 ⟨Nat.le_of_ble_eq_true rfl, Nat.le_of_ble_eq_true rfl⟩ ⟨(Nat.le_of_ble_eq_true rfl), (Nat.le_of_ble_eq_true rfl)⟩ (Nat.le_of_ble_eq_true rfl) ?_
      refine v_aload E dX11_same_35 rfl ?_
      replace h := bnd_e h
      obtain ⟨r6, er6, h⟩ := h
      refine v_callV (na := 0) (As := []) (rest := [vR r5]) (ci := 10) (q := (RX10, TX10, 3)) E gw11_115 (by decide +kernel) rfl rfl (by decide) (kX10_row l er6).2 (kX10_row l er6).1 rfl rfl dX11_same_37 ⟨Nat.le_of_ble_eq_true rfl, Nat.le_of_ble_eq_true rfl⟩ ⟨(Nat.le_of_ble_eq_true rfl), (Nat.le_of_ble_eq_true rfl)⟩ (Nat.le_of_ble_eq_true rfl) ?_
      replace h := bnd_e h
      obtain ⟨r7, er7, h⟩ := h
      refine v_callV (na := 1) (As := [vR r6]) (rest := []) (ci := 7) (q := (RX7, TX7, 14)) E gw11_219 (by decide +kernel) rfl rfl (by decide) (kX7_isLike l er7).2 (kX7_isLike l er7).1 rfl rfl dX11_same_40 ⟨Nat.le_of_ble_eq_true rfl, Nat.le_of_ble_eq_true rfl⟩ ⟨(Nat.le_of_ble_eq_true rfl), (Nat.le_of_ble_eq_true rfl)⟩ (Nat.le_of_ble_eq_true rfl) ?_
      refine v_widen (k' := 2) (n' := 16) (Nat.le_of_ble_eq_true rfl) (Nat.le_of_ble_eq_true rfl) ?_
      refine v_if_eq (tgt := 50) E dX11_same_43 (by decide) (fun c8 => ?_) (fun c8 => ?_)
      · rw [if_pos c8] at h
        refine v_iconst (v := 0) E dX11_same_50 (by decide) ?_
        replace h := Option.some.inj h
        subst h
        refine v_widen (k' := 2) (n' := 16) (Nat.le_of_ble_eq_true rfl) (Nat.le_of_ble_eq_true rfl) ?_
        exact v_iret E dX11_same_51
      · rw [if_neg c8] at h
        refine v_iconst (v := 1) E dX11_same_46 (by decide) ?_
        refine v_goto (tgt := 51) E dX11_same_47 (by decide) ?_
        replace h := Option.some.inj h
        subst h
        refine v_widen (k' := 2) (n' := 16) (Nat.le_of_ble_eq_true rfl) (Nat.le_of_ble_eq_true rfl) ?_
        exact v_iret E dX11_same_51
    · rw [if_pos c9] at h
      refine v_ldc (v := (-1000000001)) E dX11_same_28 q516 ?_
      replace h := Option.some.inj h
      subst h
      refine v_widen (k' := 2) (n' := 16) (Nat.le_of_ble_eq_true rfl) (Nat.le_of_ble_eq_true rfl) ?_
      exact v_iret E dX11_same_30
noncomputable def fX8_replace (A0 : AH) (o0 : Option Nat) (a1 : Int32) (a2 : Option Nat) : Option (AH) :=
  (rcv A0 9 o0).bind fun o0 =>
  if a1 < 0 then
    some A0
  else
    (gI A0 9 257 ((some o0))).bind fun v1 =>
    if v1 ≤ a1 then
      some A0
    else
      (gR A0 9 256 ((some o0))).bind fun v2 =>
      (sR A0 18 11 v2 a1 a2).bind fun A3 =>
      some A3
set_option maxRecDepth 100000 in
set_option maxHeartbeats 4000000 in
theorem kX8_replace (l : Launch) {A0 : AH} {o0 : Option Nat} {a1 : Int32} {a2 : Option Nat} {r : AH} (h : fX8_replace A0 o0 a1 a2 = some r) : (∃ a, o0 = some a ∧ Hk A0 a = 9) ∧ Cn l yX8_replace cX8_replace 3 none 0 0 0 0 [vR o0, vI a1, vR a2] A0 none r := by
  unfold fX8_replace at h
  replace h := bnd_e h
  obtain ⟨o1, e1, h⟩ := h
  obtain ⟨rfl, hk0⟩ := rcv_e e1
  refine ⟨⟨o1, rfl, hk0⟩, ?_⟩
  refine Cn.of (pad := 0) (lv0 := [some (vR (some o1)), some (vI a1), some (vR a2)]) (by decide +kernel) (Nat.le_of_ble_eq_true rfl) rfl ?_
  intro p e s m below meth c base D cy E
  generalize (List.map toV [vR (some o1), vI a1, vR a2]).toArray = ar at E ⊢
  have E : EN p s m ar meth c D cy RX8 cX8_replace 3 none "replace" := E
  refine v_iload_n E dX8_replace_0 rfl ?_
  refine v_if_lt (tgt := 19) E dX8_replace_1 (by decide) (fun c5 => ?_) (fun c5 => ?_)
  · rw [if_pos c5] at h
    replace h := Option.some.inj h
    subst h
    refine v_widen (k' := 0) (n' := 0) (Nat.le_of_ble_eq_true rfl) (Nat.le_of_ble_eq_true rfl) ?_
    exact v_vret E dX8_replace_19
  · rw [if_neg c5] at h
    refine v_iload_n E dX8_replace_4 rfl ?_
    refine v_aload_n E dX8_replace_5 rfl ?_
    replace h := bnd_e h
    obtain ⟨v1, ev1, h⟩ := h
    refine g8_17 E ev1 dX8_replace_6 ?_
    refine v_icmp_ge (tgt := 19) E dX8_replace_9 (by decide) (fun c4 => ?_) (fun c4 => ?_)
    · rw [if_pos c4] at h
      replace h := Option.some.inj h
      subst h
      refine v_widen (k' := 0) (n' := 0) (Nat.le_of_ble_eq_true rfl) (Nat.le_of_ble_eq_true rfl) ?_
      exact v_vret E dX8_replace_19
    · rw [if_neg c4] at h
      refine v_aload_n E dX8_replace_12 rfl ?_
      replace h := bnd_e h
      obtain ⟨v2, ev2, h⟩ := h
      refine g8_11 E ev2 dX8_replace_13 ?_
      refine v_iload_n E dX8_replace_16 rfl ?_
      refine v_aload_n E dX8_replace_17 rfl ?_
      replace h := bnd_e h
      obtain ⟨A3, eA3, h⟩ := h
      refine v_aastore (kd := 18) (ci := 10) (t0 := 4) E (by decide) (by decide) rfl rfl eA3 dX8_replace_18 ?_
      replace h := Option.some.inj h
      subst h
      refine v_widen (k' := 0) (n' := 0) (Nat.le_of_ble_eq_true rfl) (Nat.le_of_ble_eq_true rfl) ?_
      exact v_vret E dX8_replace_19
noncomputable def fX11_becomes (A0 : AH) (o0 : Option Nat) (a1 : Int32) (a2 : Option Nat) : Option (AH) :=
  (rcv A0 12 o0).bind fun o0 =>
  (gR A0 12 355 ((some o0))).bind fun v1 =>
  (gR A0 12 352 ((some o0))).bind fun v2 =>
  (fX5_remember A0 v1 v2).bind fun r3 =>
  (gR r3 12 352 ((some o0))).bind fun v4 =>
  (fX8_replace r3 v4 a1 a2).bind fun r5 =>
  some r5
set_option maxRecDepth 100000 in
set_option maxHeartbeats 4000000 in
theorem kX11_becomes (l : Launch) {A0 : AH} {o0 : Option Nat} {a1 : Int32} {a2 : Option Nat} {r : AH} (h : fX11_becomes A0 o0 a1 a2 = some r) : (∃ a, o0 = some a ∧ Hk A0 a = 12) ∧ Cn l yX11_becomes cX11_becomes 3 none 3 64 2 8 [vR o0, vI a1, vR a2] A0 none r := by
  unfold fX11_becomes at h
  replace h := bnd_e h
  obtain ⟨o1, e1, h⟩ := h
  obtain ⟨rfl, hk0⟩ := rcv_e e1
  refine ⟨⟨o1, rfl, hk0⟩, ?_⟩
  refine Cn.of (pad := 0) (lv0 := [some (vR (some o1)), some (vI a1), some (vR a2)]) (by decide +kernel) (Nat.le_of_ble_eq_true rfl) rfl ?_
  intro p e s m below meth c base D cy E
  generalize (List.map toV [vR (some o1), vI a1, vR a2]).toArray = ar at E ⊢
  have E : EN p s m ar meth c D cy RX11 cX11_becomes 3 none "becomes" := E
  refine v_aload_n E dX11_becomes_0 rfl ?_
  replace h := bnd_e h
  obtain ⟨v1, ev1, h⟩ := h
  refine g11_33 E ev1 dX11_becomes_1 ?_
  refine v_aload_n E dX11_becomes_4 rfl ?_
  replace h := bnd_e h
  obtain ⟨v2, ev2, h⟩ := h
  refine g11_10 E ev2 dX11_becomes_5 ?_
  replace h := bnd_e h
  obtain ⟨r3, er3, h⟩ := h
  refine v_callV (na := 1) (As := [vR v2]) (rest := []) (ci := 5) (q := (RX5, TX5, 3)) E gw11_281 (by decide +kernel) rfl rfl (by decide) (kX5_remember l er3).2 (kX5_remember l er3).1 rfl rfl dX11_becomes_8 ⟨Nat.le_of_ble_eq_true rfl, Nat.le_of_ble_eq_true rfl⟩ ⟨(Nat.le_of_ble_eq_true rfl), (Nat.le_of_ble_eq_true rfl)⟩ (Nat.le_of_ble_eq_true rfl) ?_
  refine v_widen (k' := 2) (n' := 8) (Nat.le_of_ble_eq_true rfl) (Nat.le_of_ble_eq_true rfl) ?_
  refine v_aload_n E dX11_becomes_11 rfl ?_
  replace h := bnd_e h
  obtain ⟨v4, ev4, h⟩ := h
  refine g11_10 E ev4 dX11_becomes_12 ?_
  refine v_iload_n E dX11_becomes_15 rfl ?_
  refine v_aload_n E dX11_becomes_16 rfl ?_
  replace h := bnd_e h
  obtain ⟨r5, er5, h⟩ := h
  refine v_callV (na := 2) (As := [vI a1, vR a2]) (rest := []) (ci := 8) (q := (RX8, TX8, 2)) E gw11_326 (by decide +kernel) rfl rfl (by decide) (kX8_replace l er5).2 (kX8_replace l er5).1 rfl rfl dX11_becomes_17 ⟨Nat.le_of_ble_eq_true rfl, Nat.le_of_ble_eq_true rfl⟩ ⟨(Nat.le_of_ble_eq_true rfl), (Nat.le_of_ble_eq_true rfl)⟩ (Nat.le_of_ble_eq_true rfl) ?_
  replace h := Option.some.inj h
  subst h
  refine v_widen (k' := 2) (n' := 8) (Nat.le_of_ble_eq_true rfl) (Nat.le_of_ble_eq_true rfl) ?_
  exact v_vret E dX11_becomes_20
noncomputable def fX11_signs (A0 : AH) (o0 : Option Nat) (a1 : Int32) (a2 : Int32) : Option (Int32 × AH) :=
  (rcv A0 12 o0).bind fun o0 =>
  (gR A0 12 352 ((some o0))).bind fun v1 =>
  (fX8_get A0 v1 a1).bind fun r2 =>
  if r2 = none then
    some (((-1000000001), A0))
  else
    (fX10_row A0 r2).bind fun r3 =>
    (fX7_hasLetters A0 r3 a2).bind fun r4 =>
    if r4 = 0 then
      some (((-1000000001), A0))
    else
      (fX10_row ((nw A0 11 0)) r2).bind fun r5 =>
      (fX10_init ((nw A0 11 0)) ((some (Hs A0))) r5 a2).bind fun r6 =>
      (fX11_becomes r6 ((some o0)) a1 ((some (Hs A0)))).bind fun r7 =>
      (gR r7 12 359 ((some o0))).bind fun v8 =>
      (fX10_faces r7 ((some (Hs A0))) v8).bind fun r9 =>
      (fX3_count r9.2 r9.1).bind fun r10 =>
      some ((r10, r9.2))
set_option maxRecDepth 100000 in
set_option maxHeartbeats 4000000 in
theorem kX11_signs (l : Launch) {A0 : AH} {o0 : Option Nat} {a1 : Int32} {a2 : Int32} {r : Int32 × AH} (h : fX11_signs A0 o0 a1 a2 = some r) : (∃ a, o0 = some a ∧ Hk A0 a = 12) ∧ Cn l yX11_signs cX11_signs 5 (some .int) 6 134 10 179 [vR o0, vI a1, vI a2] A0 (some (vI r.1)) r.2 := by
  unfold fX11_signs at h
  replace h := bnd_e h
  obtain ⟨o1, e1, h⟩ := h
  obtain ⟨rfl, hk0⟩ := rcv_e e1
  refine ⟨⟨o1, rfl, hk0⟩, ?_⟩
  refine Cn.of (pad := 2) (lv0 := [some (vR (some o1)), some (vI a1), some (vI a2), none, none]) (by decide +kernel) (Nat.le_of_ble_eq_true rfl) rfl ?_
  intro p e s m below meth c base D cy E
  generalize (List.map toV [vR (some o1), vI a1, vI a2]).toArray = ar at E ⊢
  have E : EN p s m ar meth c D cy RX11 cX11_signs 5 (some .int) "signs" := E
  refine v_aload_n E dX11_signs_0 rfl ?_
  replace h := bnd_e h
  obtain ⟨v1, ev1, h⟩ := h
  refine g11_10 E ev1 dX11_signs_1 ?_
  refine v_iload_n E dX11_signs_4 rfl ?_
  replace h := bnd_e h
  obtain ⟨r2, er2, h⟩ := h
  refine v_callV (na := 1) (As := [vI a1]) (rest := []) (ci := 8) (q := (RX8, TX8, 2)) E gw11_110 (by decide +kernel) rfl rfl (by decide) (kX8_get l er2).2 (kX8_get l er2).1 rfl rfl dX11_signs_5 ⟨Nat.le_of_ble_eq_true rfl, Nat.le_of_ble_eq_true rfl⟩ ⟨(Nat.le_of_ble_eq_true rfl), (Nat.le_of_ble_eq_true rfl)⟩ (Nat.le_of_ble_eq_true rfl) ?_
  refine v_astore_n (lv' := [some (vR (some o1)), some (vI a1), some (vI a2), some (vR r2), none]) E dX11_signs_8 (by decide) rfl ?_
  refine v_aload_n E dX11_signs_9 rfl ?_
  refine v_ifnull (tgt := 24) E dX11_signs_10 (by decide) (fun c12 => ?_) (fun c12 => ?_)
  · rw [if_pos c12] at h
    refine v_ldc (v := (-1000000001)) E dX11_signs_24 q516 ?_
    replace h := Option.some.inj h
    subst h
    refine v_widen (k' := 10) (n' := 179) (Nat.le_of_ble_eq_true rfl) (Nat.le_of_ble_eq_true rfl) ?_
    exact v_iret E dX11_signs_26
  · rw [if_neg c12] at h
    refine v_aload_n E dX11_signs_13 rfl ?_
    replace h := bnd_e h
    obtain ⟨r3, er3, h⟩ := h
    refine v_callV (na := 0) (As := []) (rest := []) (ci := 10) (q := (RX10, TX10, 3)) E gw11_115 (by decide +kernel) rfl rfl (by decide) (kX10_row l er3).2 (kX10_row l er3).1 rfl rfl dX11_signs_14 ⟨Nat.le_of_ble_eq_true rfl, Nat.le_of_ble_eq_true rfl⟩ ⟨(Nat.le_of_ble_eq_true rfl), (Nat.le_of_ble_eq_true rfl)⟩ (Nat.le_of_ble_eq_true rfl) ?_
    refine v_iload_n E dX11_signs_17 rfl ?_
    replace h := bnd_e h
    obtain ⟨r4, er4, h⟩ := h
    refine v_callV (na := 1) (As := [vI a2]) (rest := []) (ci := 7) (q := (RX7, TX7, 14)) E gw11_213 (by decide +kernel) rfl rfl (by decide) (kX7_hasLetters l er4).2 (kX7_hasLetters l er4).1 rfl rfl dX11_signs_18 ⟨Nat.le_of_ble_eq_true rfl, Nat.le_of_ble_eq_true rfl⟩ ⟨(Nat.le_of_ble_eq_true rfl), (Nat.le_of_ble_eq_true rfl)⟩ (Nat.le_of_ble_eq_true rfl) ?_
    refine v_if_ne (tgt := 27) E dX11_signs_21 (by decide) (fun c11 => ?_) (fun c11 => ?_)
    · rw [if_neg c11] at h
      refine n11_116 E (Nat.le_of_ble_eq_true rfl) (Nat.le_of_ble_eq_true rfl) dX11_signs_27 ?_
      refine v_dup E dX11_signs_30 rfl ?_
      refine v_aload_n E dX11_signs_31 rfl ?_
      replace h := bnd_e h
      obtain ⟨r5, er5, h⟩ := h
      refine v_callV (na := 0) (As := []) (rest := [vR (some (Hs A0)), vR (some (Hs A0))]) (ci := 10) (q := (RX10, TX10, 3)) E gw11_115 (by decide +kernel) rfl rfl (by decide) (kX10_row l er5).2 (kX10_row l er5).1 rfl rfl dX11_signs_32 ⟨Nat.le_of_ble_eq_true rfl, Nat.le_of_ble_eq_true rfl⟩ ⟨(Nat.le_of_ble_eq_true rfl), (Nat.le_of_ble_eq_true rfl)⟩ (Nat.le_of_ble_eq_true rfl) ?_
      refine v_iload_n E dX11_signs_35 rfl ?_
      replace h := bnd_e h
      obtain ⟨r6, er6, h⟩ := h
      refine v_callI (na := 2) (As := [vR r5, vI a2]) (rest := [vR (some (Hs A0))]) E gw11_223 q394 q395 q97 rfl (by decide +kernel) (kX10_init l er6).2 (Exists.elim (kX10_init l er6).1 (fun a q => ⟨a, q.1⟩)) rfl rfl dX11_signs_36 ⟨Nat.le_of_ble_eq_true rfl, Nat.le_of_ble_eq_true rfl⟩ ⟨(Nat.le_of_ble_eq_true rfl), (Nat.le_of_ble_eq_true rfl)⟩ (Nat.le_of_ble_eq_true rfl) ?_
      refine v_astore (lv' := [some (vR (some o1)), some (vI a1), some (vI a2), some (vR r2), some (vR (some (Hs A0)))]) E dX11_signs_39 (by decide) rfl ?_
      refine v_aload_n E dX11_signs_41 rfl ?_
      refine v_iload_n E dX11_signs_42 rfl ?_
      refine v_aload E dX11_signs_43 rfl ?_
      replace h := bnd_e h
      obtain ⟨r7, er7, h⟩ := h
      refine v_callV (na := 2) (As := [vI a1, vR (some (Hs A0))]) (rest := []) (ci := 11) (q := (RX11, TX11, 8)) E gw11_226 (by decide +kernel) rfl rfl (by decide) (kX11_becomes l er7).2 (kX11_becomes l er7).1 rfl rfl dX11_signs_45 ⟨Nat.le_of_ble_eq_true rfl, Nat.le_of_ble_eq_true rfl⟩ ⟨(Nat.le_of_ble_eq_true rfl), (Nat.le_of_ble_eq_true rfl)⟩ (Nat.le_of_ble_eq_true rfl) ?_
      refine v_widen (k' := 3) (n' := 11) (Nat.le_of_ble_eq_true rfl) (Nat.le_of_ble_eq_true rfl) ?_
      refine v_aload E dX11_signs_48 rfl ?_
      refine v_aload_n E dX11_signs_50 rfl ?_
      replace h := bnd_e h
      obtain ⟨v8, ev8, h⟩ := h
      refine g11_61 E ev8 dX11_signs_51 ?_
      replace h := bnd_e h
      obtain ⟨r9, er9, h⟩ := h
      refine v_callV (na := 1) (As := [vR v8]) (rest := []) (ci := 10) (q := (RX10, TX10, 3)) E gw11_136 (by decide +kernel) rfl rfl (by decide) (kX10_faces l er9).2 (kX10_faces l er9).1 rfl rfl dX11_signs_54 ⟨Nat.le_of_ble_eq_true rfl, Nat.le_of_ble_eq_true rfl⟩ ⟨(Nat.le_of_ble_eq_true rfl), (Nat.le_of_ble_eq_true rfl)⟩ (Nat.le_of_ble_eq_true rfl) ?_
      refine v_widen (k' := 10) (n' := 179) (Nat.le_of_ble_eq_true rfl) (Nat.le_of_ble_eq_true rfl) ?_
      replace h := bnd_e h
      obtain ⟨r10, er10, h⟩ := h
      refine v_callV (na := 0) (As := []) (rest := []) (ci := 3) (q := (RX3, TX3, 8)) E gw11_140 (by decide +kernel) rfl rfl (by decide) (kX3_count l er10).2 (kX3_count l er10).1 rfl rfl dX11_signs_57 ⟨Nat.le_of_ble_eq_true rfl, Nat.le_of_ble_eq_true rfl⟩ ⟨(Nat.le_of_ble_eq_true rfl), (Nat.le_of_ble_eq_true rfl)⟩ (Nat.le_of_ble_eq_true rfl) ?_
      replace h := Option.some.inj h
      subst h
      refine v_widen (k' := 10) (n' := 179) (Nat.le_of_ble_eq_true rfl) (Nat.le_of_ble_eq_true rfl) ?_
      exact v_iret E dX11_signs_60
    · rw [if_pos c11] at h
      refine v_ldc (v := (-1000000001)) E dX11_signs_24 q516 ?_
      replace h := Option.some.inj h
      subst h
      refine v_widen (k' := 10) (n' := 179) (Nat.le_of_ble_eq_true rfl) (Nat.le_of_ble_eq_true rfl) ?_
      exact v_iret E dX11_signs_26
noncomputable def fX11_draw (A0 : AH) (o0 : Option Nat) (a1 : Int32) : Option (Int32 × AH) :=
  (rcv A0 12 o0).bind fun o0 =>
  (gR A0 12 352 ((some o0))).bind fun v1 =>
  (fX8_get A0 v1 a1).bind fun r2 =>
  if r2 = none then
    some (((-1000000001), A0))
  else
    (fX10_row A0 r2).bind fun r3 =>
    (gR A0 12 359 ((some o0))).bind fun v4 =>
    (fX7_drawnSigns A0 r3 v4).bind fun r5 =>
    if r5.1 = (-1) then
      some (((-1000000003), r5.2))
    else
      (fX10_row ((nw r5.2 11 0)) r2).bind fun r6 =>
      (fX10_init ((nw r5.2 11 0)) ((some (Hs r5.2))) r6 r5.1).bind fun r7 =>
      (fX11_becomes r7 ((some o0)) a1 ((some (Hs r5.2)))).bind fun r8 =>
      some ((r5.1, r8))
set_option maxRecDepth 100000 in
set_option maxHeartbeats 4000000 in
theorem kX11_draw (l : Launch) {A0 : AH} {o0 : Option Nat} {a1 : Int32} {r : Int32 × AH} (h : fX11_draw A0 o0 a1 = some r) : (∃ a, o0 = some a ∧ Hk A0 a = 12) ∧ Cn l yX11_draw cX11_draw 4 (some .int) 6 133 3 11 [vR o0, vI a1] A0 (some (vI r.1)) r.2 := by
  unfold fX11_draw at h
  replace h := bnd_e h
  obtain ⟨o1, e1, h⟩ := h
  obtain ⟨rfl, hk0⟩ := rcv_e e1
  refine ⟨⟨o1, rfl, hk0⟩, ?_⟩
  refine Cn.of (pad := 2) (lv0 := [some (vR (some o1)), some (vI a1), none, none]) (by decide +kernel) (Nat.le_of_ble_eq_true rfl) rfl ?_
  intro p e s m below meth c base D cy E
  generalize (List.map toV [vR (some o1), vI a1]).toArray = ar at E ⊢
  have E : EN p s m ar meth c D cy RX11 cX11_draw 4 (some .int) "draw" := E
  refine v_aload_n E dX11_draw_0 rfl ?_
  replace h := bnd_e h
  obtain ⟨v1, ev1, h⟩ := h
  refine g11_10 E ev1 dX11_draw_1 ?_
  refine v_iload_n E dX11_draw_4 rfl ?_
  replace h := bnd_e h
  obtain ⟨r2, er2, h⟩ := h
  refine v_callV (na := 1) (As := [vI a1]) (rest := []) (ci := 8) (q := (RX8, TX8, 2)) E gw11_110 (by decide +kernel) rfl rfl (by decide) (kX8_get l er2).2 (kX8_get l er2).1 rfl rfl dX11_draw_5 ⟨Nat.le_of_ble_eq_true rfl, Nat.le_of_ble_eq_true rfl⟩ ⟨(Nat.le_of_ble_eq_true rfl), (Nat.le_of_ble_eq_true rfl)⟩ (Nat.le_of_ble_eq_true rfl) ?_
  refine v_astore_n (lv' := [some (vR (some o1)), some (vI a1), some (vR r2), none]) E dX11_draw_8 (by decide) rfl ?_
  refine v_aload_n E dX11_draw_9 rfl ?_
  refine v_ifnonnull (tgt := 16) E dX11_draw_10 (by decide) (fun c10 => ?_) (fun c10 => ?_)
  · rw [if_neg c10] at h
    refine v_aload_n E dX11_draw_16 rfl ?_
    replace h := bnd_e h
    obtain ⟨r3, er3, h⟩ := h
    refine v_callV (na := 0) (As := []) (rest := []) (ci := 10) (q := (RX10, TX10, 3)) E gw11_115 (by decide +kernel) rfl rfl (by decide) (kX10_row l er3).2 (kX10_row l er3).1 rfl rfl dX11_draw_17 ⟨Nat.le_of_ble_eq_true rfl, Nat.le_of_ble_eq_true rfl⟩ ⟨(Nat.le_of_ble_eq_true rfl), (Nat.le_of_ble_eq_true rfl)⟩ (Nat.le_of_ble_eq_true rfl) ?_
    refine v_aload_n E dX11_draw_20 rfl ?_
    replace h := bnd_e h
    obtain ⟨v4, ev4, h⟩ := h
    refine g11_61 E ev4 dX11_draw_21 ?_
    replace h := bnd_e h
    obtain ⟨r5, er5, h⟩ := h
    refine v_callV (na := 1) (As := [vR v4]) (rest := []) (ci := 7) (q := (RX7, TX7, 14)) E gw11_146 (by decide +kernel) rfl rfl (by decide) (kX7_drawnSigns l er5).2 (kX7_drawnSigns l er5).1 rfl rfl dX11_draw_24 ⟨Nat.le_of_ble_eq_true rfl, Nat.le_of_ble_eq_true rfl⟩ ⟨(Nat.le_of_ble_eq_true rfl), (Nat.le_of_ble_eq_true rfl)⟩ (Nat.le_of_ble_eq_true rfl) ?_
    refine v_istore_n (lv' := [some (vR (some o1)), some (vI a1), some (vR r2), some (vI r5.1)]) E dX11_draw_27 (by decide) rfl ?_
    refine v_iload_n E dX11_draw_28 rfl ?_
    refine v_iconst (v := (-1)) E dX11_draw_29 (by decide) ?_
    refine v_icmp_ne (tgt := 36) E dX11_draw_30 (by decide) (fun c9 => ?_) (fun c9 => ?_)
    · rw [if_neg c9] at h
      refine v_aload_n E dX11_draw_36 rfl ?_
      refine v_iload_n E dX11_draw_37 rfl ?_
      refine n11_116 E (Nat.le_of_ble_eq_true rfl) (Nat.le_of_ble_eq_true rfl) dX11_draw_38 ?_
      refine v_dup E dX11_draw_41 rfl ?_
      refine v_aload_n E dX11_draw_42 rfl ?_
      replace h := bnd_e h
      obtain ⟨r6, er6, h⟩ := h
      refine v_callV (na := 0) (As := []) (rest := [vR (some (Hs r5.2)), vR (some (Hs r5.2)), vI a1, vR (some o1)]) (ci := 10) (q := (RX10, TX10, 3)) E gw11_115 (by decide +kernel) rfl rfl (by decide) (kX10_row l er6).2 (kX10_row l er6).1 rfl rfl dX11_draw_43 ⟨Nat.le_of_ble_eq_true rfl, Nat.le_of_ble_eq_true rfl⟩ ⟨(Nat.le_of_ble_eq_true rfl), (Nat.le_of_ble_eq_true rfl)⟩ (Nat.le_of_ble_eq_true rfl) ?_
      refine v_iload_n E dX11_draw_46 rfl ?_
      replace h := bnd_e h
      obtain ⟨r7, er7, h⟩ := h
      refine v_callI (na := 2) (As := [vR r6, vI r5.1]) (rest := [vR (some (Hs r5.2)), vI a1, vR (some o1)]) E gw11_223 q394 q395 q97 rfl (by decide +kernel) (kX10_init l er7).2 (Exists.elim (kX10_init l er7).1 (fun a q => ⟨a, q.1⟩)) rfl rfl dX11_draw_47 ⟨Nat.le_of_ble_eq_true rfl, Nat.le_of_ble_eq_true rfl⟩ ⟨(Nat.le_of_ble_eq_true rfl), (Nat.le_of_ble_eq_true rfl)⟩ (Nat.le_of_ble_eq_true rfl) ?_
      replace h := bnd_e h
      obtain ⟨r8, er8, h⟩ := h
      refine v_callV (na := 2) (As := [vI a1, vR (some (Hs r5.2))]) (rest := []) (ci := 11) (q := (RX11, TX11, 8)) E gw11_226 (by decide +kernel) rfl rfl (by decide) (kX11_becomes l er8).2 (kX11_becomes l er8).1 rfl rfl dX11_draw_50 ⟨Nat.le_of_ble_eq_true rfl, Nat.le_of_ble_eq_true rfl⟩ ⟨(Nat.le_of_ble_eq_true rfl), (Nat.le_of_ble_eq_true rfl)⟩ (Nat.le_of_ble_eq_true rfl) ?_
      refine v_widen (k' := 3) (n' := 11) (Nat.le_of_ble_eq_true rfl) (Nat.le_of_ble_eq_true rfl) ?_
      refine v_iload_n E dX11_draw_53 rfl ?_
      replace h := Option.some.inj h
      subst h
      refine v_widen (k' := 3) (n' := 11) (Nat.le_of_ble_eq_true rfl) (Nat.le_of_ble_eq_true rfl) ?_
      exact v_iret E dX11_draw_54
    · rw [if_pos c9] at h
      refine v_ldc (v := (-1000000003)) E dX11_draw_33 q813 ?_
      replace h := Option.some.inj h
      subst h
      refine v_widen (k' := 3) (n' := 11) (Nat.le_of_ble_eq_true rfl) (Nat.le_of_ble_eq_true rfl) ?_
      exact v_iret E dX11_draw_35
  · rw [if_pos c10] at h
    refine v_ldc (v := (-1000000001)) E dX11_draw_13 q516 ?_
    replace h := Option.some.inj h
    subst h
    refine v_widen (k' := 3) (n' := 11) (Nat.le_of_ble_eq_true rfl) (Nat.le_of_ble_eq_true rfl) ?_
    exact v_iret E dX11_draw_15
noncomputable def fX1_writeTurned (A0 : AH) (o0 : Option Nat) (a1 : Option Nat) (a2 : Int32) (a3 : Int32) : Option (AH) :=
  (rcv A0 2 o0).bind fun o0 =>
  (fX1_clear A0 ((some o0))).bind fun r1 =>
  (iter (S := Int32 × Int32 × AH) (T := AH) (fun s2 =>
      (fX7_placeCount s2.2.2 a1).bind fun r5 =>
      if r5 ≤ s2.2.1 then
        some (.inr s2.2.2)
      else
        (fX7_letterOn s2.2.2 a1 s2.1).bind fun r6 =>
        (fX1_put s2.2.2 ((some o0)) r6).bind fun r7 =>
        jp (fun (x12 : Int32) =>
          some (.inl (x12, (s2.2.1 + 1), r7))) fun K8 =>
          if a3 = 0 then
            (fX7_placeBehind r7 a1 s2.1).bind fun r9 =>
            K8 r9
          else
            (fX7_placeAhead r7 a1 s2.1).bind fun r10 =>
            K8 r10) (a2, 0, r1)).bind fun t3 =>
  some t3
set_option maxRecDepth 100000 in
set_option maxHeartbeats 4000000 in
theorem kX1_writeTurned (l : Launch) {A0 : AH} {o0 : Option Nat} {a1 : Option Nat} {a2 : Int32} {a3 : Int32} {r : AH} (h : fX1_writeTurned A0 o0 a1 a2 a3 = some r) : (∃ a, o0 = some a ∧ Hk A0 a = 2) ∧ Cn l yX1_writeTurned cX1_writeTurned 6 none 2 42 0 0 [vR o0, vR a1, vI a2, vI a3] A0 none r := by
  unfold fX1_writeTurned at h
  replace h := bnd_e h
  obtain ⟨o1, e1, h⟩ := h
  obtain ⟨rfl, hk0⟩ := rcv_e e1
  refine ⟨⟨o1, rfl, hk0⟩, ?_⟩
  refine Cn.of (pad := 2) (lv0 := [some (vR (some o1)), some (vR a1), some (vI a2), some (vI a3), none, none]) (by decide +kernel) (Nat.le_of_ble_eq_true rfl) rfl ?_
  intro p e s m below meth c base D cy E
  generalize (List.map toV [vR (some o1), vR a1, vI a2, vI a3]).toArray = ar at E ⊢
  have E : EN p s m ar meth c D cy RX1 cX1_writeTurned 6 none "writeTurned" := E
  refine v_aload_n E dX1_writeTurned_0 rfl ?_
  replace h := bnd_e h
  obtain ⟨r1, er1, h⟩ := h
  refine v_callV (na := 0) (As := []) (rest := []) (ci := 1) (q := (RX1, TX1, 2)) E gw1_28 (by decide +kernel) rfl rfl (by decide) (kX1_clear l er1).2 (kX1_clear l er1).1 rfl rfl dX1_writeTurned_1 ⟨Nat.le_of_ble_eq_true rfl, Nat.le_of_ble_eq_true rfl⟩ ⟨(Nat.le_of_ble_eq_true rfl), (Nat.le_of_ble_eq_true rfl)⟩ (Nat.le_of_ble_eq_true rfl) ?_
  refine v_iload_n E dX1_writeTurned_4 rfl ?_
  refine v_istore (lv' := [some (vR (some o1)), some (vR a1), some (vI a2), some (vI a3), some (vI a2), none]) E dX1_writeTurned_5 (by decide) rfl ?_
  refine v_iconst (v := 0) E dX1_writeTurned_7 (by decide) ?_
  refine v_istore (lv' := [some (vR (some o1)), some (vR a1), some (vI a2), some (vI a3), some (vI a2), some (vI 0)]) E dX1_writeTurned_8 (by decide) rfl ?_
  refine v_drop (lv' := [some (vR (some o1)), some (vR a1), none, some (vI a3), some (vI a2), some (vI 0)]) [2] rfl ?_
  replace h := bnd_e h
  obtain ⟨t3, et3, h⟩ := h
  refine iter_V (S := Int32 × Int32 × AH) (T := AH) (Ph := fun s2 => V p l e { frames := 2, cells := 0, slots := 0, locals := 42 } s m ar below meth c (MQ below (Qd base D cy none r) ar s 0 0 (fun q => base ≤ q)) base D cy 6 10 [some (vR (some o1)), some (vR a1), none, some (vI a3), some (vI s2.1), some (vI s2.2.1)] [] s2.2.2 0 0) (Pt := fun t3 => V p l e { frames := 2, cells := 0, slots := 0, locals := 42 } s m ar below meth c (MQ below (Qd base D cy none r) ar s 0 0 (fun q => base ≤ q)) base D cy 6 56 [none, none, none, none, none, none] [] t3 0 0) et3 (fun s2 w4 h hx => ?_) ?_
  · try dsimp only at h
    refine v_iload E dX1_writeTurned_10 rfl ?_
    refine v_aload_n E dX1_writeTurned_12 rfl ?_
    replace h := bnd_e h
    obtain ⟨r5, er5, h⟩ := h
    refine v_callV (na := 0) (As := []) (rest := [vI s2.2.1]) (ci := 7) (q := (RX7, TX7, 14)) E gw1_31 (by decide +kernel) rfl rfl (by decide) (kX7_placeCount l er5).2 (kX7_placeCount l er5).1 rfl rfl dX1_writeTurned_13 ⟨Nat.le_of_ble_eq_true rfl, Nat.le_of_ble_eq_true rfl⟩ ⟨(Nat.le_of_ble_eq_true rfl), (Nat.le_of_ble_eq_true rfl)⟩ (Nat.le_of_ble_eq_true rfl) ?_
    refine v_icmp_ge (tgt := 56) E dX1_writeTurned_16 (by decide) (fun c13 => ?_) (fun c13 => ?_)
    · rw [if_pos c13] at h
      refine v_drop (lv' := [none, none, none, none, none, none]) [0, 1, 3, 4, 5] rfl ?_
      replace h := Option.some.inj h
      subst h
      exact hx
    · rw [if_neg c13] at h
      refine v_aload_n E dX1_writeTurned_19 rfl ?_
      refine v_aload_n E dX1_writeTurned_20 rfl ?_
      refine v_iload E dX1_writeTurned_21 rfl ?_
      replace h := bnd_e h
      obtain ⟨r6, er6, h⟩ := h
      refine v_callV (na := 1) (As := [vI s2.1]) (rest := [vR (some o1)]) (ci := 7) (q := (RX7, TX7, 14)) E gw1_37 (by decide +kernel) rfl rfl (by decide) (kX7_letterOn l er6).2 (kX7_letterOn l er6).1 rfl rfl dX1_writeTurned_23 ⟨Nat.le_of_ble_eq_true rfl, Nat.le_of_ble_eq_true rfl⟩ ⟨(Nat.le_of_ble_eq_true rfl), (Nat.le_of_ble_eq_true rfl)⟩ (Nat.le_of_ble_eq_true rfl) ?_
      replace h := bnd_e h
      obtain ⟨r7, er7, h⟩ := h
      refine v_callV (na := 1) (As := [vI r6]) (rest := []) (ci := 1) (q := (RX1, TX1, 2)) E gw1_41 (by decide +kernel) rfl rfl (by decide) (kX1_put l er7).2 (kX1_put l er7).1 rfl rfl dX1_writeTurned_26 ⟨Nat.le_of_ble_eq_true rfl, Nat.le_of_ble_eq_true rfl⟩ ⟨(Nat.le_of_ble_eq_true rfl), (Nat.le_of_ble_eq_true rfl)⟩ (Nat.le_of_ble_eq_true rfl) ?_
      refine v_iload_n E dX1_writeTurned_29 rfl ?_
      refine jp_use h (fun K8 eK8 h => ?_)
      have hK8 : ∀ x12 : Int32, K8 x12 = some w4 → V p l e { frames := 2, cells := 0, slots := 0, locals := 42 } s m ar below meth c (MQ below (Qd base D cy none r) ar s 0 0 (fun q => base ≤ q)) base D cy 6 48 [some (vR (some o1)), some (vR a1), none, some (vI a3), none, some (vI s2.2.1)] [vI x12] r7 0 0 := by
        intro x12 h
        rw [eK8] at h
        try dsimp only at h
        refine v_istore (lv' := [some (vR (some o1)), some (vR a1), none, some (vI a3), some (vI x12), some (vI s2.2.1)]) E dX1_writeTurned_48 (by decide) rfl ?_
        refine v_iinc (v := (s2.2.1 + 1)) (lv' := [some (vR (some o1)), some (vR a1), none, some (vI a3), some (vI x12), some (vI (s2.2.1 + 1))]) E dX1_writeTurned_50 rfl (by rfl) (by decide) rfl ?_
        refine v_goto (tgt := 10) E dX1_writeTurned_53 (by decide) ?_
        replace h := Option.some.inj h
        subst h
        exact hx
      refine v_if_eq (tgt := 42) E dX1_writeTurned_30 (by decide) (fun c11 => ?_) (fun c11 => ?_)
      · rw [if_pos c11] at h
        refine v_aload_n E dX1_writeTurned_42 rfl ?_
        refine v_iload E dX1_writeTurned_43 rfl ?_
        replace h := bnd_e h
        obtain ⟨r9, er9, h⟩ := h
        refine v_callV (na := 1) (As := [vI s2.1]) (rest := []) (ci := 7) (q := (RX7, TX7, 14)) E gw1_48 (by decide +kernel) rfl rfl (by decide) (kX7_placeBehind l er9).2 (kX7_placeBehind l er9).1 rfl rfl dX1_writeTurned_45 ⟨Nat.le_of_ble_eq_true rfl, Nat.le_of_ble_eq_true rfl⟩ ⟨(Nat.le_of_ble_eq_true rfl), (Nat.le_of_ble_eq_true rfl)⟩ (Nat.le_of_ble_eq_true rfl) ?_
        refine v_drop (lv' := [some (vR (some o1)), some (vR a1), none, some (vI a3), none, some (vI s2.2.1)]) [4] rfl ?_
        exact hK8 r9 h
      · rw [if_neg c11] at h
        refine v_aload_n E dX1_writeTurned_33 rfl ?_
        refine v_iload E dX1_writeTurned_34 rfl ?_
        replace h := bnd_e h
        obtain ⟨r10, er10, h⟩ := h
        refine v_callV (na := 1) (As := [vI s2.1]) (rest := []) (ci := 7) (q := (RX7, TX7, 14)) E gw1_45 (by decide +kernel) rfl rfl (by decide) (kX7_placeAhead l er10).2 (kX7_placeAhead l er10).1 rfl rfl dX1_writeTurned_36 ⟨Nat.le_of_ble_eq_true rfl, Nat.le_of_ble_eq_true rfl⟩ ⟨(Nat.le_of_ble_eq_true rfl), (Nat.le_of_ble_eq_true rfl)⟩ (Nat.le_of_ble_eq_true rfl) ?_
        refine v_goto (tgt := 48) E dX1_writeTurned_39 (by decide) ?_
        refine v_drop (lv' := [some (vR (some o1)), some (vR a1), none, some (vI a3), none, some (vI s2.2.1)]) [4] rfl ?_
        exact hK8 r10 h
  · replace h := Option.some.inj h
    subst h
    refine v_widen (k' := 0) (n' := 0) (Nat.le_of_ble_eq_true rfl) (Nat.le_of_ble_eq_true rfl) ?_
    exact v_vret E dX1_writeTurned_56
noncomputable def fX11_becomesDraft (A0 : AH) (o0 : Option Nat) (a1 : Int32) : Option (Option Nat × AH) :=
  (rcv A0 12 o0).bind fun o0 =>
  (gR ((nw A0 8 0)) 12 358 ((some o0))).bind fun v1 =>
  (fX7_init ((nw A0 8 0)) ((some (Hs A0))) v1).bind fun r2 =>
  (fX10_init ((nw r2 11 0)) ((some (Hs r2))) ((some (Hs A0))) 0).bind fun r3 =>
  (fX11_becomes r3 ((some o0)) a1 ((some (Hs r2)))).bind fun r4 =>
  some (((some (Hs A0)), r4))
set_option maxRecDepth 100000 in
set_option maxHeartbeats 4000000 in
theorem kX11_becomesDraft (l : Launch) {A0 : AH} {o0 : Option Nat} {a1 : Int32} {r : Option Nat × AH} (h : fX11_becomesDraft A0 o0 a1 = some r) : (∃ a, o0 = some a ∧ Hk A0 a = 12) ∧ Cn l yX11_becomesDraft cX11_becomesDraft 3 (some (.object "OneStrokes$Row")) 4 86 9 75 [vR o0, vI a1] A0 (some (vR r.1)) r.2 := by
  unfold fX11_becomesDraft at h
  replace h := bnd_e h
  obtain ⟨o1, e1, h⟩ := h
  obtain ⟨rfl, hk0⟩ := rcv_e e1
  refine ⟨⟨o1, rfl, hk0⟩, ?_⟩
  refine Cn.of (pad := 1) (lv0 := [some (vR (some o1)), some (vI a1), none]) (by decide +kernel) (Nat.le_of_ble_eq_true rfl) rfl ?_
  intro p e s m below meth c base D cy E
  generalize (List.map toV [vR (some o1), vI a1]).toArray = ar at E ⊢
  have E : EN p s m ar meth c D cy RX11 cX11_becomesDraft 3 (some (.object "OneStrokes$Row")) "becomesDraft" := E
  refine n11_122 E (Nat.le_of_ble_eq_true rfl) (Nat.le_of_ble_eq_true rfl) dX11_becomesDraft_0 ?_
  refine v_dup E dX11_becomesDraft_3 rfl ?_
  refine v_aload_n E dX11_becomesDraft_4 rfl ?_
  replace h := bnd_e h
  obtain ⟨v1, ev1, h⟩ := h
  refine g11_54 E ev1 dX11_becomesDraft_5 ?_
  replace h := bnd_e h
  obtain ⟨r2, er2, h⟩ := h
  refine v_callI (na := 1) (As := [vR v1]) (rest := [vR (some (Hs A0))]) E gw11_320 q335 q336 q98 rfl (by decide +kernel) (kX7_init l er2).2 (Exists.elim (kX7_init l er2).1 (fun a q => ⟨a, q.1⟩)) rfl rfl dX11_becomesDraft_8 ⟨Nat.le_of_ble_eq_true rfl, Nat.le_of_ble_eq_true rfl⟩ ⟨(Nat.le_of_ble_eq_true rfl), (Nat.le_of_ble_eq_true rfl)⟩ (Nat.le_of_ble_eq_true rfl) ?_
  refine v_widen (k' := 6) (n' := 64) (Nat.le_of_ble_eq_true rfl) (Nat.le_of_ble_eq_true rfl) ?_
  refine v_astore_n (lv' := [some (vR (some o1)), some (vI a1), some (vR (some (Hs A0)))]) E dX11_becomesDraft_11 (by decide) rfl ?_
  refine v_aload_n E dX11_becomesDraft_12 rfl ?_
  refine v_iload_n E dX11_becomesDraft_13 rfl ?_
  refine n11_116 E (Nat.le_of_ble_eq_true rfl) (Nat.le_of_ble_eq_true rfl) dX11_becomesDraft_14 ?_
  refine v_dup E dX11_becomesDraft_17 rfl ?_
  refine v_aload_n E dX11_becomesDraft_18 rfl ?_
  refine v_iconst (v := 0) E dX11_becomesDraft_19 (by decide) ?_
  replace h := bnd_e h
  obtain ⟨r3, er3, h⟩ := h
  refine v_callI (na := 2) (As := [vR (some (Hs A0)), vI 0]) (rest := [vR (some (Hs r2)), vI a1, vR (some o1)]) E gw11_223 q394 q395 q97 rfl (by decide +kernel) (kX10_init l er3).2 (Exists.elim (kX10_init l er3).1 (fun a q => ⟨a, q.1⟩)) rfl rfl dX11_becomesDraft_20 ⟨Nat.le_of_ble_eq_true rfl, Nat.le_of_ble_eq_true rfl⟩ ⟨(Nat.le_of_ble_eq_true rfl), (Nat.le_of_ble_eq_true rfl)⟩ (Nat.le_of_ble_eq_true rfl) ?_
  replace h := bnd_e h
  obtain ⟨r4, er4, h⟩ := h
  refine v_callV (na := 2) (As := [vI a1, vR (some (Hs r2))]) (rest := []) (ci := 11) (q := (RX11, TX11, 8)) E gw11_226 (by decide +kernel) rfl rfl (by decide) (kX11_becomes l er4).2 (kX11_becomes l er4).1 rfl rfl dX11_becomesDraft_23 ⟨Nat.le_of_ble_eq_true rfl, Nat.le_of_ble_eq_true rfl⟩ ⟨(Nat.le_of_ble_eq_true rfl), (Nat.le_of_ble_eq_true rfl)⟩ (Nat.le_of_ble_eq_true rfl) ?_
  refine v_widen (k' := 9) (n' := 75) (Nat.le_of_ble_eq_true rfl) (Nat.le_of_ble_eq_true rfl) ?_
  refine v_aload_n E dX11_becomesDraft_26 rfl ?_
  replace h := Option.some.inj h
  subst h
  refine v_widen (k' := 9) (n' := 75) (Nat.le_of_ble_eq_true rfl) (Nat.le_of_ble_eq_true rfl) ?_
  exact v_aret E dX11_becomesDraft_27
noncomputable def fX11_turn (A0 : AH) (o0 : Option Nat) (a1 : Int32) (a2 : Int32) (a3 : Int32) : Option (Int32 × AH) :=
  (rcv A0 12 o0).bind fun o0 =>
  (gR A0 12 352 ((some o0))).bind fun v1 =>
  (fX8_get A0 v1 a1).bind fun r2 =>
  if r2 = none then
    some (((-1000000001), A0))
  else
    (fX10_row A0 r2).bind fun r3 =>
    (fX7_hasPlace A0 r3 a2).bind fun r4 =>
    if r4 = 0 then
      some (((-1000000001), A0))
    else
      (gR A0 12 358 ((some o0))).bind fun v5 =>
      (fX10_row A0 r2).bind fun r6 =>
      (fX1_writeTurned A0 v5 r6 a2 a3).bind fun r7 =>
      (fX11_becomesDraft r7 ((some o0)) a1).bind fun r8 =>
      (fX7_kin r8.2 r8.1).bind fun r9 =>
      some ((r9.1, r9.2))
set_option maxRecDepth 100000 in
set_option maxHeartbeats 4000000 in
theorem kX11_turn (l : Launch) {A0 : AH} {o0 : Option Nat} {a1 : Int32} {a2 : Int32} {a3 : Int32} {r : Int32 × AH} (h : fX11_turn A0 o0 a1 a2 a3 = some r) : (∃ a, o0 = some a ∧ Hk A0 a = 12) ∧ Cn l yX11_turn cX11_turn 5 (some .int) 5 108 10 83 [vR o0, vI a1, vI a2, vI a3] A0 (some (vI r.1)) r.2 := by
  unfold fX11_turn at h
  replace h := bnd_e h
  obtain ⟨o1, e1, h⟩ := h
  obtain ⟨rfl, hk0⟩ := rcv_e e1
  refine ⟨⟨o1, rfl, hk0⟩, ?_⟩
  refine Cn.of (pad := 1) (lv0 := [some (vR (some o1)), some (vI a1), some (vI a2), some (vI a3), none]) (by decide +kernel) (Nat.le_of_ble_eq_true rfl) rfl ?_
  intro p e s m below meth c base D cy E
  generalize (List.map toV [vR (some o1), vI a1, vI a2, vI a3]).toArray = ar at E ⊢
  have E : EN p s m ar meth c D cy RX11 cX11_turn 5 (some .int) "turn" := E
  refine v_aload_n E dX11_turn_0 rfl ?_
  replace h := bnd_e h
  obtain ⟨v1, ev1, h⟩ := h
  refine g11_10 E ev1 dX11_turn_1 ?_
  refine v_iload_n E dX11_turn_4 rfl ?_
  replace h := bnd_e h
  obtain ⟨r2, er2, h⟩ := h
  refine v_callV (na := 1) (As := [vI a1]) (rest := []) (ci := 8) (q := (RX8, TX8, 2)) E gw11_110 (by decide +kernel) rfl rfl (by decide) (kX8_get l er2).2 (kX8_get l er2).1 rfl rfl dX11_turn_5 ⟨Nat.le_of_ble_eq_true rfl, Nat.le_of_ble_eq_true rfl⟩ ⟨(Nat.le_of_ble_eq_true rfl), (Nat.le_of_ble_eq_true rfl)⟩ (Nat.le_of_ble_eq_true rfl) ?_
  refine v_astore (lv' := [some (vR (some o1)), some (vI a1), some (vI a2), some (vI a3), some (vR r2)]) E dX11_turn_8 (by decide) rfl ?_
  refine v_aload E dX11_turn_10 rfl ?_
  refine v_ifnull (tgt := 27) E dX11_turn_12 (by decide) (fun c11 => ?_) (fun c11 => ?_)
  · rw [if_pos c11] at h
    refine v_ldc (v := (-1000000001)) E dX11_turn_27 q516 ?_
    replace h := Option.some.inj h
    subst h
    refine v_widen (k' := 10) (n' := 83) (Nat.le_of_ble_eq_true rfl) (Nat.le_of_ble_eq_true rfl) ?_
    exact v_iret E dX11_turn_29
  · rw [if_neg c11] at h
    refine v_aload E dX11_turn_15 rfl ?_
    replace h := bnd_e h
    obtain ⟨r3, er3, h⟩ := h
    refine v_callV (na := 0) (As := []) (rest := []) (ci := 10) (q := (RX10, TX10, 3)) E gw11_115 (by decide +kernel) rfl rfl (by decide) (kX10_row l er3).2 (kX10_row l er3).1 rfl rfl dX11_turn_17 ⟨Nat.le_of_ble_eq_true rfl, Nat.le_of_ble_eq_true rfl⟩ ⟨(Nat.le_of_ble_eq_true rfl), (Nat.le_of_ble_eq_true rfl)⟩ (Nat.le_of_ble_eq_true rfl) ?_
    refine v_iload_n E dX11_turn_20 rfl ?_
    replace h := bnd_e h
    obtain ⟨r4, er4, h⟩ := h
    refine v_callV (na := 1) (As := [vI a2]) (rest := []) (ci := 7) (q := (RX7, TX7, 14)) E gw11_231 (by decide +kernel) rfl rfl (by decide) (kX7_hasPlace l er4).2 (kX7_hasPlace l er4).1 rfl rfl dX11_turn_21 ⟨Nat.le_of_ble_eq_true rfl, Nat.le_of_ble_eq_true rfl⟩ ⟨(Nat.le_of_ble_eq_true rfl), (Nat.le_of_ble_eq_true rfl)⟩ (Nat.le_of_ble_eq_true rfl) ?_
    refine v_if_ne (tgt := 30) E dX11_turn_24 (by decide) (fun c10 => ?_) (fun c10 => ?_)
    · rw [if_neg c10] at h
      refine v_aload_n E dX11_turn_30 rfl ?_
      replace h := bnd_e h
      obtain ⟨v5, ev5, h⟩ := h
      refine g11_54 E ev5 dX11_turn_31 ?_
      refine v_aload E dX11_turn_34 rfl ?_
      replace h := bnd_e h
      obtain ⟨r6, er6, h⟩ := h
      refine v_callV (na := 0) (As := []) (rest := [vR v5]) (ci := 10) (q := (RX10, TX10, 3)) E gw11_115 (by decide +kernel) rfl rfl (by decide) (kX10_row l er6).2 (kX10_row l er6).1 rfl rfl dX11_turn_36 ⟨Nat.le_of_ble_eq_true rfl, Nat.le_of_ble_eq_true rfl⟩ ⟨(Nat.le_of_ble_eq_true rfl), (Nat.le_of_ble_eq_true rfl)⟩ (Nat.le_of_ble_eq_true rfl) ?_
      refine v_iload_n E dX11_turn_39 rfl ?_
      refine v_iload_n E dX11_turn_40 rfl ?_
      replace h := bnd_e h
      obtain ⟨r7, er7, h⟩ := h
      refine v_callV (na := 3) (As := [vR r6, vI a2, vI a3]) (rest := []) (ci := 1) (q := (RX1, TX1, 2)) E gw11_234 (by decide +kernel) rfl rfl (by decide) (kX1_writeTurned l er7).2 (kX1_writeTurned l er7).1 rfl rfl dX11_turn_41 ⟨Nat.le_of_ble_eq_true rfl, Nat.le_of_ble_eq_true rfl⟩ ⟨(Nat.le_of_ble_eq_true rfl), (Nat.le_of_ble_eq_true rfl)⟩ (Nat.le_of_ble_eq_true rfl) ?_
      refine v_aload_n E dX11_turn_44 rfl ?_
      refine v_iload_n E dX11_turn_45 rfl ?_
      replace h := bnd_e h
      obtain ⟨r8, er8, h⟩ := h
      refine v_callV (na := 1) (As := [vI a1]) (rest := []) (ci := 11) (q := (RX11, TX11, 8)) E gw11_238 (by decide +kernel) rfl rfl (by decide) (kX11_becomesDraft l er8).2 (kX11_becomesDraft l er8).1 rfl rfl dX11_turn_46 ⟨Nat.le_of_ble_eq_true rfl, Nat.le_of_ble_eq_true rfl⟩ ⟨(Nat.le_of_ble_eq_true rfl), (Nat.le_of_ble_eq_true rfl)⟩ (Nat.le_of_ble_eq_true rfl) ?_
      refine v_widen (k' := 9) (n' := 75) (Nat.le_of_ble_eq_true rfl) (Nat.le_of_ble_eq_true rfl) ?_
      replace h := bnd_e h
      obtain ⟨r9, er9, h⟩ := h
      refine v_callV (na := 0) (As := []) (rest := []) (ci := 7) (q := (RX7, TX7, 14)) E gw11_160 (by decide +kernel) rfl rfl (by decide) (kX7_kin l er9).2 (kX7_kin l er9).1 rfl rfl dX11_turn_49 ⟨Nat.le_of_ble_eq_true rfl, Nat.le_of_ble_eq_true rfl⟩ ⟨(Nat.le_of_ble_eq_true rfl), (Nat.le_of_ble_eq_true rfl)⟩ (Nat.le_of_ble_eq_true rfl) ?_
      refine v_widen (k' := 10) (n' := 83) (Nat.le_of_ble_eq_true rfl) (Nat.le_of_ble_eq_true rfl) ?_
      replace h := Option.some.inj h
      subst h
      refine v_widen (k' := 10) (n' := 83) (Nat.le_of_ble_eq_true rfl) (Nat.le_of_ble_eq_true rfl) ?_
      exact v_iret E dX11_turn_52
    · rw [if_pos c10] at h
      refine v_ldc (v := (-1000000001)) E dX11_turn_27 q516 ?_
      replace h := Option.some.inj h
      subst h
      refine v_widen (k' := 10) (n' := 83) (Nat.le_of_ble_eq_true rfl) (Nat.le_of_ble_eq_true rfl) ?_
      exact v_iret E dX11_turn_29
noncomputable def fX7_hasStep (A0 : AH) (o0 : Option Nat) (a1 : Int32) : Option (Int32) :=
  (rcv A0 8 o0).bind fun o0 =>
  if a1 < 0 then
    some 0
  else
    (fX7_stepCount A0 ((some o0))).bind fun r1 =>
    if r1 ≤ a1 then
      some 0
    else
      some 1
set_option maxRecDepth 100000 in
set_option maxHeartbeats 4000000 in
theorem kX7_hasStep (l : Launch) {A0 : AH} {o0 : Option Nat} {a1 : Int32} {r : Int32} (h : fX7_hasStep A0 o0 a1 = some r) : (∃ a, o0 = some a ∧ Hk A0 a = 8) ∧ Cn l yX7_hasStep cX7_hasStep 2 (some .boolean) 2 41 0 0 [vR o0, vI a1] A0 (some (vI r)) A0 := by
  unfold fX7_hasStep at h
  replace h := bnd_e h
  obtain ⟨o1, e1, h⟩ := h
  obtain ⟨rfl, hk0⟩ := rcv_e e1
  refine ⟨⟨o1, rfl, hk0⟩, ?_⟩
  refine Cn.of (pad := 0) (lv0 := [some (vR (some o1)), some (vI a1)]) (by decide +kernel) (Nat.le_of_ble_eq_true rfl) rfl ?_
  intro p e s m below meth c base D cy E
  generalize (List.map toV [vR (some o1), vI a1]).toArray = ar at E ⊢
  have E : EN p s m ar meth c D cy RX7 cX7_hasStep 2 (some .boolean) "hasStep" := E
  refine v_iload_n E dX7_hasStep_0 rfl ?_
  refine v_if_lt (tgt := 16) E dX7_hasStep_1 (by decide) (fun c3 => ?_) (fun c3 => ?_)
  · rw [if_pos c3] at h
    refine v_iconst (v := 0) E dX7_hasStep_16 (by decide) ?_
    replace h := Option.some.inj h
    subst h
    refine v_widen (k' := 0) (n' := 0) (Nat.le_of_ble_eq_true rfl) (Nat.le_of_ble_eq_true rfl) ?_
    exact v_zret E (Or.inl rfl) dX7_hasStep_17
  · rw [if_neg c3] at h
    refine v_iload_n E dX7_hasStep_4 rfl ?_
    refine v_aload_n E dX7_hasStep_5 rfl ?_
    replace h := bnd_e h
    obtain ⟨r1, er1, h⟩ := h
    refine v_callV (na := 0) (As := []) (rest := [vI a1]) (ci := 7) (q := (RX7, TX7, 14)) E gw7_81 (by decide +kernel) rfl rfl (by decide) (kX7_stepCount l er1).2 (kX7_stepCount l er1).1 rfl rfl dX7_hasStep_6 ⟨Nat.le_of_ble_eq_true rfl, Nat.le_of_ble_eq_true rfl⟩ ⟨(Nat.le_of_ble_eq_true rfl), (Nat.le_of_ble_eq_true rfl)⟩ (Nat.le_of_ble_eq_true rfl) ?_
    refine v_icmp_ge (tgt := 16) E dX7_hasStep_9 (by decide) (fun c2 => ?_) (fun c2 => ?_)
    · rw [if_pos c2] at h
      refine v_iconst (v := 0) E dX7_hasStep_16 (by decide) ?_
      replace h := Option.some.inj h
      subst h
      refine v_widen (k' := 0) (n' := 0) (Nat.le_of_ble_eq_true rfl) (Nat.le_of_ble_eq_true rfl) ?_
      exact v_zret E (Or.inl rfl) dX7_hasStep_17
    · rw [if_neg c2] at h
      refine v_iconst (v := 1) E dX7_hasStep_12 (by decide) ?_
      refine v_goto (tgt := 17) E dX7_hasStep_13 (by decide) ?_
      replace h := Option.some.inj h
      subst h
      refine v_widen (k' := 0) (n' := 0) (Nat.le_of_ble_eq_true rfl) (Nat.le_of_ble_eq_true rfl) ?_
      exact v_zret E (Or.inr rfl) dX7_hasStep_17
noncomputable def fX1_putTwo (A0 : AH) (o0 : Option Nat) (a1 : Int32) (a2 : Int32) : Option (AH) :=
  (rcv A0 2 o0).bind fun o0 =>
  (fX1_put A0 ((some o0)) a1).bind fun r1 =>
  (fX1_put r1 ((some o0)) a2).bind fun r2 =>
  some r2
set_option maxRecDepth 100000 in
set_option maxHeartbeats 4000000 in
theorem kX1_putTwo (l : Launch) {A0 : AH} {o0 : Option Nat} {a1 : Int32} {a2 : Int32} {r : AH} (h : fX1_putTwo A0 o0 a1 a2 = some r) : (∃ a, o0 = some a ∧ Hk A0 a = 2) ∧ Cn l yX1_putTwo cX1_putTwo 3 none 1 21 0 0 [vR o0, vI a1, vI a2] A0 none r := by
  unfold fX1_putTwo at h
  replace h := bnd_e h
  obtain ⟨o1, e1, h⟩ := h
  obtain ⟨rfl, hk0⟩ := rcv_e e1
  refine ⟨⟨o1, rfl, hk0⟩, ?_⟩
  refine Cn.of (pad := 0) (lv0 := [some (vR (some o1)), some (vI a1), some (vI a2)]) (by decide +kernel) (Nat.le_of_ble_eq_true rfl) rfl ?_
  intro p e s m below meth c base D cy E
  generalize (List.map toV [vR (some o1), vI a1, vI a2]).toArray = ar at E ⊢
  have E : EN p s m ar meth c D cy RX1 cX1_putTwo 3 none "putTwo" := E
  refine v_aload_n E dX1_putTwo_0 rfl ?_
  refine v_iload_n E dX1_putTwo_1 rfl ?_
  replace h := bnd_e h
  obtain ⟨r1, er1, h⟩ := h
  refine v_callV (na := 1) (As := [vI a1]) (rest := []) (ci := 1) (q := (RX1, TX1, 2)) E gw1_41 (by decide +kernel) rfl rfl (by decide) (kX1_put l er1).2 (kX1_put l er1).1 rfl rfl dX1_putTwo_2 ⟨Nat.le_of_ble_eq_true rfl, Nat.le_of_ble_eq_true rfl⟩ ⟨(Nat.le_of_ble_eq_true rfl), (Nat.le_of_ble_eq_true rfl)⟩ (Nat.le_of_ble_eq_true rfl) ?_
  refine v_aload_n E dX1_putTwo_5 rfl ?_
  refine v_iload_n E dX1_putTwo_6 rfl ?_
  replace h := bnd_e h
  obtain ⟨r2, er2, h⟩ := h
  refine v_callV (na := 1) (As := [vI a2]) (rest := []) (ci := 1) (q := (RX1, TX1, 2)) E gw1_41 (by decide +kernel) rfl rfl (by decide) (kX1_put l er2).2 (kX1_put l er2).1 rfl rfl dX1_putTwo_7 ⟨Nat.le_of_ble_eq_true rfl, Nat.le_of_ble_eq_true rfl⟩ ⟨(Nat.le_of_ble_eq_true rfl), (Nat.le_of_ble_eq_true rfl)⟩ (Nat.le_of_ble_eq_true rfl) ?_
  replace h := Option.some.inj h
  subst h
  refine v_widen (k' := 0) (n' := 0) (Nat.le_of_ble_eq_true rfl) (Nat.le_of_ble_eq_true rfl) ?_
  exact v_vret E dX1_putTwo_10
noncomputable def fX1_writeWithLoop (A0 : AH) (o0 : Option Nat) (a1 : Option Nat) (a2 : Int32) : Option (AH) :=
  (rcv A0 2 o0).bind fun o0 =>
  (fX1_clear A0 ((some o0))).bind fun r1 =>
  (fX7_letterCount r1 a1).bind fun r2 =>
  (fX7_placeCount r1 a1).bind fun r3 =>
  jp (fun (x7 : AH) =>
    (iter (S := Int32 × AH) (T := AH) (fun s8 =>
        (fX7_placeCount s8.2 a1).bind fun r11 =>
        if r11 ≤ s8.1 then
          some (.inr s8.2)
        else
          (fX7_letterOn s8.2 a1 s8.1).bind fun r12 =>
          (fX1_put s8.2 ((some o0)) r12).bind fun r13 =>
          jp (fun (x17 : AH) =>
            some (.inl ((s8.1 + 1), x17))) fun K14 =>
            if s8.1 = a2 then
              (fX1_putTwo r13 ((some o0)) r2 r2).bind fun r15 =>
              K14 r15
            else
              K14 r13) (0, x7)).bind fun t9 =>
    some t9) fun K4 =>
    if r3 = 0 then
      (fX1_putTwo r1 ((some o0)) r2 r2).bind fun r5 =>
      K4 r5
    else
      K4 r1
set_option maxRecDepth 100000 in
set_option maxHeartbeats 4000000 in
theorem kX1_writeWithLoop (l : Launch) {A0 : AH} {o0 : Option Nat} {a1 : Option Nat} {a2 : Int32} {r : AH} (h : fX1_writeWithLoop A0 o0 a1 a2 = some r) : (∃ a, o0 = some a ∧ Hk A0 a = 2) ∧ Cn l yX1_writeWithLoop cX1_writeWithLoop 5 none 2 43 0 0 [vR o0, vR a1, vI a2] A0 none r := by
  unfold fX1_writeWithLoop at h
  replace h := bnd_e h
  obtain ⟨o1, e1, h⟩ := h
  obtain ⟨rfl, hk0⟩ := rcv_e e1
  refine ⟨⟨o1, rfl, hk0⟩, ?_⟩
  refine Cn.of (pad := 2) (lv0 := [some (vR (some o1)), some (vR a1), some (vI a2), none, none]) (by decide +kernel) (Nat.le_of_ble_eq_true rfl) rfl ?_
  intro p e s m below meth c base D cy E
  generalize (List.map toV [vR (some o1), vR a1, vI a2]).toArray = ar at E ⊢
  have E : EN p s m ar meth c D cy RX1 cX1_writeWithLoop 5 none "writeWithLoop" := E
  refine v_aload_n E dX1_writeWithLoop_0 rfl ?_
  replace h := bnd_e h
  obtain ⟨r1, er1, h⟩ := h
  refine v_callV (na := 0) (As := []) (rest := []) (ci := 1) (q := (RX1, TX1, 2)) E gw1_28 (by decide +kernel) rfl rfl (by decide) (kX1_clear l er1).2 (kX1_clear l er1).1 rfl rfl dX1_writeWithLoop_1 ⟨Nat.le_of_ble_eq_true rfl, Nat.le_of_ble_eq_true rfl⟩ ⟨(Nat.le_of_ble_eq_true rfl), (Nat.le_of_ble_eq_true rfl)⟩ (Nat.le_of_ble_eq_true rfl) ?_
  refine v_aload_n E dX1_writeWithLoop_4 rfl ?_
  replace h := bnd_e h
  obtain ⟨r2, er2, h⟩ := h
  refine v_callV (na := 0) (As := []) (rest := []) (ci := 7) (q := (RX7, TX7, 14)) E gw1_51 (by decide +kernel) rfl rfl (by decide) (kX7_letterCount l er2).2 (kX7_letterCount l er2).1 rfl rfl dX1_writeWithLoop_5 ⟨Nat.le_of_ble_eq_true rfl, Nat.le_of_ble_eq_true rfl⟩ ⟨(Nat.le_of_ble_eq_true rfl), (Nat.le_of_ble_eq_true rfl)⟩ (Nat.le_of_ble_eq_true rfl) ?_
  refine v_istore_n (lv' := [some (vR (some o1)), some (vR a1), some (vI a2), some (vI r2), none]) E dX1_writeWithLoop_8 (by decide) rfl ?_
  refine v_aload_n E dX1_writeWithLoop_9 rfl ?_
  replace h := bnd_e h
  obtain ⟨r3, er3, h⟩ := h
  refine v_callV (na := 0) (As := []) (rest := []) (ci := 7) (q := (RX7, TX7, 14)) E gw1_31 (by decide +kernel) rfl rfl (by decide) (kX7_placeCount l er3).2 (kX7_placeCount l er3).1 rfl rfl dX1_writeWithLoop_10 ⟨Nat.le_of_ble_eq_true rfl, Nat.le_of_ble_eq_true rfl⟩ ⟨(Nat.le_of_ble_eq_true rfl), (Nat.le_of_ble_eq_true rfl)⟩ (Nat.le_of_ble_eq_true rfl) ?_
  refine jp_use h (fun K4 eK4 h => ?_)
  have hK4 : ∀ x7 : AH, K4 x7 = some r → V p l e { frames := 2, cells := 0, slots := 0, locals := 43 } s m ar below meth c (MQ below (Qd base D cy none r) ar s 0 0 (fun q => base ≤ q)) base D cy 5 22 [some (vR (some o1)), some (vR a1), some (vI a2), some (vI r2), none] [] x7 0 0 := by
    intro x7 h
    rw [eK4] at h
    try dsimp only at h
    refine v_iconst (v := 0) E dX1_writeWithLoop_22 (by decide) ?_
    refine v_istore (lv' := [some (vR (some o1)), some (vR a1), some (vI a2), some (vI r2), some (vI 0)]) E dX1_writeWithLoop_23 (by decide) rfl ?_
    replace h := bnd_e h
    obtain ⟨t9, et9, h⟩ := h
    refine iter_V (S := Int32 × AH) (T := AH) (Ph := fun s8 => V p l e { frames := 2, cells := 0, slots := 0, locals := 43 } s m ar below meth c (MQ below (Qd base D cy none r) ar s 0 0 (fun q => base ≤ q)) base D cy 5 25 [some (vR (some o1)), some (vR a1), some (vI a2), some (vI r2), some (vI s8.1)] [] s8.2 0 0) (Pt := fun t9 => V p l e { frames := 2, cells := 0, slots := 0, locals := 43 } s m ar below meth c (MQ below (Qd base D cy none r) ar s 0 0 (fun q => base ≤ q)) base D cy 5 62 [none, none, none, none, none] [] t9 0 0) et9 (fun s8 w10 h hx => ?_) ?_
    · try dsimp only at h
      refine v_iload E dX1_writeWithLoop_25 rfl ?_
      refine v_aload_n E dX1_writeWithLoop_27 rfl ?_
      replace h := bnd_e h
      obtain ⟨r11, er11, h⟩ := h
      refine v_callV (na := 0) (As := []) (rest := [vI s8.1]) (ci := 7) (q := (RX7, TX7, 14)) E gw1_31 (by decide +kernel) rfl rfl (by decide) (kX7_placeCount l er11).2 (kX7_placeCount l er11).1 rfl rfl dX1_writeWithLoop_28 ⟨Nat.le_of_ble_eq_true rfl, Nat.le_of_ble_eq_true rfl⟩ ⟨(Nat.le_of_ble_eq_true rfl), (Nat.le_of_ble_eq_true rfl)⟩ (Nat.le_of_ble_eq_true rfl) ?_
      refine v_icmp_ge (tgt := 62) E dX1_writeWithLoop_31 (by decide) (fun c18 => ?_) (fun c18 => ?_)
      · rw [if_pos c18] at h
        refine v_drop (lv' := [none, none, none, none, none]) [0, 1, 2, 3, 4] rfl ?_
        replace h := Option.some.inj h
        subst h
        exact hx
      · rw [if_neg c18] at h
        refine v_aload_n E dX1_writeWithLoop_34 rfl ?_
        refine v_aload_n E dX1_writeWithLoop_35 rfl ?_
        refine v_iload E dX1_writeWithLoop_36 rfl ?_
        replace h := bnd_e h
        obtain ⟨r12, er12, h⟩ := h
        refine v_callV (na := 1) (As := [vI s8.1]) (rest := [vR (some o1)]) (ci := 7) (q := (RX7, TX7, 14)) E gw1_37 (by decide +kernel) rfl rfl (by decide) (kX7_letterOn l er12).2 (kX7_letterOn l er12).1 rfl rfl dX1_writeWithLoop_38 ⟨Nat.le_of_ble_eq_true rfl, Nat.le_of_ble_eq_true rfl⟩ ⟨(Nat.le_of_ble_eq_true rfl), (Nat.le_of_ble_eq_true rfl)⟩ (Nat.le_of_ble_eq_true rfl) ?_
        replace h := bnd_e h
        obtain ⟨r13, er13, h⟩ := h
        refine v_callV (na := 1) (As := [vI r12]) (rest := []) (ci := 1) (q := (RX1, TX1, 2)) E gw1_41 (by decide +kernel) rfl rfl (by decide) (kX1_put l er13).2 (kX1_put l er13).1 rfl rfl dX1_writeWithLoop_41 ⟨Nat.le_of_ble_eq_true rfl, Nat.le_of_ble_eq_true rfl⟩ ⟨(Nat.le_of_ble_eq_true rfl), (Nat.le_of_ble_eq_true rfl)⟩ (Nat.le_of_ble_eq_true rfl) ?_
        refine v_iload E dX1_writeWithLoop_44 rfl ?_
        refine v_iload_n E dX1_writeWithLoop_46 rfl ?_
        refine jp_use h (fun K14 eK14 h => ?_)
        have hK14 : ∀ x17 : AH, K14 x17 = some w10 → V p l e { frames := 2, cells := 0, slots := 0, locals := 43 } s m ar below meth c (MQ below (Qd base D cy none r) ar s 0 0 (fun q => base ≤ q)) base D cy 5 56 [some (vR (some o1)), some (vR a1), some (vI a2), some (vI r2), some (vI s8.1)] [] x17 0 0 := by
          intro x17 h
          rw [eK14] at h
          try dsimp only at h
          refine v_iinc (v := (s8.1 + 1)) (lv' := [some (vR (some o1)), some (vR a1), some (vI a2), some (vI r2), some (vI (s8.1 + 1))]) E dX1_writeWithLoop_56 rfl (by rfl) (by decide) rfl ?_
          refine v_goto (tgt := 25) E dX1_writeWithLoop_59 (by decide) ?_
          replace h := Option.some.inj h
          subst h
          exact hx
        refine v_icmp_ne (tgt := 56) E dX1_writeWithLoop_47 (by decide) (fun c16 => ?_) (fun c16 => ?_)
        · rw [if_neg c16] at h
          exact hK14 r13 h
        · rw [if_pos c16] at h
          refine v_aload_n E dX1_writeWithLoop_50 rfl ?_
          refine v_iload_n E dX1_writeWithLoop_51 rfl ?_
          refine v_iload_n E dX1_writeWithLoop_52 rfl ?_
          replace h := bnd_e h
          obtain ⟨r15, er15, h⟩ := h
          refine v_callV (na := 2) (As := [vI r2, vI r2]) (rest := []) (ci := 1) (q := (RX1, TX1, 2)) E gw1_54 (by decide +kernel) rfl rfl (by decide) (kX1_putTwo l er15).2 (kX1_putTwo l er15).1 rfl rfl dX1_writeWithLoop_53 ⟨Nat.le_of_ble_eq_true rfl, Nat.le_of_ble_eq_true rfl⟩ ⟨(Nat.le_of_ble_eq_true rfl), (Nat.le_of_ble_eq_true rfl)⟩ (Nat.le_of_ble_eq_true rfl) ?_
          exact hK14 r15 h
    · replace h := Option.some.inj h
      subst h
      refine v_widen (k' := 0) (n' := 0) (Nat.le_of_ble_eq_true rfl) (Nat.le_of_ble_eq_true rfl) ?_
      exact v_vret E dX1_writeWithLoop_62
  refine v_if_ne (tgt := 22) E dX1_writeWithLoop_13 (by decide) (fun c6 => ?_) (fun c6 => ?_)
  · rw [if_neg c6] at h
    exact hK4 r1 h
  · rw [if_pos c6] at h
    refine v_aload_n E dX1_writeWithLoop_16 rfl ?_
    refine v_iload_n E dX1_writeWithLoop_17 rfl ?_
    refine v_iload_n E dX1_writeWithLoop_18 rfl ?_
    replace h := bnd_e h
    obtain ⟨r5, er5, h⟩ := h
    refine v_callV (na := 2) (As := [vI r2, vI r2]) (rest := []) (ci := 1) (q := (RX1, TX1, 2)) E gw1_54 (by decide +kernel) rfl rfl (by decide) (kX1_putTwo l er5).2 (kX1_putTwo l er5).1 rfl rfl dX1_writeWithLoop_19 ⟨Nat.le_of_ble_eq_true rfl, Nat.le_of_ble_eq_true rfl⟩ ⟨(Nat.le_of_ble_eq_true rfl), (Nat.le_of_ble_eq_true rfl)⟩ (Nat.le_of_ble_eq_true rfl) ?_
    exact hK4 r5 h
noncomputable def fX11_twist (A0 : AH) (o0 : Option Nat) (a1 : Int32) (a2 : Int32) : Option (Int32 × AH) :=
  (rcv A0 12 o0).bind fun o0 =>
  (gR A0 12 352 ((some o0))).bind fun v1 =>
  (fX8_get A0 v1 a1).bind fun r2 =>
  if r2 = none then
    some (((-1000000001), A0))
  else
    (fX10_row A0 r2).bind fun r3 =>
    (fX7_hasStep A0 r3 a2).bind fun r4 =>
    if r4 = 0 then
      some (((-1000000001), A0))
    else
      (fX10_row A0 r2).bind fun r5 =>
      (fX7_letterCount A0 r5).bind fun r6 =>
      if (r6 + 1) ≤ 8 then
        (gR A0 12 358 ((some o0))).bind fun v7 =>
        (fX10_row A0 r2).bind fun r8 =>
        (fX1_writeWithLoop A0 v7 r8 a2).bind fun r9 =>
        (fX11_becomesDraft r9 ((some o0)) a1).bind fun r10 =>
        (fX7_letterCount r10.2 r10.1).bind fun r11 =>
        some ((r11, r10.2))
      else
        some (((-1000000004), A0))
set_option maxRecDepth 100000 in
set_option maxHeartbeats 4000000 in
theorem kX11_twist (l : Launch) {A0 : AH} {o0 : Option Nat} {a1 : Int32} {a2 : Int32} {r : Int32 × AH} (h : fX11_twist A0 o0 a1 a2 = some r) : (∃ a, o0 = some a ∧ Hk A0 a = 12) ∧ Cn l yX11_twist cX11_twist 4 (some .int) 5 108 9 75 [vR o0, vI a1, vI a2] A0 (some (vI r.1)) r.2 := by
  unfold fX11_twist at h
  replace h := bnd_e h
  obtain ⟨o1, e1, h⟩ := h
  obtain ⟨rfl, hk0⟩ := rcv_e e1
  refine ⟨⟨o1, rfl, hk0⟩, ?_⟩
  refine Cn.of (pad := 1) (lv0 := [some (vR (some o1)), some (vI a1), some (vI a2), none]) (by decide +kernel) (Nat.le_of_ble_eq_true rfl) rfl ?_
  intro p e s m below meth c base D cy E
  generalize (List.map toV [vR (some o1), vI a1, vI a2]).toArray = ar at E ⊢
  have E : EN p s m ar meth c D cy RX11 cX11_twist 4 (some .int) "twist" := E
  refine v_aload_n E dX11_twist_0 rfl ?_
  replace h := bnd_e h
  obtain ⟨v1, ev1, h⟩ := h
  refine g11_10 E ev1 dX11_twist_1 ?_
  refine v_iload_n E dX11_twist_4 rfl ?_
  replace h := bnd_e h
  obtain ⟨r2, er2, h⟩ := h
  refine v_callV (na := 1) (As := [vI a1]) (rest := []) (ci := 8) (q := (RX8, TX8, 2)) E gw11_110 (by decide +kernel) rfl rfl (by decide) (kX8_get l er2).2 (kX8_get l er2).1 rfl rfl dX11_twist_5 ⟨Nat.le_of_ble_eq_true rfl, Nat.le_of_ble_eq_true rfl⟩ ⟨(Nat.le_of_ble_eq_true rfl), (Nat.le_of_ble_eq_true rfl)⟩ (Nat.le_of_ble_eq_true rfl) ?_
  refine v_astore_n (lv' := [some (vR (some o1)), some (vI a1), some (vI a2), some (vR r2)]) E dX11_twist_8 (by decide) rfl ?_
  refine v_aload_n E dX11_twist_9 rfl ?_
  refine v_ifnull (tgt := 24) E dX11_twist_10 (by decide) (fun c14 => ?_) (fun c14 => ?_)
  · rw [if_pos c14] at h
    refine v_ldc (v := (-1000000001)) E dX11_twist_24 q516 ?_
    replace h := Option.some.inj h
    subst h
    refine v_widen (k' := 9) (n' := 75) (Nat.le_of_ble_eq_true rfl) (Nat.le_of_ble_eq_true rfl) ?_
    exact v_iret E dX11_twist_26
  · rw [if_neg c14] at h
    refine v_aload_n E dX11_twist_13 rfl ?_
    replace h := bnd_e h
    obtain ⟨r3, er3, h⟩ := h
    refine v_callV (na := 0) (As := []) (rest := []) (ci := 10) (q := (RX10, TX10, 3)) E gw11_115 (by decide +kernel) rfl rfl (by decide) (kX10_row l er3).2 (kX10_row l er3).1 rfl rfl dX11_twist_14 ⟨Nat.le_of_ble_eq_true rfl, Nat.le_of_ble_eq_true rfl⟩ ⟨(Nat.le_of_ble_eq_true rfl), (Nat.le_of_ble_eq_true rfl)⟩ (Nat.le_of_ble_eq_true rfl) ?_
    refine v_iload_n E dX11_twist_17 rfl ?_
    replace h := bnd_e h
    obtain ⟨r4, er4, h⟩ := h
    refine v_callV (na := 1) (As := [vI a2]) (rest := []) (ci := 7) (q := (RX7, TX7, 14)) E gw11_242 (by decide +kernel) rfl rfl (by decide) (kX7_hasStep l er4).2 (kX7_hasStep l er4).1 rfl rfl dX11_twist_18 ⟨Nat.le_of_ble_eq_true rfl, Nat.le_of_ble_eq_true rfl⟩ ⟨(Nat.le_of_ble_eq_true rfl), (Nat.le_of_ble_eq_true rfl)⟩ (Nat.le_of_ble_eq_true rfl) ?_
    refine v_if_ne (tgt := 27) E dX11_twist_21 (by decide) (fun c13 => ?_) (fun c13 => ?_)
    · rw [if_neg c13] at h
      refine v_aload_n E dX11_twist_27 rfl ?_
      replace h := bnd_e h
      obtain ⟨r5, er5, h⟩ := h
      refine v_callV (na := 0) (As := []) (rest := []) (ci := 10) (q := (RX10, TX10, 3)) E gw11_115 (by decide +kernel) rfl rfl (by decide) (kX10_row l er5).2 (kX10_row l er5).1 rfl rfl dX11_twist_28 ⟨Nat.le_of_ble_eq_true rfl, Nat.le_of_ble_eq_true rfl⟩ ⟨(Nat.le_of_ble_eq_true rfl), (Nat.le_of_ble_eq_true rfl)⟩ (Nat.le_of_ble_eq_true rfl) ?_
      replace h := bnd_e h
      obtain ⟨r6, er6, h⟩ := h
      refine v_callV (na := 0) (As := []) (rest := []) (ci := 7) (q := (RX7, TX7, 14)) E gw11_121 (by decide +kernel) rfl rfl (by decide) (kX7_letterCount l er6).2 (kX7_letterCount l er6).1 rfl rfl dX11_twist_31 ⟨Nat.le_of_ble_eq_true rfl, Nat.le_of_ble_eq_true rfl⟩ ⟨(Nat.le_of_ble_eq_true rfl), (Nat.le_of_ble_eq_true rfl)⟩ (Nat.le_of_ble_eq_true rfl) ?_
      refine v_iconst (v := 1) E dX11_twist_34 (by decide) ?_
      refine v_iadd E dX11_twist_35 ?_
      refine v_bipush (v := 8) E dX11_twist_36 (by decide) ?_
      refine v_icmp_le (tgt := 44) E dX11_twist_38 (by decide) (fun c12 => ?_) (fun c12 => ?_)
      · rw [if_pos c12] at h
        refine v_aload_n E dX11_twist_44 rfl ?_
        replace h := bnd_e h
        obtain ⟨v7, ev7, h⟩ := h
        refine g11_54 E ev7 dX11_twist_45 ?_
        refine v_aload_n E dX11_twist_48 rfl ?_
        replace h := bnd_e h
        obtain ⟨r8, er8, h⟩ := h
        refine v_callV (na := 0) (As := []) (rest := [vR v7]) (ci := 10) (q := (RX10, TX10, 3)) E gw11_115 (by decide +kernel) rfl rfl (by decide) (kX10_row l er8).2 (kX10_row l er8).1 rfl rfl dX11_twist_49 ⟨Nat.le_of_ble_eq_true rfl, Nat.le_of_ble_eq_true rfl⟩ ⟨(Nat.le_of_ble_eq_true rfl), (Nat.le_of_ble_eq_true rfl)⟩ (Nat.le_of_ble_eq_true rfl) ?_
        refine v_iload_n E dX11_twist_52 rfl ?_
        replace h := bnd_e h
        obtain ⟨r9, er9, h⟩ := h
        refine v_callV (na := 2) (As := [vR r8, vI a2]) (rest := []) (ci := 1) (q := (RX1, TX1, 2)) E gw11_245 (by decide +kernel) rfl rfl (by decide) (kX1_writeWithLoop l er9).2 (kX1_writeWithLoop l er9).1 rfl rfl dX11_twist_53 ⟨Nat.le_of_ble_eq_true rfl, Nat.le_of_ble_eq_true rfl⟩ ⟨(Nat.le_of_ble_eq_true rfl), (Nat.le_of_ble_eq_true rfl)⟩ (Nat.le_of_ble_eq_true rfl) ?_
        refine v_aload_n E dX11_twist_56 rfl ?_
        refine v_iload_n E dX11_twist_57 rfl ?_
        replace h := bnd_e h
        obtain ⟨r10, er10, h⟩ := h
        refine v_callV (na := 1) (As := [vI a1]) (rest := []) (ci := 11) (q := (RX11, TX11, 8)) E gw11_238 (by decide +kernel) rfl rfl (by decide) (kX11_becomesDraft l er10).2 (kX11_becomesDraft l er10).1 rfl rfl dX11_twist_58 ⟨Nat.le_of_ble_eq_true rfl, Nat.le_of_ble_eq_true rfl⟩ ⟨(Nat.le_of_ble_eq_true rfl), (Nat.le_of_ble_eq_true rfl)⟩ (Nat.le_of_ble_eq_true rfl) ?_
        refine v_widen (k' := 9) (n' := 75) (Nat.le_of_ble_eq_true rfl) (Nat.le_of_ble_eq_true rfl) ?_
        replace h := bnd_e h
        obtain ⟨r11, er11, h⟩ := h
        refine v_callV (na := 0) (As := []) (rest := []) (ci := 7) (q := (RX7, TX7, 14)) E gw11_121 (by decide +kernel) rfl rfl (by decide) (kX7_letterCount l er11).2 (kX7_letterCount l er11).1 rfl rfl dX11_twist_61 ⟨Nat.le_of_ble_eq_true rfl, Nat.le_of_ble_eq_true rfl⟩ ⟨(Nat.le_of_ble_eq_true rfl), (Nat.le_of_ble_eq_true rfl)⟩ (Nat.le_of_ble_eq_true rfl) ?_
        replace h := Option.some.inj h
        subst h
        refine v_widen (k' := 9) (n' := 75) (Nat.le_of_ble_eq_true rfl) (Nat.le_of_ble_eq_true rfl) ?_
        exact v_iret E dX11_twist_64
      · rw [if_neg c12] at h
        refine v_ldc (v := (-1000000004)) E dX11_twist_41 q271 ?_
        replace h := Option.some.inj h
        subst h
        refine v_widen (k' := 9) (n' := 75) (Nat.le_of_ble_eq_true rfl) (Nat.le_of_ble_eq_true rfl) ?_
        exact v_iret E dX11_twist_43
    · rw [if_pos c13] at h
      refine v_ldc (v := (-1000000001)) E dX11_twist_24 q516 ?_
      replace h := Option.some.inj h
      subst h
      refine v_widen (k' := 9) (n' := 75) (Nat.le_of_ble_eq_true rfl) (Nat.le_of_ble_eq_true rfl) ?_
      exact v_iret E dX11_twist_26
noncomputable def fX1_writeWithout (A0 : AH) (o0 : Option Nat) (a1 : Option Nat) (a2 : Int32) : Option (AH) :=
  (rcv A0 2 o0).bind fun o0 =>
  (fX1_clear A0 ((some o0))).bind fun r1 =>
  (iter (S := Int32 × AH) (T := AH) (fun s2 =>
      (fX7_placeCount s2.2 a1).bind fun r5 =>
      if r5 ≤ s2.1 then
        some (.inr s2.2)
      else
        (fX7_letterOn s2.2 a1 s2.1).bind fun r6 =>
        (fX11_isIn s2.2 a2 r6).bind fun r7 =>
        jp (fun (x12 : AH) =>
          some (.inl ((s2.1 + 1), x12))) fun K8 =>
          if r7 = 0 then
            (fX7_letterOn s2.2 a1 s2.1).bind fun r9 =>
            (fX1_put s2.2 ((some o0)) r9).bind fun r10 =>
            K8 r10
          else
            K8 s2.2) (0, r1)).bind fun t3 =>
  some t3
set_option maxRecDepth 100000 in
set_option maxHeartbeats 4000000 in
theorem kX1_writeWithout (l : Launch) {A0 : AH} {o0 : Option Nat} {a1 : Option Nat} {a2 : Int32} {r : AH} (h : fX1_writeWithout A0 o0 a1 a2 = some r) : (∃ a, o0 = some a ∧ Hk A0 a = 2) ∧ Cn l yX1_writeWithout cX1_writeWithout 4 none 2 42 0 0 [vR o0, vR a1, vI a2] A0 none r := by
  unfold fX1_writeWithout at h
  replace h := bnd_e h
  obtain ⟨o1, e1, h⟩ := h
  obtain ⟨rfl, hk0⟩ := rcv_e e1
  refine ⟨⟨o1, rfl, hk0⟩, ?_⟩
  refine Cn.of (pad := 1) (lv0 := [some (vR (some o1)), some (vR a1), some (vI a2), none]) (by decide +kernel) (Nat.le_of_ble_eq_true rfl) rfl ?_
  intro p e s m below meth c base D cy E
  generalize (List.map toV [vR (some o1), vR a1, vI a2]).toArray = ar at E ⊢
  have E : EN p s m ar meth c D cy RX1 cX1_writeWithout 4 none "writeWithout" := E
  refine v_aload_n E dX1_writeWithout_0 rfl ?_
  replace h := bnd_e h
  obtain ⟨r1, er1, h⟩ := h
  refine v_callV (na := 0) (As := []) (rest := []) (ci := 1) (q := (RX1, TX1, 2)) E gw1_28 (by decide +kernel) rfl rfl (by decide) (kX1_clear l er1).2 (kX1_clear l er1).1 rfl rfl dX1_writeWithout_1 ⟨Nat.le_of_ble_eq_true rfl, Nat.le_of_ble_eq_true rfl⟩ ⟨(Nat.le_of_ble_eq_true rfl), (Nat.le_of_ble_eq_true rfl)⟩ (Nat.le_of_ble_eq_true rfl) ?_
  refine v_iconst (v := 0) E dX1_writeWithout_4 (by decide) ?_
  refine v_istore_n (lv' := [some (vR (some o1)), some (vR a1), some (vI a2), some (vI 0)]) E dX1_writeWithout_5 (by decide) rfl ?_
  replace h := bnd_e h
  obtain ⟨t3, et3, h⟩ := h
  refine iter_V (S := Int32 × AH) (T := AH) (Ph := fun s2 => V p l e { frames := 2, cells := 0, slots := 0, locals := 42 } s m ar below meth c (MQ below (Qd base D cy none r) ar s 0 0 (fun q => base ≤ q)) base D cy 4 6 [some (vR (some o1)), some (vR a1), some (vI a2), some (vI s2.1)] [] s2.2 0 0) (Pt := fun t3 => V p l e { frames := 2, cells := 0, slots := 0, locals := 42 } s m ar below meth c (MQ below (Qd base D cy none r) ar s 0 0 (fun q => base ≤ q)) base D cy 4 41 [none, none, none, none] [] t3 0 0) et3 (fun s2 w4 h hx => ?_) ?_
  · try dsimp only at h
    refine v_iload_n E dX1_writeWithout_6 rfl ?_
    refine v_aload_n E dX1_writeWithout_7 rfl ?_
    replace h := bnd_e h
    obtain ⟨r5, er5, h⟩ := h
    refine v_callV (na := 0) (As := []) (rest := [vI s2.1]) (ci := 7) (q := (RX7, TX7, 14)) E gw1_31 (by decide +kernel) rfl rfl (by decide) (kX7_placeCount l er5).2 (kX7_placeCount l er5).1 rfl rfl dX1_writeWithout_8 ⟨Nat.le_of_ble_eq_true rfl, Nat.le_of_ble_eq_true rfl⟩ ⟨(Nat.le_of_ble_eq_true rfl), (Nat.le_of_ble_eq_true rfl)⟩ (Nat.le_of_ble_eq_true rfl) ?_
    refine v_icmp_ge (tgt := 41) E dX1_writeWithout_11 (by decide) (fun c13 => ?_) (fun c13 => ?_)
    · rw [if_pos c13] at h
      refine v_drop (lv' := [none, none, none, none]) [0, 1, 2, 3] rfl ?_
      replace h := Option.some.inj h
      subst h
      exact hx
    · rw [if_neg c13] at h
      refine v_iload_n E dX1_writeWithout_14 rfl ?_
      refine v_aload_n E dX1_writeWithout_15 rfl ?_
      refine v_iload_n E dX1_writeWithout_16 rfl ?_
      replace h := bnd_e h
      obtain ⟨r6, er6, h⟩ := h
      refine v_callV (na := 1) (As := [vI s2.1]) (rest := [vI a2]) (ci := 7) (q := (RX7, TX7, 14)) E gw1_37 (by decide +kernel) rfl rfl (by decide) (kX7_letterOn l er6).2 (kX7_letterOn l er6).1 rfl rfl dX1_writeWithout_17 ⟨Nat.le_of_ble_eq_true rfl, Nat.le_of_ble_eq_true rfl⟩ ⟨(Nat.le_of_ble_eq_true rfl), (Nat.le_of_ble_eq_true rfl)⟩ (Nat.le_of_ble_eq_true rfl) ?_
      replace h := bnd_e h
      obtain ⟨r7, er7, h⟩ := h
      refine v_callSN (na := 2) (As := [vI a2, vI r6]) (rest := []) E gw1_58 gn1_58 q489 q86 (by decide +kernel) (kX11_isIn l er7) rfl rfl dX1_writeWithout_20 ⟨Nat.le_of_ble_eq_true rfl, Nat.le_of_ble_eq_true rfl⟩ ⟨(Nat.le_of_ble_eq_true rfl), (Nat.le_of_ble_eq_true rfl)⟩ (Nat.le_of_ble_eq_true rfl) ?_
      refine jp_use h (fun K8 eK8 h => ?_)
      have hK8 : ∀ x12 : AH, K8 x12 = some w4 → V p l e { frames := 2, cells := 0, slots := 0, locals := 42 } s m ar below meth c (MQ below (Qd base D cy none r) ar s 0 0 (fun q => base ≤ q)) base D cy 4 35 [some (vR (some o1)), some (vR a1), some (vI a2), some (vI s2.1)] [] x12 0 0 := by
        intro x12 h
        rw [eK8] at h
        try dsimp only at h
        refine v_iinc (v := (s2.1 + 1)) (lv' := [some (vR (some o1)), some (vR a1), some (vI a2), some (vI (s2.1 + 1))]) E dX1_writeWithout_35 rfl (by rfl) (by decide) rfl ?_
        refine v_goto (tgt := 6) E dX1_writeWithout_38 (by decide) ?_
        replace h := Option.some.inj h
        subst h
        exact hx
      refine v_if_ne (tgt := 35) E dX1_writeWithout_23 (by decide) (fun c11 => ?_) (fun c11 => ?_)
      · rw [if_neg c11] at h
        exact hK8 s2.2 h
      · rw [if_pos c11] at h
        refine v_aload_n E dX1_writeWithout_26 rfl ?_
        refine v_aload_n E dX1_writeWithout_27 rfl ?_
        refine v_iload_n E dX1_writeWithout_28 rfl ?_
        replace h := bnd_e h
        obtain ⟨r9, er9, h⟩ := h
        refine v_callV (na := 1) (As := [vI s2.1]) (rest := [vR (some o1)]) (ci := 7) (q := (RX7, TX7, 14)) E gw1_37 (by decide +kernel) rfl rfl (by decide) (kX7_letterOn l er9).2 (kX7_letterOn l er9).1 rfl rfl dX1_writeWithout_29 ⟨Nat.le_of_ble_eq_true rfl, Nat.le_of_ble_eq_true rfl⟩ ⟨(Nat.le_of_ble_eq_true rfl), (Nat.le_of_ble_eq_true rfl)⟩ (Nat.le_of_ble_eq_true rfl) ?_
        replace h := bnd_e h
        obtain ⟨r10, er10, h⟩ := h
        refine v_callV (na := 1) (As := [vI r9]) (rest := []) (ci := 1) (q := (RX1, TX1, 2)) E gw1_41 (by decide +kernel) rfl rfl (by decide) (kX1_put l er10).2 (kX1_put l er10).1 rfl rfl dX1_writeWithout_32 ⟨Nat.le_of_ble_eq_true rfl, Nat.le_of_ble_eq_true rfl⟩ ⟨(Nat.le_of_ble_eq_true rfl), (Nat.le_of_ble_eq_true rfl)⟩ (Nat.le_of_ble_eq_true rfl) ?_
        exact hK8 r10 h
  · replace h := Option.some.inj h
    subst h
    refine v_widen (k' := 0) (n' := 0) (Nat.le_of_ble_eq_true rfl) (Nat.le_of_ble_eq_true rfl) ?_
    exact v_vret E dX1_writeWithout_41
noncomputable def fX11_untwist (A0 : AH) (o0 : Option Nat) (a1 : Int32) (a2 : Int32) : Option (Int32 × AH) :=
  (rcv A0 12 o0).bind fun o0 =>
  (gR A0 12 352 ((some o0))).bind fun v1 =>
  (fX8_get A0 v1 a1).bind fun r2 =>
  if r2 = none then
    some (((-1000000001), A0))
  else
    (fX10_row A0 r2).bind fun r3 =>
    (fX7_hasLetter A0 r3 a2).bind fun r4 =>
    if r4 = 0 then
      some (((-1000000001), A0))
    else
      (fX10_row A0 r2).bind fun r5 =>
      (fX7_isLoop A0 r5 a2).bind fun r6 =>
      if r6 = 0 then
        some (((-1000000003), A0))
      else
        (gR A0 12 358 ((some o0))).bind fun v7 =>
        (fX10_row A0 r2).bind fun r8 =>
        (fX1_writeWithout A0 v7 r8 (((1 : Int32) <<< ((a2 : Int32) &&& 31)))).bind fun r9 =>
        (fX11_becomesDraft r9 ((some o0)) a1).bind fun r10 =>
        (fX7_letterCount r10.2 r10.1).bind fun r11 =>
        some ((r11, r10.2))
set_option maxRecDepth 100000 in
set_option maxHeartbeats 4000000 in
theorem kX11_untwist (l : Launch) {A0 : AH} {o0 : Option Nat} {a1 : Int32} {a2 : Int32} {r : Int32 × AH} (h : fX11_untwist A0 o0 a1 a2 = some r) : (∃ a, o0 = some a ∧ Hk A0 a = 12) ∧ Cn l yX11_untwist cX11_untwist 4 (some .int) 5 108 9 75 [vR o0, vI a1, vI a2] A0 (some (vI r.1)) r.2 := by
  unfold fX11_untwist at h
  replace h := bnd_e h
  obtain ⟨o1, e1, h⟩ := h
  obtain ⟨rfl, hk0⟩ := rcv_e e1
  refine ⟨⟨o1, rfl, hk0⟩, ?_⟩
  refine Cn.of (pad := 1) (lv0 := [some (vR (some o1)), some (vI a1), some (vI a2), none]) (by decide +kernel) (Nat.le_of_ble_eq_true rfl) rfl ?_
  intro p e s m below meth c base D cy E
  generalize (List.map toV [vR (some o1), vI a1, vI a2]).toArray = ar at E ⊢
  have E : EN p s m ar meth c D cy RX11 cX11_untwist 4 (some .int) "untwist" := E
  refine v_aload_n E dX11_untwist_0 rfl ?_
  replace h := bnd_e h
  obtain ⟨v1, ev1, h⟩ := h
  refine g11_10 E ev1 dX11_untwist_1 ?_
  refine v_iload_n E dX11_untwist_4 rfl ?_
  replace h := bnd_e h
  obtain ⟨r2, er2, h⟩ := h
  refine v_callV (na := 1) (As := [vI a1]) (rest := []) (ci := 8) (q := (RX8, TX8, 2)) E gw11_110 (by decide +kernel) rfl rfl (by decide) (kX8_get l er2).2 (kX8_get l er2).1 rfl rfl dX11_untwist_5 ⟨Nat.le_of_ble_eq_true rfl, Nat.le_of_ble_eq_true rfl⟩ ⟨(Nat.le_of_ble_eq_true rfl), (Nat.le_of_ble_eq_true rfl)⟩ (Nat.le_of_ble_eq_true rfl) ?_
  refine v_astore_n (lv' := [some (vR (some o1)), some (vI a1), some (vI a2), some (vR r2)]) E dX11_untwist_8 (by decide) rfl ?_
  refine v_aload_n E dX11_untwist_9 rfl ?_
  refine v_ifnull (tgt := 24) E dX11_untwist_10 (by decide) (fun c14 => ?_) (fun c14 => ?_)
  · rw [if_pos c14] at h
    refine v_ldc (v := (-1000000001)) E dX11_untwist_24 q516 ?_
    replace h := Option.some.inj h
    subst h
    refine v_widen (k' := 9) (n' := 75) (Nat.le_of_ble_eq_true rfl) (Nat.le_of_ble_eq_true rfl) ?_
    exact v_iret E dX11_untwist_26
  · rw [if_neg c14] at h
    refine v_aload_n E dX11_untwist_13 rfl ?_
    replace h := bnd_e h
    obtain ⟨r3, er3, h⟩ := h
    refine v_callV (na := 0) (As := []) (rest := []) (ci := 10) (q := (RX10, TX10, 3)) E gw11_115 (by decide +kernel) rfl rfl (by decide) (kX10_row l er3).2 (kX10_row l er3).1 rfl rfl dX11_untwist_14 ⟨Nat.le_of_ble_eq_true rfl, Nat.le_of_ble_eq_true rfl⟩ ⟨(Nat.le_of_ble_eq_true rfl), (Nat.le_of_ble_eq_true rfl)⟩ (Nat.le_of_ble_eq_true rfl) ?_
    refine v_iload_n E dX11_untwist_17 rfl ?_
    replace h := bnd_e h
    obtain ⟨r4, er4, h⟩ := h
    refine v_callV (na := 1) (As := [vI a2]) (rest := []) (ci := 7) (q := (RX7, TX7, 14)) E gw11_179 (by decide +kernel) rfl rfl (by decide) (kX7_hasLetter l er4).2 (kX7_hasLetter l er4).1 rfl rfl dX11_untwist_18 ⟨Nat.le_of_ble_eq_true rfl, Nat.le_of_ble_eq_true rfl⟩ ⟨(Nat.le_of_ble_eq_true rfl), (Nat.le_of_ble_eq_true rfl)⟩ (Nat.le_of_ble_eq_true rfl) ?_
    refine v_if_ne (tgt := 27) E dX11_untwist_21 (by decide) (fun c13 => ?_) (fun c13 => ?_)
    · rw [if_neg c13] at h
      refine v_aload_n E dX11_untwist_27 rfl ?_
      replace h := bnd_e h
      obtain ⟨r5, er5, h⟩ := h
      refine v_callV (na := 0) (As := []) (rest := []) (ci := 10) (q := (RX10, TX10, 3)) E gw11_115 (by decide +kernel) rfl rfl (by decide) (kX10_row l er5).2 (kX10_row l er5).1 rfl rfl dX11_untwist_28 ⟨Nat.le_of_ble_eq_true rfl, Nat.le_of_ble_eq_true rfl⟩ ⟨(Nat.le_of_ble_eq_true rfl), (Nat.le_of_ble_eq_true rfl)⟩ (Nat.le_of_ble_eq_true rfl) ?_
      refine v_iload_n E dX11_untwist_31 rfl ?_
      replace h := bnd_e h
      obtain ⟨r6, er6, h⟩ := h
      refine v_callV (na := 1) (As := [vI a2]) (rest := []) (ci := 7) (q := (RX7, TX7, 14)) E gw11_248 (by decide +kernel) rfl rfl (by decide) (kX7_isLoop l er6).2 (kX7_isLoop l er6).1 rfl rfl dX11_untwist_32 ⟨Nat.le_of_ble_eq_true rfl, Nat.le_of_ble_eq_true rfl⟩ ⟨(Nat.le_of_ble_eq_true rfl), (Nat.le_of_ble_eq_true rfl)⟩ (Nat.le_of_ble_eq_true rfl) ?_
      refine v_if_ne (tgt := 41) E dX11_untwist_35 (by decide) (fun c12 => ?_) (fun c12 => ?_)
      · rw [if_neg c12] at h
        refine v_aload_n E dX11_untwist_41 rfl ?_
        replace h := bnd_e h
        obtain ⟨v7, ev7, h⟩ := h
        refine g11_54 E ev7 dX11_untwist_42 ?_
        refine v_aload_n E dX11_untwist_45 rfl ?_
        replace h := bnd_e h
        obtain ⟨r8, er8, h⟩ := h
        refine v_callV (na := 0) (As := []) (rest := [vR v7]) (ci := 10) (q := (RX10, TX10, 3)) E gw11_115 (by decide +kernel) rfl rfl (by decide) (kX10_row l er8).2 (kX10_row l er8).1 rfl rfl dX11_untwist_46 ⟨Nat.le_of_ble_eq_true rfl, Nat.le_of_ble_eq_true rfl⟩ ⟨(Nat.le_of_ble_eq_true rfl), (Nat.le_of_ble_eq_true rfl)⟩ (Nat.le_of_ble_eq_true rfl) ?_
        refine v_iconst (v := 1) E dX11_untwist_49 (by decide) ?_
        refine v_iload_n E dX11_untwist_50 rfl ?_
        refine v_ishl E dX11_untwist_51 ?_
        replace h := bnd_e h
        obtain ⟨r9, er9, h⟩ := h
        refine v_callV (na := 2) (As := [vR r8, vI ((1 : Int32) <<< ((a2 : Int32) &&& 31))]) (rest := []) (ci := 1) (q := (RX1, TX1, 2)) E gw11_251 (by decide +kernel) rfl rfl (by decide) (kX1_writeWithout l er9).2 (kX1_writeWithout l er9).1 rfl rfl dX11_untwist_52 ⟨Nat.le_of_ble_eq_true rfl, Nat.le_of_ble_eq_true rfl⟩ ⟨(Nat.le_of_ble_eq_true rfl), (Nat.le_of_ble_eq_true rfl)⟩ (Nat.le_of_ble_eq_true rfl) ?_
        refine v_aload_n E dX11_untwist_55 rfl ?_
        refine v_iload_n E dX11_untwist_56 rfl ?_
        replace h := bnd_e h
        obtain ⟨r10, er10, h⟩ := h
        refine v_callV (na := 1) (As := [vI a1]) (rest := []) (ci := 11) (q := (RX11, TX11, 8)) E gw11_238 (by decide +kernel) rfl rfl (by decide) (kX11_becomesDraft l er10).2 (kX11_becomesDraft l er10).1 rfl rfl dX11_untwist_57 ⟨Nat.le_of_ble_eq_true rfl, Nat.le_of_ble_eq_true rfl⟩ ⟨(Nat.le_of_ble_eq_true rfl), (Nat.le_of_ble_eq_true rfl)⟩ (Nat.le_of_ble_eq_true rfl) ?_
        refine v_widen (k' := 9) (n' := 75) (Nat.le_of_ble_eq_true rfl) (Nat.le_of_ble_eq_true rfl) ?_
        replace h := bnd_e h
        obtain ⟨r11, er11, h⟩ := h
        refine v_callV (na := 0) (As := []) (rest := []) (ci := 7) (q := (RX7, TX7, 14)) E gw11_121 (by decide +kernel) rfl rfl (by decide) (kX7_letterCount l er11).2 (kX7_letterCount l er11).1 rfl rfl dX11_untwist_60 ⟨Nat.le_of_ble_eq_true rfl, Nat.le_of_ble_eq_true rfl⟩ ⟨(Nat.le_of_ble_eq_true rfl), (Nat.le_of_ble_eq_true rfl)⟩ (Nat.le_of_ble_eq_true rfl) ?_
        replace h := Option.some.inj h
        subst h
        refine v_widen (k' := 9) (n' := 75) (Nat.le_of_ble_eq_true rfl) (Nat.le_of_ble_eq_true rfl) ?_
        exact v_iret E dX11_untwist_63
      · rw [if_pos c12] at h
        refine v_ldc (v := (-1000000003)) E dX11_untwist_38 q813 ?_
        replace h := Option.some.inj h
        subst h
        refine v_widen (k' := 9) (n' := 75) (Nat.le_of_ble_eq_true rfl) (Nat.le_of_ble_eq_true rfl) ?_
        exact v_iret E dX11_untwist_40
    · rw [if_pos c13] at h
      refine v_ldc (v := (-1000000001)) E dX11_untwist_24 q516 ?_
      replace h := Option.some.inj h
      subst h
      refine v_widen (k' := 9) (n' := 75) (Nat.le_of_ble_eq_true rfl) (Nat.le_of_ble_eq_true rfl) ?_
      exact v_iret E dX11_untwist_26
noncomputable def fX1_writeWithPoke (A0 : AH) (o0 : Option Nat) (a1 : Option Nat) (a2 : Int32) (a3 : Int32) (a4 : Int32) : Option (AH) :=
  (rcv A0 2 o0).bind fun o0 =>
  (fX1_clear A0 ((some o0))).bind fun r1 =>
  (fX7_letterCount r1 a1).bind fun r2 =>
  (iter (S := Int32 × AH) (T := AH) (fun s3 =>
      (fX7_placeCount s3.2 a1).bind fun r6 =>
      if r6 ≤ s3.1 then
        some (.inr s3.2)
      else
        (fX7_letterOn s3.2 a1 s3.1).bind fun r7 =>
        (fX1_put s3.2 ((some o0)) r7).bind fun r8 =>
        jp (fun (x20 : AH) =>
          some (.inl ((s3.1 + 1), x20))) fun K9 =>
          jp (fun (x18 : Unit) =>
            (fX1_putTwo r8 ((some o0)) r2 ((r2 + 1))).bind fun r19 =>
            K9 r19) fun K10 =>
            if s3.1 = a2 then
              K10 ()
            else
              jp (fun (x14 : Unit) =>
                if s3.1 = a3 then
                  (fX1_putTwo r8 ((some o0)) ((r2 + 1)) r2).bind fun r15 =>
                  K9 r15
                else
                  K9 r8) fun K11 =>
                if s3.1 = a3 then
                  if a4 = 0 then
                    K10 ()
                  else
                    K11 ()
                else
                  K11 ()) (0, r1)).bind fun t4 =>
  some t4
set_option maxRecDepth 100000 in
set_option maxHeartbeats 4000000 in
theorem kX1_writeWithPoke (l : Launch) {A0 : AH} {o0 : Option Nat} {a1 : Option Nat} {a2 : Int32} {a3 : Int32} {a4 : Int32} {r : AH} (h : fX1_writeWithPoke A0 o0 a1 a2 a3 a4 = some r) : (∃ a, o0 = some a ∧ Hk A0 a = 2) ∧ Cn l yX1_writeWithPoke cX1_writeWithPoke 8 none 2 43 0 0 [vR o0, vR a1, vI a2, vI a3, vI a4] A0 none r := by
  unfold fX1_writeWithPoke at h
  replace h := bnd_e h
  obtain ⟨o1, e1, h⟩ := h
  obtain ⟨rfl, hk0⟩ := rcv_e e1
  refine ⟨⟨o1, rfl, hk0⟩, ?_⟩
  refine Cn.of (pad := 3) (lv0 := [some (vR (some o1)), some (vR a1), some (vI a2), some (vI a3), some (vI a4), none, none, none]) (by decide +kernel) (Nat.le_of_ble_eq_true rfl) rfl ?_
  intro p e s m below meth c base D cy E
  generalize (List.map toV [vR (some o1), vR a1, vI a2, vI a3, vI a4]).toArray = ar at E ⊢
  have E : EN p s m ar meth c D cy RX1 cX1_writeWithPoke 8 none "writeWithPoke" := E
  refine v_aload_n E dX1_writeWithPoke_0 rfl ?_
  replace h := bnd_e h
  obtain ⟨r1, er1, h⟩ := h
  refine v_callV (na := 0) (As := []) (rest := []) (ci := 1) (q := (RX1, TX1, 2)) E gw1_28 (by decide +kernel) rfl rfl (by decide) (kX1_clear l er1).2 (kX1_clear l er1).1 rfl rfl dX1_writeWithPoke_1 ⟨Nat.le_of_ble_eq_true rfl, Nat.le_of_ble_eq_true rfl⟩ ⟨(Nat.le_of_ble_eq_true rfl), (Nat.le_of_ble_eq_true rfl)⟩ (Nat.le_of_ble_eq_true rfl) ?_
  refine v_aload_n E dX1_writeWithPoke_4 rfl ?_
  replace h := bnd_e h
  obtain ⟨r2, er2, h⟩ := h
  refine v_callV (na := 0) (As := []) (rest := []) (ci := 7) (q := (RX7, TX7, 14)) E gw1_51 (by decide +kernel) rfl rfl (by decide) (kX7_letterCount l er2).2 (kX7_letterCount l er2).1 rfl rfl dX1_writeWithPoke_5 ⟨Nat.le_of_ble_eq_true rfl, Nat.le_of_ble_eq_true rfl⟩ ⟨(Nat.le_of_ble_eq_true rfl), (Nat.le_of_ble_eq_true rfl)⟩ (Nat.le_of_ble_eq_true rfl) ?_
  refine v_istore (lv' := [some (vR (some o1)), some (vR a1), some (vI a2), some (vI a3), some (vI a4), some (vI r2), none, none]) E dX1_writeWithPoke_8 (by decide) rfl ?_
  refine v_iload E dX1_writeWithPoke_10 rfl ?_
  refine v_iconst (v := 1) E dX1_writeWithPoke_12 (by decide) ?_
  refine v_iadd E dX1_writeWithPoke_13 ?_
  refine v_istore (lv' := [some (vR (some o1)), some (vR a1), some (vI a2), some (vI a3), some (vI a4), some (vI r2), some (vI (r2 + 1)), none]) E dX1_writeWithPoke_14 (by decide) rfl ?_
  refine v_iconst (v := 0) E dX1_writeWithPoke_16 (by decide) ?_
  refine v_istore (lv' := [some (vR (some o1)), some (vR a1), some (vI a2), some (vI a3), some (vI a4), some (vI r2), some (vI (r2 + 1)), some (vI 0)]) E dX1_writeWithPoke_17 (by decide) rfl ?_
  replace h := bnd_e h
  obtain ⟨t4, et4, h⟩ := h
  refine iter_V (S := Int32 × AH) (T := AH) (Ph := fun s3 => V p l e { frames := 2, cells := 0, slots := 0, locals := 43 } s m ar below meth c (MQ below (Qd base D cy none r) ar s 0 0 (fun q => base ≤ q)) base D cy 8 19 [some (vR (some o1)), some (vR a1), some (vI a2), some (vI a3), some (vI a4), some (vI r2), some (vI (r2 + 1)), some (vI s3.1)] [] s3.2 0 0) (Pt := fun t4 => V p l e { frames := 2, cells := 0, slots := 0, locals := 43 } s m ar below meth c (MQ below (Qd base D cy none r) ar s 0 0 (fun q => base ≤ q)) base D cy 8 86 [none, none, none, none, none, none, none, none] [] t4 0 0) et4 (fun s3 w5 h hx => ?_) ?_
  · try dsimp only at h
    refine v_iload E dX1_writeWithPoke_19 rfl ?_
    refine v_aload_n E dX1_writeWithPoke_21 rfl ?_
    replace h := bnd_e h
    obtain ⟨r6, er6, h⟩ := h
    refine v_callV (na := 0) (As := []) (rest := [vI s3.1]) (ci := 7) (q := (RX7, TX7, 14)) E gw1_31 (by decide +kernel) rfl rfl (by decide) (kX7_placeCount l er6).2 (kX7_placeCount l er6).1 rfl rfl dX1_writeWithPoke_22 ⟨Nat.le_of_ble_eq_true rfl, Nat.le_of_ble_eq_true rfl⟩ ⟨(Nat.le_of_ble_eq_true rfl), (Nat.le_of_ble_eq_true rfl)⟩ (Nat.le_of_ble_eq_true rfl) ?_
    refine v_icmp_ge (tgt := 86) E dX1_writeWithPoke_25 (by decide) (fun c21 => ?_) (fun c21 => ?_)
    · rw [if_pos c21] at h
      refine v_drop (lv' := [none, none, none, none, none, none, none, none]) [0, 1, 2, 3, 4, 5, 6, 7] rfl ?_
      replace h := Option.some.inj h
      subst h
      exact hx
    · rw [if_neg c21] at h
      refine v_aload_n E dX1_writeWithPoke_28 rfl ?_
      refine v_aload_n E dX1_writeWithPoke_29 rfl ?_
      refine v_iload E dX1_writeWithPoke_30 rfl ?_
      replace h := bnd_e h
      obtain ⟨r7, er7, h⟩ := h
      refine v_callV (na := 1) (As := [vI s3.1]) (rest := [vR (some o1)]) (ci := 7) (q := (RX7, TX7, 14)) E gw1_37 (by decide +kernel) rfl rfl (by decide) (kX7_letterOn l er7).2 (kX7_letterOn l er7).1 rfl rfl dX1_writeWithPoke_32 ⟨Nat.le_of_ble_eq_true rfl, Nat.le_of_ble_eq_true rfl⟩ ⟨(Nat.le_of_ble_eq_true rfl), (Nat.le_of_ble_eq_true rfl)⟩ (Nat.le_of_ble_eq_true rfl) ?_
      replace h := bnd_e h
      obtain ⟨r8, er8, h⟩ := h
      refine v_callV (na := 1) (As := [vI r7]) (rest := []) (ci := 1) (q := (RX1, TX1, 2)) E gw1_41 (by decide +kernel) rfl rfl (by decide) (kX1_put l er8).2 (kX1_put l er8).1 rfl rfl dX1_writeWithPoke_35 ⟨Nat.le_of_ble_eq_true rfl, Nat.le_of_ble_eq_true rfl⟩ ⟨(Nat.le_of_ble_eq_true rfl), (Nat.le_of_ble_eq_true rfl)⟩ (Nat.le_of_ble_eq_true rfl) ?_
      refine v_iload E dX1_writeWithPoke_38 rfl ?_
      refine v_iload_n E dX1_writeWithPoke_40 rfl ?_
      refine jp_use h (fun K9 eK9 h => ?_)
      have hK9 : ∀ x20 : AH, K9 x20 = some w5 → V p l e { frames := 2, cells := 0, slots := 0, locals := 43 } s m ar below meth c (MQ below (Qd base D cy none r) ar s 0 0 (fun q => base ≤ q)) base D cy 8 80 [some (vR (some o1)), some (vR a1), some (vI a2), some (vI a3), some (vI a4), some (vI r2), some (vI (r2 + 1)), some (vI s3.1)] [] x20 0 0 := by
        intro x20 h
        rw [eK9] at h
        try dsimp only at h
        refine v_iinc (v := (s3.1 + 1)) (lv' := [some (vR (some o1)), some (vR a1), some (vI a2), some (vI a3), some (vI a4), some (vI r2), some (vI (r2 + 1)), some (vI (s3.1 + 1))]) E dX1_writeWithPoke_80 rfl (by rfl) (by decide) rfl ?_
        refine v_goto (tgt := 19) E dX1_writeWithPoke_83 (by decide) ?_
        replace h := Option.some.inj h
        subst h
        exact hx
      refine jp_use h (fun K10 eK10 h => ?_)
      have hK10 : ∀ x18 : Unit, K10 x18 = some w5 → V p l e { frames := 2, cells := 0, slots := 0, locals := 43 } s m ar below meth c (MQ below (Qd base D cy none r) ar s 0 0 (fun q => base ≤ q)) base D cy 8 55 [some (vR (some o1)), some (vR a1), some (vI a2), some (vI a3), some (vI a4), some (vI r2), some (vI (r2 + 1)), some (vI s3.1)] [] r8 0 0 := by
        intro x18 h
        rw [eK10] at h
        try dsimp only at h
        refine v_aload_n E dX1_writeWithPoke_55 rfl ?_
        refine v_iload E dX1_writeWithPoke_56 rfl ?_
        refine v_iload E dX1_writeWithPoke_58 rfl ?_
        replace h := bnd_e h
        obtain ⟨r19, er19, h⟩ := h
        refine v_callV (na := 2) (As := [vI r2, vI (r2 + 1)]) (rest := []) (ci := 1) (q := (RX1, TX1, 2)) E gw1_54 (by decide +kernel) rfl rfl (by decide) (kX1_putTwo l er19).2 (kX1_putTwo l er19).1 rfl rfl dX1_writeWithPoke_60 ⟨Nat.le_of_ble_eq_true rfl, Nat.le_of_ble_eq_true rfl⟩ ⟨(Nat.le_of_ble_eq_true rfl), (Nat.le_of_ble_eq_true rfl)⟩ (Nat.le_of_ble_eq_true rfl) ?_
        refine v_goto (tgt := 80) E dX1_writeWithPoke_63 (by decide) ?_
        exact hK9 r19 h
      refine v_icmp_eq (tgt := 55) E dX1_writeWithPoke_41 (by decide) (fun c17 => ?_) (fun c17 => ?_)
      · rw [if_pos c17] at h
        exact hK10 () h
      · rw [if_neg c17] at h
        refine v_iload E dX1_writeWithPoke_44 rfl ?_
        refine v_iload_n E dX1_writeWithPoke_46 rfl ?_
        refine jp_use h (fun K11 eK11 h => ?_)
        have hK11 : ∀ x14 : Unit, K11 x14 = some w5 → V p l e { frames := 2, cells := 0, slots := 0, locals := 43 } s m ar below meth c (MQ below (Qd base D cy none r) ar s 0 0 (fun q => base ≤ q)) base D cy 8 66 [some (vR (some o1)), some (vR a1), some (vI a2), some (vI a3), some (vI a4), some (vI r2), some (vI (r2 + 1)), some (vI s3.1)] [] r8 0 0 := by
          intro x14 h
          rw [eK11] at h
          try dsimp only at h
          refine v_iload E dX1_writeWithPoke_66 rfl ?_
          refine v_iload_n E dX1_writeWithPoke_68 rfl ?_
          refine v_icmp_ne (tgt := 80) E dX1_writeWithPoke_69 (by decide) (fun c16 => ?_) (fun c16 => ?_)
          · rw [if_neg c16] at h
            exact hK9 r8 h
          · rw [if_pos c16] at h
            refine v_aload_n E dX1_writeWithPoke_72 rfl ?_
            refine v_iload E dX1_writeWithPoke_73 rfl ?_
            refine v_iload E dX1_writeWithPoke_75 rfl ?_
            replace h := bnd_e h
            obtain ⟨r15, er15, h⟩ := h
            refine v_callV (na := 2) (As := [vI (r2 + 1), vI r2]) (rest := []) (ci := 1) (q := (RX1, TX1, 2)) E gw1_54 (by decide +kernel) rfl rfl (by decide) (kX1_putTwo l er15).2 (kX1_putTwo l er15).1 rfl rfl dX1_writeWithPoke_77 ⟨Nat.le_of_ble_eq_true rfl, Nat.le_of_ble_eq_true rfl⟩ ⟨(Nat.le_of_ble_eq_true rfl), (Nat.le_of_ble_eq_true rfl)⟩ (Nat.le_of_ble_eq_true rfl) ?_
            exact hK9 r15 h
        refine v_icmp_ne (tgt := 66) E dX1_writeWithPoke_47 (by decide) (fun c13 => ?_) (fun c13 => ?_)
        · rw [if_neg c13] at h
          exact hK11 () h
        · rw [if_pos c13] at h
          refine v_iload E dX1_writeWithPoke_50 rfl ?_
          refine v_if_ne (tgt := 66) E dX1_writeWithPoke_52 (by decide) (fun c12 => ?_) (fun c12 => ?_)
          · rw [if_neg c12] at h
            exact hK11 () h
          · rw [if_pos c12] at h
            exact hK10 () h
  · replace h := Option.some.inj h
    subst h
    refine v_widen (k' := 0) (n' := 0) (Nat.le_of_ble_eq_true rfl) (Nat.le_of_ble_eq_true rfl) ?_
    exact v_vret E dX1_writeWithPoke_86
noncomputable def fX11_poke (A0 : AH) (o0 : Option Nat) (a1 : Int32) (a2 : Int32) (a3 : Int32) (a4 : Int32) : Option (Int32 × AH) :=
  (rcv A0 12 o0).bind fun o0 =>
  (gR A0 12 352 ((some o0))).bind fun v1 =>
  (fX8_get A0 v1 a1).bind fun r2 =>
  if r2 = none then
    some (((-1000000001), A0))
  else
    (fX10_row A0 r2).bind fun r3 =>
    (fX7_hasStep A0 r3 a2).bind fun r4 =>
    if r4 = 0 then
      some (((-1000000001), A0))
    else
      (fX10_row A0 r2).bind fun r5 =>
      (fX7_hasStep A0 r5 a3).bind fun r6 =>
      if r6 = 0 then
        some (((-1000000001), A0))
      else
        if a2 = a3 then
          some (((-1000000001), A0))
        else
          if a4 < 0 then
            some (((-1000000002), A0))
          else
            if a4 ≤ 1 then
              (fX10_row A0 r2).bind fun r7 =>
              (fX7_letterCount A0 r7).bind fun r8 =>
              if (r8 + 2) ≤ 8 then
                (gR A0 12 358 ((some o0))).bind fun v9 =>
                (fX10_row A0 r2).bind fun r10 =>
                (fX1_writeWithPoke A0 v9 r10 a2 a3 a4).bind fun r11 =>
                (fX11_becomesDraft r11 ((some o0)) a1).bind fun r12 =>
                (fX7_letterCount r12.2 r12.1).bind fun r13 =>
                some ((r13, r12.2))
              else
                some (((-1000000004), A0))
            else
              some (((-1000000002), A0))
set_option maxRecDepth 100000 in
set_option maxHeartbeats 4000000 in
theorem kX11_poke (l : Launch) {A0 : AH} {o0 : Option Nat} {a1 : Int32} {a2 : Int32} {a3 : Int32} {a4 : Int32} {r : Int32 × AH} (h : fX11_poke A0 o0 a1 a2 a3 a4 = some r) : (∃ a, o0 = some a ∧ Hk A0 a = 12) ∧ Cn l yX11_poke cX11_poke 6 (some .int) 5 108 9 75 [vR o0, vI a1, vI a2, vI a3, vI a4] A0 (some (vI r.1)) r.2 := by
  unfold fX11_poke at h
  replace h := bnd_e h
  obtain ⟨o1, e1, h⟩ := h
  obtain ⟨rfl, hk0⟩ := rcv_e e1
  refine ⟨⟨o1, rfl, hk0⟩, ?_⟩
  refine Cn.of (pad := 1) (lv0 := [some (vR (some o1)), some (vI a1), some (vI a2), some (vI a3), some (vI a4), none]) (by decide +kernel) (Nat.le_of_ble_eq_true rfl) rfl ?_
  intro p e s m below meth c base D cy E
  generalize (List.map toV [vR (some o1), vI a1, vI a2, vI a3, vI a4]).toArray = ar at E ⊢
  have E : EN p s m ar meth c D cy RX11 cX11_poke 6 (some .int) "poke" := E
  refine v_aload_n E dX11_poke_0 rfl ?_
  replace h := bnd_e h
  obtain ⟨v1, ev1, h⟩ := h
  refine g11_10 E ev1 dX11_poke_1 ?_
  refine v_iload_n E dX11_poke_4 rfl ?_
  replace h := bnd_e h
  obtain ⟨r2, er2, h⟩ := h
  refine v_callV (na := 1) (As := [vI a1]) (rest := []) (ci := 8) (q := (RX8, TX8, 2)) E gw11_110 (by decide +kernel) rfl rfl (by decide) (kX8_get l er2).2 (kX8_get l er2).1 rfl rfl dX11_poke_5 ⟨Nat.le_of_ble_eq_true rfl, Nat.le_of_ble_eq_true rfl⟩ ⟨(Nat.le_of_ble_eq_true rfl), (Nat.le_of_ble_eq_true rfl)⟩ (Nat.le_of_ble_eq_true rfl) ?_
  refine v_astore (lv' := [some (vR (some o1)), some (vI a1), some (vI a2), some (vI a3), some (vI a4), some (vR r2)]) E dX11_poke_8 (by decide) rfl ?_
  refine v_aload E dX11_poke_10 rfl ?_
  refine v_ifnull (tgt := 44) E dX11_poke_12 (by decide) (fun c20 => ?_) (fun c20 => ?_)
  · rw [if_pos c20] at h
    refine v_ldc (v := (-1000000001)) E dX11_poke_44 q516 ?_
    replace h := Option.some.inj h
    subst h
    refine v_widen (k' := 9) (n' := 75) (Nat.le_of_ble_eq_true rfl) (Nat.le_of_ble_eq_true rfl) ?_
    exact v_iret E dX11_poke_46
  · rw [if_neg c20] at h
    refine v_aload E dX11_poke_15 rfl ?_
    replace h := bnd_e h
    obtain ⟨r3, er3, h⟩ := h
    refine v_callV (na := 0) (As := []) (rest := []) (ci := 10) (q := (RX10, TX10, 3)) E gw11_115 (by decide +kernel) rfl rfl (by decide) (kX10_row l er3).2 (kX10_row l er3).1 rfl rfl dX11_poke_17 ⟨Nat.le_of_ble_eq_true rfl, Nat.le_of_ble_eq_true rfl⟩ ⟨(Nat.le_of_ble_eq_true rfl), (Nat.le_of_ble_eq_true rfl)⟩ (Nat.le_of_ble_eq_true rfl) ?_
    refine v_iload_n E dX11_poke_20 rfl ?_
    replace h := bnd_e h
    obtain ⟨r4, er4, h⟩ := h
    refine v_callV (na := 1) (As := [vI a2]) (rest := []) (ci := 7) (q := (RX7, TX7, 14)) E gw11_242 (by decide +kernel) rfl rfl (by decide) (kX7_hasStep l er4).2 (kX7_hasStep l er4).1 rfl rfl dX11_poke_21 ⟨Nat.le_of_ble_eq_true rfl, Nat.le_of_ble_eq_true rfl⟩ ⟨(Nat.le_of_ble_eq_true rfl), (Nat.le_of_ble_eq_true rfl)⟩ (Nat.le_of_ble_eq_true rfl) ?_
    refine v_if_eq (tgt := 44) E dX11_poke_24 (by decide) (fun c19 => ?_) (fun c19 => ?_)
    · rw [if_pos c19] at h
      refine v_ldc (v := (-1000000001)) E dX11_poke_44 q516 ?_
      replace h := Option.some.inj h
      subst h
      refine v_widen (k' := 9) (n' := 75) (Nat.le_of_ble_eq_true rfl) (Nat.le_of_ble_eq_true rfl) ?_
      exact v_iret E dX11_poke_46
    · rw [if_neg c19] at h
      refine v_aload E dX11_poke_27 rfl ?_
      replace h := bnd_e h
      obtain ⟨r5, er5, h⟩ := h
      refine v_callV (na := 0) (As := []) (rest := []) (ci := 10) (q := (RX10, TX10, 3)) E gw11_115 (by decide +kernel) rfl rfl (by decide) (kX10_row l er5).2 (kX10_row l er5).1 rfl rfl dX11_poke_29 ⟨Nat.le_of_ble_eq_true rfl, Nat.le_of_ble_eq_true rfl⟩ ⟨(Nat.le_of_ble_eq_true rfl), (Nat.le_of_ble_eq_true rfl)⟩ (Nat.le_of_ble_eq_true rfl) ?_
      refine v_iload_n E dX11_poke_32 rfl ?_
      replace h := bnd_e h
      obtain ⟨r6, er6, h⟩ := h
      refine v_callV (na := 1) (As := [vI a3]) (rest := []) (ci := 7) (q := (RX7, TX7, 14)) E gw11_242 (by decide +kernel) rfl rfl (by decide) (kX7_hasStep l er6).2 (kX7_hasStep l er6).1 rfl rfl dX11_poke_33 ⟨Nat.le_of_ble_eq_true rfl, Nat.le_of_ble_eq_true rfl⟩ ⟨(Nat.le_of_ble_eq_true rfl), (Nat.le_of_ble_eq_true rfl)⟩ (Nat.le_of_ble_eq_true rfl) ?_
      refine v_if_eq (tgt := 44) E dX11_poke_36 (by decide) (fun c18 => ?_) (fun c18 => ?_)
      · rw [if_pos c18] at h
        refine v_ldc (v := (-1000000001)) E dX11_poke_44 q516 ?_
        replace h := Option.some.inj h
        subst h
        refine v_widen (k' := 9) (n' := 75) (Nat.le_of_ble_eq_true rfl) (Nat.le_of_ble_eq_true rfl) ?_
        exact v_iret E dX11_poke_46
      · rw [if_neg c18] at h
        refine v_iload_n E dX11_poke_39 rfl ?_
        refine v_iload_n E dX11_poke_40 rfl ?_
        refine v_icmp_ne (tgt := 47) E dX11_poke_41 (by decide) (fun c17 => ?_) (fun c17 => ?_)
        · rw [if_neg c17] at h
          refine v_iload E dX11_poke_47 rfl ?_
          refine v_if_lt (tgt := 58) E dX11_poke_49 (by decide) (fun c16 => ?_) (fun c16 => ?_)
          · rw [if_pos c16] at h
            refine v_ldc (v := (-1000000002)) E dX11_poke_58 q262 ?_
            replace h := Option.some.inj h
            subst h
            refine v_widen (k' := 9) (n' := 75) (Nat.le_of_ble_eq_true rfl) (Nat.le_of_ble_eq_true rfl) ?_
            exact v_iret E dX11_poke_60
          · rw [if_neg c16] at h
            refine v_iload E dX11_poke_52 rfl ?_
            refine v_iconst (v := 1) E dX11_poke_54 (by decide) ?_
            refine v_icmp_le (tgt := 61) E dX11_poke_55 (by decide) (fun c15 => ?_) (fun c15 => ?_)
            · rw [if_pos c15] at h
              refine v_aload E dX11_poke_61 rfl ?_
              replace h := bnd_e h
              obtain ⟨r7, er7, h⟩ := h
              refine v_callV (na := 0) (As := []) (rest := []) (ci := 10) (q := (RX10, TX10, 3)) E gw11_115 (by decide +kernel) rfl rfl (by decide) (kX10_row l er7).2 (kX10_row l er7).1 rfl rfl dX11_poke_63 ⟨Nat.le_of_ble_eq_true rfl, Nat.le_of_ble_eq_true rfl⟩ ⟨(Nat.le_of_ble_eq_true rfl), (Nat.le_of_ble_eq_true rfl)⟩ (Nat.le_of_ble_eq_true rfl) ?_
              replace h := bnd_e h
              obtain ⟨r8, er8, h⟩ := h
              refine v_callV (na := 0) (As := []) (rest := []) (ci := 7) (q := (RX7, TX7, 14)) E gw11_121 (by decide +kernel) rfl rfl (by decide) (kX7_letterCount l er8).2 (kX7_letterCount l er8).1 rfl rfl dX11_poke_66 ⟨Nat.le_of_ble_eq_true rfl, Nat.le_of_ble_eq_true rfl⟩ ⟨(Nat.le_of_ble_eq_true rfl), (Nat.le_of_ble_eq_true rfl)⟩ (Nat.le_of_ble_eq_true rfl) ?_
              refine v_iconst (v := 2) E dX11_poke_69 (by decide) ?_
              refine v_iadd E dX11_poke_70 ?_
              refine v_bipush (v := 8) E dX11_poke_71 (by decide) ?_
              refine v_icmp_le (tgt := 79) E dX11_poke_73 (by decide) (fun c14 => ?_) (fun c14 => ?_)
              · rw [if_pos c14] at h
                refine v_aload_n E dX11_poke_79 rfl ?_
                replace h := bnd_e h
                obtain ⟨v9, ev9, h⟩ := h
                refine g11_54 E ev9 dX11_poke_80 ?_
                refine v_aload E dX11_poke_83 rfl ?_
                replace h := bnd_e h
                obtain ⟨r10, er10, h⟩ := h
                refine v_callV (na := 0) (As := []) (rest := [vR v9]) (ci := 10) (q := (RX10, TX10, 3)) E gw11_115 (by decide +kernel) rfl rfl (by decide) (kX10_row l er10).2 (kX10_row l er10).1 rfl rfl dX11_poke_85 ⟨Nat.le_of_ble_eq_true rfl, Nat.le_of_ble_eq_true rfl⟩ ⟨(Nat.le_of_ble_eq_true rfl), (Nat.le_of_ble_eq_true rfl)⟩ (Nat.le_of_ble_eq_true rfl) ?_
                refine v_iload_n E dX11_poke_88 rfl ?_
                refine v_iload_n E dX11_poke_89 rfl ?_
                refine v_iload E dX11_poke_90 rfl ?_
                replace h := bnd_e h
                obtain ⟨r11, er11, h⟩ := h
                refine v_callV (na := 4) (As := [vR r10, vI a2, vI a3, vI a4]) (rest := []) (ci := 1) (q := (RX1, TX1, 2)) E gw11_254 (by decide +kernel) rfl rfl (by decide) (kX1_writeWithPoke l er11).2 (kX1_writeWithPoke l er11).1 rfl rfl dX11_poke_92 ⟨Nat.le_of_ble_eq_true rfl, Nat.le_of_ble_eq_true rfl⟩ ⟨(Nat.le_of_ble_eq_true rfl), (Nat.le_of_ble_eq_true rfl)⟩ (Nat.le_of_ble_eq_true rfl) ?_
                refine v_aload_n E dX11_poke_95 rfl ?_
                refine v_iload_n E dX11_poke_96 rfl ?_
                replace h := bnd_e h
                obtain ⟨r12, er12, h⟩ := h
                refine v_callV (na := 1) (As := [vI a1]) (rest := []) (ci := 11) (q := (RX11, TX11, 8)) E gw11_238 (by decide +kernel) rfl rfl (by decide) (kX11_becomesDraft l er12).2 (kX11_becomesDraft l er12).1 rfl rfl dX11_poke_97 ⟨Nat.le_of_ble_eq_true rfl, Nat.le_of_ble_eq_true rfl⟩ ⟨(Nat.le_of_ble_eq_true rfl), (Nat.le_of_ble_eq_true rfl)⟩ (Nat.le_of_ble_eq_true rfl) ?_
                refine v_widen (k' := 9) (n' := 75) (Nat.le_of_ble_eq_true rfl) (Nat.le_of_ble_eq_true rfl) ?_
                replace h := bnd_e h
                obtain ⟨r13, er13, h⟩ := h
                refine v_callV (na := 0) (As := []) (rest := []) (ci := 7) (q := (RX7, TX7, 14)) E gw11_121 (by decide +kernel) rfl rfl (by decide) (kX7_letterCount l er13).2 (kX7_letterCount l er13).1 rfl rfl dX11_poke_100 ⟨Nat.le_of_ble_eq_true rfl, Nat.le_of_ble_eq_true rfl⟩ ⟨(Nat.le_of_ble_eq_true rfl), (Nat.le_of_ble_eq_true rfl)⟩ (Nat.le_of_ble_eq_true rfl) ?_
                replace h := Option.some.inj h
                subst h
                refine v_widen (k' := 9) (n' := 75) (Nat.le_of_ble_eq_true rfl) (Nat.le_of_ble_eq_true rfl) ?_
                exact v_iret E dX11_poke_103
              · rw [if_neg c14] at h
                refine v_ldc (v := (-1000000004)) E dX11_poke_76 q271 ?_
                replace h := Option.some.inj h
                subst h
                refine v_widen (k' := 9) (n' := 75) (Nat.le_of_ble_eq_true rfl) (Nat.le_of_ble_eq_true rfl) ?_
                exact v_iret E dX11_poke_78
            · rw [if_neg c15] at h
              refine v_ldc (v := (-1000000002)) E dX11_poke_58 q262 ?_
              replace h := Option.some.inj h
              subst h
              refine v_widen (k' := 9) (n' := 75) (Nat.le_of_ble_eq_true rfl) (Nat.le_of_ble_eq_true rfl) ?_
              exact v_iret E dX11_poke_60
        · rw [if_pos c17] at h
          refine v_ldc (v := (-1000000001)) E dX11_poke_44 q516 ?_
          replace h := Option.some.inj h
          subst h
          refine v_widen (k' := 9) (n' := 75) (Nat.le_of_ble_eq_true rfl) (Nat.le_of_ble_eq_true rfl) ?_
          exact v_iret E dX11_poke_46
noncomputable def fX7_isPoke (A0 : AH) (o0 : Option Nat) (a1 : Int32) (a2 : Int32) : Option (Int32) :=
  (rcv A0 8 o0).bind fun o0 =>
  (iter (S := Int32) (T := (Unit) ⊕ (Int32)) (fun s1 =>
      if 2 ≤ s1 then
        some (.inr (.inl ()))
      else
        (fX7_placeOf A0 ((some o0)) a1 0).bind fun r4 =>
        (fX7_placeOf A0 ((some o0)) a2 s1).bind fun r5 =>
        (fX7_areBeside A0 ((some o0)) r4 r5).bind fun r6 =>
        jp (fun (x13 : Unit) =>
          some (.inl ((s1 + 1)))) fun K7 =>
          if r6 = 0 then
            K7 ()
          else
            (fX7_placeOf A0 ((some o0)) a1 1).bind fun r8 =>
            (fX7_placeOf A0 ((some o0)) a2 ((1 - s1))).bind fun r9 =>
            (fX7_areBeside A0 ((some o0)) r8 r9).bind fun r10 =>
            if r10 = 0 then
              K7 ()
            else
              some (.inr (.inr 1))) 0).bind fun t2 =>
  sm t2 (fun t2 =>
    some 0) (fun r => some r)
set_option maxRecDepth 100000 in
set_option maxHeartbeats 4000000 in
theorem kX7_isPoke (l : Launch) {A0 : AH} {o0 : Option Nat} {a1 : Int32} {a2 : Int32} {r : Int32} (h : fX7_isPoke A0 o0 a1 a2 = some r) : (∃ a, o0 = some a ∧ Hk A0 a = 8) ∧ Cn l yX7_isPoke cX7_isPoke 4 (some .boolean) 2 43 0 0 [vR o0, vI a1, vI a2] A0 (some (vI r)) A0 := by
  unfold fX7_isPoke at h
  replace h := bnd_e h
  obtain ⟨o1, e1, h⟩ := h
  obtain ⟨rfl, hk0⟩ := rcv_e e1
  refine ⟨⟨o1, rfl, hk0⟩, ?_⟩
  refine Cn.of (pad := 1) (lv0 := [some (vR (some o1)), some (vI a1), some (vI a2), none]) (by decide +kernel) (Nat.le_of_ble_eq_true rfl) rfl ?_
  intro p e s m below meth c base D cy E
  generalize (List.map toV [vR (some o1), vI a1, vI a2]).toArray = ar at E ⊢
  have E : EN p s m ar meth c D cy RX7 cX7_isPoke 4 (some .boolean) "isPoke" := E
  refine v_iconst (v := 0) E dX7_isPoke_0 (by decide) ?_
  refine v_istore_n (lv' := [some (vR (some o1)), some (vI a1), some (vI a2), some (vI 0)]) E dX7_isPoke_1 (by decide) rfl ?_
  replace h := bnd_e h
  obtain ⟨t2, et2, h⟩ := h
  refine iter_V (S := Int32) (T := (Unit) ⊕ (Int32)) (Ph := fun s1 => V p l e { frames := 2, cells := 0, slots := 0, locals := 43 } s m ar below meth c (MQ below (Qd base D cy (some (vI r)) A0) ar s 0 0 (fun q => base ≤ q)) base D cy 4 2 [some (vR (some o1)), some (vI a1), some (vI a2), some (vI s1)] [] A0 0 0) (Pt := itM (fun t2 => V p l e { frames := 2, cells := 0, slots := 0, locals := 43 } s m ar below meth c (MQ below (Qd base D cy (some (vI r)) A0) ar s 0 0 (fun q => base ≤ q)) base D cy 4 55 [none, none, none, none] [] A0 0 0) (fun z => z = r)) et2 (fun s1 w3 h hx => ?_) ?_
  · try dsimp only at h
    refine v_iload_n E dX7_isPoke_2 rfl ?_
    refine v_iconst (v := 2) E dX7_isPoke_3 (by decide) ?_
    refine v_icmp_ge (tgt := 55) E dX7_isPoke_4 (by decide) (fun c14 => ?_) (fun c14 => ?_)
    · rw [if_pos c14] at h
      refine v_drop (lv' := [none, none, none, none]) [0, 1, 2, 3] rfl ?_
      replace h := Option.some.inj h
      subst h
      exact hx
    · rw [if_neg c14] at h
      refine v_aload_n E dX7_isPoke_7 rfl ?_
      refine v_aload_n E dX7_isPoke_8 rfl ?_
      refine v_iload_n E dX7_isPoke_9 rfl ?_
      refine v_iconst (v := 0) E dX7_isPoke_10 (by decide) ?_
      replace h := bnd_e h
      obtain ⟨r4, er4, h⟩ := h
      refine v_callV (na := 2) (As := [vI a1, vI 0]) (rest := [vR (some o1)]) (ci := 7) (q := (RX7, TX7, 14)) E gw7_164 (by decide +kernel) rfl rfl (by decide) (kX7_placeOf l er4).2 (kX7_placeOf l er4).1 rfl rfl dX7_isPoke_11 ⟨Nat.le_of_ble_eq_true rfl, Nat.le_of_ble_eq_true rfl⟩ ⟨(Nat.le_of_ble_eq_true rfl), (Nat.le_of_ble_eq_true rfl)⟩ (Nat.le_of_ble_eq_true rfl) ?_
      refine v_aload_n E dX7_isPoke_14 rfl ?_
      refine v_iload_n E dX7_isPoke_15 rfl ?_
      refine v_iload_n E dX7_isPoke_16 rfl ?_
      replace h := bnd_e h
      obtain ⟨r5, er5, h⟩ := h
      refine v_callV (na := 2) (As := [vI a2, vI s1]) (rest := [vI r4, vR (some o1)]) (ci := 7) (q := (RX7, TX7, 14)) E gw7_164 (by decide +kernel) rfl rfl (by decide) (kX7_placeOf l er5).2 (kX7_placeOf l er5).1 rfl rfl dX7_isPoke_17 ⟨Nat.le_of_ble_eq_true rfl, Nat.le_of_ble_eq_true rfl⟩ ⟨(Nat.le_of_ble_eq_true rfl), (Nat.le_of_ble_eq_true rfl)⟩ (Nat.le_of_ble_eq_true rfl) ?_
      replace h := bnd_e h
      obtain ⟨r6, er6, h⟩ := h
      refine v_callV (na := 2) (As := [vI r4, vI r5]) (rest := []) (ci := 7) (q := (RX7, TX7, 14)) E gw7_167 (by decide +kernel) rfl rfl (by decide) (kX7_areBeside l er6).2 (kX7_areBeside l er6).1 rfl rfl dX7_isPoke_20 ⟨Nat.le_of_ble_eq_true rfl, Nat.le_of_ble_eq_true rfl⟩ ⟨(Nat.le_of_ble_eq_true rfl), (Nat.le_of_ble_eq_true rfl)⟩ (Nat.le_of_ble_eq_true rfl) ?_
      refine jp_use h (fun K7 eK7 h => ?_)
      have hK7 : ∀ x13 : Unit, K7 x13 = some w3 → V p l e { frames := 2, cells := 0, slots := 0, locals := 43 } s m ar below meth c (MQ below (Qd base D cy (some (vI r)) A0) ar s 0 0 (fun q => base ≤ q)) base D cy 4 49 [some (vR (some o1)), some (vI a1), some (vI a2), some (vI s1)] [] A0 0 0 := by
        intro x13 h
        rw [eK7] at h
        try dsimp only at h
        refine v_iinc (v := (s1 + 1)) (lv' := [some (vR (some o1)), some (vI a1), some (vI a2), some (vI (s1 + 1))]) E dX7_isPoke_49 rfl (by rfl) (by decide) rfl ?_
        refine v_goto (tgt := 2) E dX7_isPoke_52 (by decide) ?_
        replace h := Option.some.inj h
        subst h
        exact hx
      refine v_if_eq (tgt := 49) E dX7_isPoke_23 (by decide) (fun c12 => ?_) (fun c12 => ?_)
      · rw [if_pos c12] at h
        exact hK7 () h
      · rw [if_neg c12] at h
        refine v_aload_n E dX7_isPoke_26 rfl ?_
        refine v_aload_n E dX7_isPoke_27 rfl ?_
        refine v_iload_n E dX7_isPoke_28 rfl ?_
        refine v_iconst (v := 1) E dX7_isPoke_29 (by decide) ?_
        replace h := bnd_e h
        obtain ⟨r8, er8, h⟩ := h
        refine v_callV (na := 2) (As := [vI a1, vI 1]) (rest := [vR (some o1)]) (ci := 7) (q := (RX7, TX7, 14)) E gw7_164 (by decide +kernel) rfl rfl (by decide) (kX7_placeOf l er8).2 (kX7_placeOf l er8).1 rfl rfl dX7_isPoke_30 ⟨Nat.le_of_ble_eq_true rfl, Nat.le_of_ble_eq_true rfl⟩ ⟨(Nat.le_of_ble_eq_true rfl), (Nat.le_of_ble_eq_true rfl)⟩ (Nat.le_of_ble_eq_true rfl) ?_
        refine v_aload_n E dX7_isPoke_33 rfl ?_
        refine v_iload_n E dX7_isPoke_34 rfl ?_
        refine v_iconst (v := 1) E dX7_isPoke_35 (by decide) ?_
        refine v_iload_n E dX7_isPoke_36 rfl ?_
        refine v_isub E dX7_isPoke_37 ?_
        replace h := bnd_e h
        obtain ⟨r9, er9, h⟩ := h
        refine v_callV (na := 2) (As := [vI a2, vI (1 - s1)]) (rest := [vI r8, vR (some o1)]) (ci := 7) (q := (RX7, TX7, 14)) E gw7_164 (by decide +kernel) rfl rfl (by decide) (kX7_placeOf l er9).2 (kX7_placeOf l er9).1 rfl rfl dX7_isPoke_38 ⟨Nat.le_of_ble_eq_true rfl, Nat.le_of_ble_eq_true rfl⟩ ⟨(Nat.le_of_ble_eq_true rfl), (Nat.le_of_ble_eq_true rfl)⟩ (Nat.le_of_ble_eq_true rfl) ?_
        replace h := bnd_e h
        obtain ⟨r10, er10, h⟩ := h
        refine v_callV (na := 2) (As := [vI r8, vI r9]) (rest := []) (ci := 7) (q := (RX7, TX7, 14)) E gw7_167 (by decide +kernel) rfl rfl (by decide) (kX7_areBeside l er10).2 (kX7_areBeside l er10).1 rfl rfl dX7_isPoke_41 ⟨Nat.le_of_ble_eq_true rfl, Nat.le_of_ble_eq_true rfl⟩ ⟨(Nat.le_of_ble_eq_true rfl), (Nat.le_of_ble_eq_true rfl)⟩ (Nat.le_of_ble_eq_true rfl) ?_
        refine v_if_eq (tgt := 49) E dX7_isPoke_44 (by decide) (fun c11 => ?_) (fun c11 => ?_)
        · rw [if_pos c11] at h
          exact hK7 () h
        · rw [if_neg c11] at h
          refine v_iconst (v := 1) E dX7_isPoke_47 (by decide) ?_
          replace h := Option.some.inj h
          subst h
          have hx : _ = r := hx
          subst hx
          refine v_widen (k' := 0) (n' := 0) (Nat.le_of_ble_eq_true rfl) (Nat.le_of_ble_eq_true rfl) ?_
          exact v_zret E (Or.inr rfl) dX7_isPoke_48
  · cases t2 with
    | inl t2 =>
      dsimp only [sm] at h
      refine v_iconst (v := 0) E dX7_isPoke_55 (by decide) ?_
      replace h := Option.some.inj h
      subst h
      refine v_widen (k' := 0) (n' := 0) (Nat.le_of_ble_eq_true rfl) (Nat.le_of_ble_eq_true rfl) ?_
      exact v_zret E (Or.inl rfl) dX7_isPoke_56
    | inr z =>
      exact Option.some.inj h
noncomputable def fX11_unpoke (A0 : AH) (o0 : Option Nat) (a1 : Int32) (a2 : Int32) (a3 : Int32) : Option (Int32 × AH) :=
  (rcv A0 12 o0).bind fun o0 =>
  (gR A0 12 352 ((some o0))).bind fun v1 =>
  (fX8_get A0 v1 a1).bind fun r2 =>
  if r2 = none then
    some (((-1000000001), A0))
  else
    (fX10_row A0 r2).bind fun r3 =>
    (fX7_hasLetter A0 r3 a2).bind fun r4 =>
    if r4 = 0 then
      some (((-1000000001), A0))
    else
      (fX10_row A0 r2).bind fun r5 =>
      (fX7_hasLetter A0 r5 a3).bind fun r6 =>
      if r6 = 0 then
        some (((-1000000001), A0))
      else
        if a2 = a3 then
          some (((-1000000001), A0))
        else
          (fX10_row A0 r2).bind fun r7 =>
          (fX7_isPoke A0 r7 a2 a3).bind fun r8 =>
          if r8 = 0 then
            some (((-1000000003), A0))
          else
            (gR A0 12 358 ((some o0))).bind fun v9 =>
            (fX10_row A0 r2).bind fun r10 =>
            (fX1_writeWithout A0 v9 r10 ((((1 : Int32) <<< ((a2 : Int32) &&& 31)) ||| ((1 : Int32) <<< ((a3 : Int32) &&& 31))))).bind fun r11 =>
            (fX11_becomesDraft r11 ((some o0)) a1).bind fun r12 =>
            (fX7_letterCount r12.2 r12.1).bind fun r13 =>
            some ((r13, r12.2))
set_option maxRecDepth 100000 in
set_option maxHeartbeats 4000000 in
theorem kX11_unpoke (l : Launch) {A0 : AH} {o0 : Option Nat} {a1 : Int32} {a2 : Int32} {a3 : Int32} {r : Int32 × AH} (h : fX11_unpoke A0 o0 a1 a2 a3 = some r) : (∃ a, o0 = some a ∧ Hk A0 a = 12) ∧ Cn l yX11_unpoke cX11_unpoke 5 (some .int) 5 108 9 75 [vR o0, vI a1, vI a2, vI a3] A0 (some (vI r.1)) r.2 := by
  unfold fX11_unpoke at h
  replace h := bnd_e h
  obtain ⟨o1, e1, h⟩ := h
  obtain ⟨rfl, hk0⟩ := rcv_e e1
  refine ⟨⟨o1, rfl, hk0⟩, ?_⟩
  refine Cn.of (pad := 1) (lv0 := [some (vR (some o1)), some (vI a1), some (vI a2), some (vI a3), none]) (by decide +kernel) (Nat.le_of_ble_eq_true rfl) rfl ?_
  intro p e s m below meth c base D cy E
  generalize (List.map toV [vR (some o1), vI a1, vI a2, vI a3]).toArray = ar at E ⊢
  have E : EN p s m ar meth c D cy RX11 cX11_unpoke 5 (some .int) "unpoke" := E
  refine v_aload_n E dX11_unpoke_0 rfl ?_
  replace h := bnd_e h
  obtain ⟨v1, ev1, h⟩ := h
  refine g11_10 E ev1 dX11_unpoke_1 ?_
  refine v_iload_n E dX11_unpoke_4 rfl ?_
  replace h := bnd_e h
  obtain ⟨r2, er2, h⟩ := h
  refine v_callV (na := 1) (As := [vI a1]) (rest := []) (ci := 8) (q := (RX8, TX8, 2)) E gw11_110 (by decide +kernel) rfl rfl (by decide) (kX8_get l er2).2 (kX8_get l er2).1 rfl rfl dX11_unpoke_5 ⟨Nat.le_of_ble_eq_true rfl, Nat.le_of_ble_eq_true rfl⟩ ⟨(Nat.le_of_ble_eq_true rfl), (Nat.le_of_ble_eq_true rfl)⟩ (Nat.le_of_ble_eq_true rfl) ?_
  refine v_astore (lv' := [some (vR (some o1)), some (vI a1), some (vI a2), some (vI a3), some (vR r2)]) E dX11_unpoke_8 (by decide) rfl ?_
  refine v_aload E dX11_unpoke_10 rfl ?_
  refine v_ifnull (tgt := 44) E dX11_unpoke_12 (by decide) (fun c18 => ?_) (fun c18 => ?_)
  · rw [if_pos c18] at h
    refine v_ldc (v := (-1000000001)) E dX11_unpoke_44 q516 ?_
    replace h := Option.some.inj h
    subst h
    refine v_widen (k' := 9) (n' := 75) (Nat.le_of_ble_eq_true rfl) (Nat.le_of_ble_eq_true rfl) ?_
    exact v_iret E dX11_unpoke_46
  · rw [if_neg c18] at h
    refine v_aload E dX11_unpoke_15 rfl ?_
    replace h := bnd_e h
    obtain ⟨r3, er3, h⟩ := h
    refine v_callV (na := 0) (As := []) (rest := []) (ci := 10) (q := (RX10, TX10, 3)) E gw11_115 (by decide +kernel) rfl rfl (by decide) (kX10_row l er3).2 (kX10_row l er3).1 rfl rfl dX11_unpoke_17 ⟨Nat.le_of_ble_eq_true rfl, Nat.le_of_ble_eq_true rfl⟩ ⟨(Nat.le_of_ble_eq_true rfl), (Nat.le_of_ble_eq_true rfl)⟩ (Nat.le_of_ble_eq_true rfl) ?_
    refine v_iload_n E dX11_unpoke_20 rfl ?_
    replace h := bnd_e h
    obtain ⟨r4, er4, h⟩ := h
    refine v_callV (na := 1) (As := [vI a2]) (rest := []) (ci := 7) (q := (RX7, TX7, 14)) E gw11_179 (by decide +kernel) rfl rfl (by decide) (kX7_hasLetter l er4).2 (kX7_hasLetter l er4).1 rfl rfl dX11_unpoke_21 ⟨Nat.le_of_ble_eq_true rfl, Nat.le_of_ble_eq_true rfl⟩ ⟨(Nat.le_of_ble_eq_true rfl), (Nat.le_of_ble_eq_true rfl)⟩ (Nat.le_of_ble_eq_true rfl) ?_
    refine v_if_eq (tgt := 44) E dX11_unpoke_24 (by decide) (fun c17 => ?_) (fun c17 => ?_)
    · rw [if_pos c17] at h
      refine v_ldc (v := (-1000000001)) E dX11_unpoke_44 q516 ?_
      replace h := Option.some.inj h
      subst h
      refine v_widen (k' := 9) (n' := 75) (Nat.le_of_ble_eq_true rfl) (Nat.le_of_ble_eq_true rfl) ?_
      exact v_iret E dX11_unpoke_46
    · rw [if_neg c17] at h
      refine v_aload E dX11_unpoke_27 rfl ?_
      replace h := bnd_e h
      obtain ⟨r5, er5, h⟩ := h
      refine v_callV (na := 0) (As := []) (rest := []) (ci := 10) (q := (RX10, TX10, 3)) E gw11_115 (by decide +kernel) rfl rfl (by decide) (kX10_row l er5).2 (kX10_row l er5).1 rfl rfl dX11_unpoke_29 ⟨Nat.le_of_ble_eq_true rfl, Nat.le_of_ble_eq_true rfl⟩ ⟨(Nat.le_of_ble_eq_true rfl), (Nat.le_of_ble_eq_true rfl)⟩ (Nat.le_of_ble_eq_true rfl) ?_
      refine v_iload_n E dX11_unpoke_32 rfl ?_
      replace h := bnd_e h
      obtain ⟨r6, er6, h⟩ := h
      refine v_callV (na := 1) (As := [vI a3]) (rest := []) (ci := 7) (q := (RX7, TX7, 14)) E gw11_179 (by decide +kernel) rfl rfl (by decide) (kX7_hasLetter l er6).2 (kX7_hasLetter l er6).1 rfl rfl dX11_unpoke_33 ⟨Nat.le_of_ble_eq_true rfl, Nat.le_of_ble_eq_true rfl⟩ ⟨(Nat.le_of_ble_eq_true rfl), (Nat.le_of_ble_eq_true rfl)⟩ (Nat.le_of_ble_eq_true rfl) ?_
      refine v_if_eq (tgt := 44) E dX11_unpoke_36 (by decide) (fun c16 => ?_) (fun c16 => ?_)
      · rw [if_pos c16] at h
        refine v_ldc (v := (-1000000001)) E dX11_unpoke_44 q516 ?_
        replace h := Option.some.inj h
        subst h
        refine v_widen (k' := 9) (n' := 75) (Nat.le_of_ble_eq_true rfl) (Nat.le_of_ble_eq_true rfl) ?_
        exact v_iret E dX11_unpoke_46
      · rw [if_neg c16] at h
        refine v_iload_n E dX11_unpoke_39 rfl ?_
        refine v_iload_n E dX11_unpoke_40 rfl ?_
        refine v_icmp_ne (tgt := 47) E dX11_unpoke_41 (by decide) (fun c15 => ?_) (fun c15 => ?_)
        · rw [if_neg c15] at h
          refine v_aload E dX11_unpoke_47 rfl ?_
          replace h := bnd_e h
          obtain ⟨r7, er7, h⟩ := h
          refine v_callV (na := 0) (As := []) (rest := []) (ci := 10) (q := (RX10, TX10, 3)) E gw11_115 (by decide +kernel) rfl rfl (by decide) (kX10_row l er7).2 (kX10_row l er7).1 rfl rfl dX11_unpoke_49 ⟨Nat.le_of_ble_eq_true rfl, Nat.le_of_ble_eq_true rfl⟩ ⟨(Nat.le_of_ble_eq_true rfl), (Nat.le_of_ble_eq_true rfl)⟩ (Nat.le_of_ble_eq_true rfl) ?_
          refine v_iload_n E dX11_unpoke_52 rfl ?_
          refine v_iload_n E dX11_unpoke_53 rfl ?_
          replace h := bnd_e h
          obtain ⟨r8, er8, h⟩ := h
          refine v_callV (na := 2) (As := [vI a2, vI a3]) (rest := []) (ci := 7) (q := (RX7, TX7, 14)) E gw11_258 (by decide +kernel) rfl rfl (by decide) (kX7_isPoke l er8).2 (kX7_isPoke l er8).1 rfl rfl dX11_unpoke_54 ⟨Nat.le_of_ble_eq_true rfl, Nat.le_of_ble_eq_true rfl⟩ ⟨(Nat.le_of_ble_eq_true rfl), (Nat.le_of_ble_eq_true rfl)⟩ (Nat.le_of_ble_eq_true rfl) ?_
          refine v_if_ne (tgt := 63) E dX11_unpoke_57 (by decide) (fun c14 => ?_) (fun c14 => ?_)
          · rw [if_neg c14] at h
            refine v_aload_n E dX11_unpoke_63 rfl ?_
            replace h := bnd_e h
            obtain ⟨v9, ev9, h⟩ := h
            refine g11_54 E ev9 dX11_unpoke_64 ?_
            refine v_aload E dX11_unpoke_67 rfl ?_
            replace h := bnd_e h
            obtain ⟨r10, er10, h⟩ := h
            refine v_callV (na := 0) (As := []) (rest := [vR v9]) (ci := 10) (q := (RX10, TX10, 3)) E gw11_115 (by decide +kernel) rfl rfl (by decide) (kX10_row l er10).2 (kX10_row l er10).1 rfl rfl dX11_unpoke_69 ⟨Nat.le_of_ble_eq_true rfl, Nat.le_of_ble_eq_true rfl⟩ ⟨(Nat.le_of_ble_eq_true rfl), (Nat.le_of_ble_eq_true rfl)⟩ (Nat.le_of_ble_eq_true rfl) ?_
            refine v_iconst (v := 1) E dX11_unpoke_72 (by decide) ?_
            refine v_iload_n E dX11_unpoke_73 rfl ?_
            refine v_ishl E dX11_unpoke_74 ?_
            refine v_iconst (v := 1) E dX11_unpoke_75 (by decide) ?_
            refine v_iload_n E dX11_unpoke_76 rfl ?_
            refine v_ishl E dX11_unpoke_77 ?_
            refine v_ior E dX11_unpoke_78 ?_
            replace h := bnd_e h
            obtain ⟨r11, er11, h⟩ := h
            refine v_callV (na := 2) (As := [vR r10, vI (((1 : Int32) <<< ((a2 : Int32) &&& 31)) ||| ((1 : Int32) <<< ((a3 : Int32) &&& 31)))]) (rest := []) (ci := 1) (q := (RX1, TX1, 2)) E gw11_251 (by decide +kernel) rfl rfl (by decide) (kX1_writeWithout l er11).2 (kX1_writeWithout l er11).1 rfl rfl dX11_unpoke_79 ⟨Nat.le_of_ble_eq_true rfl, Nat.le_of_ble_eq_true rfl⟩ ⟨(Nat.le_of_ble_eq_true rfl), (Nat.le_of_ble_eq_true rfl)⟩ (Nat.le_of_ble_eq_true rfl) ?_
            refine v_aload_n E dX11_unpoke_82 rfl ?_
            refine v_iload_n E dX11_unpoke_83 rfl ?_
            replace h := bnd_e h
            obtain ⟨r12, er12, h⟩ := h
            refine v_callV (na := 1) (As := [vI a1]) (rest := []) (ci := 11) (q := (RX11, TX11, 8)) E gw11_238 (by decide +kernel) rfl rfl (by decide) (kX11_becomesDraft l er12).2 (kX11_becomesDraft l er12).1 rfl rfl dX11_unpoke_84 ⟨Nat.le_of_ble_eq_true rfl, Nat.le_of_ble_eq_true rfl⟩ ⟨(Nat.le_of_ble_eq_true rfl), (Nat.le_of_ble_eq_true rfl)⟩ (Nat.le_of_ble_eq_true rfl) ?_
            refine v_widen (k' := 9) (n' := 75) (Nat.le_of_ble_eq_true rfl) (Nat.le_of_ble_eq_true rfl) ?_
            replace h := bnd_e h
            obtain ⟨r13, er13, h⟩ := h
            refine v_callV (na := 0) (As := []) (rest := []) (ci := 7) (q := (RX7, TX7, 14)) E gw11_121 (by decide +kernel) rfl rfl (by decide) (kX7_letterCount l er13).2 (kX7_letterCount l er13).1 rfl rfl dX11_unpoke_87 ⟨Nat.le_of_ble_eq_true rfl, Nat.le_of_ble_eq_true rfl⟩ ⟨(Nat.le_of_ble_eq_true rfl), (Nat.le_of_ble_eq_true rfl)⟩ (Nat.le_of_ble_eq_true rfl) ?_
            replace h := Option.some.inj h
            subst h
            refine v_widen (k' := 9) (n' := 75) (Nat.le_of_ble_eq_true rfl) (Nat.le_of_ble_eq_true rfl) ?_
            exact v_iret E dX11_unpoke_90
          · rw [if_pos c14] at h
            refine v_ldc (v := (-1000000003)) E dX11_unpoke_60 q813 ?_
            replace h := Option.some.inj h
            subst h
            refine v_widen (k' := 9) (n' := 75) (Nat.le_of_ble_eq_true rfl) (Nat.le_of_ble_eq_true rfl) ?_
            exact v_iret E dX11_unpoke_62
        · rw [if_pos c15] at h
          refine v_ldc (v := (-1000000001)) E dX11_unpoke_44 q516 ?_
          replace h := Option.some.inj h
          subst h
          refine v_widen (k' := 9) (n' := 75) (Nat.le_of_ble_eq_true rfl) (Nat.le_of_ble_eq_true rfl) ?_
          exact v_iret E dX11_unpoke_46
noncomputable def fX7_hasThree (A0 : AH) (o0 : Option Nat) (a1 : Int32) (a2 : Int32) (a3 : Int32) : Option (Int32) :=
  (rcv A0 8 o0).bind fun o0 =>
  (fX7_hasLetter A0 ((some o0)) a1).bind fun r1 =>
  if r1 = 0 then
    some 0
  else
    (fX7_hasLetter A0 ((some o0)) a2).bind fun r2 =>
    if r2 = 0 then
      some 0
    else
      (fX7_hasLetter A0 ((some o0)) a3).bind fun r3 =>
      if r3 = 0 then
        some 0
      else
        if a1 = a2 then
          some 0
        else
          if a2 = a3 then
            some 0
          else
            if a3 = a1 then
              some 0
            else
              some 1
set_option maxRecDepth 100000 in
set_option maxHeartbeats 4000000 in
theorem kX7_hasThree (l : Launch) {A0 : AH} {o0 : Option Nat} {a1 : Int32} {a2 : Int32} {a3 : Int32} {r : Int32} (h : fX7_hasThree A0 o0 a1 a2 a3 = some r) : (∃ a, o0 = some a ∧ Hk A0 a = 8) ∧ Cn l yX7_hasThree cX7_hasThree 4 (some .boolean) 1 21 0 0 [vR o0, vI a1, vI a2, vI a3] A0 (some (vI r)) A0 := by
  unfold fX7_hasThree at h
  replace h := bnd_e h
  obtain ⟨o1, e1, h⟩ := h
  obtain ⟨rfl, hk0⟩ := rcv_e e1
  refine ⟨⟨o1, rfl, hk0⟩, ?_⟩
  refine Cn.of (pad := 0) (lv0 := [some (vR (some o1)), some (vI a1), some (vI a2), some (vI a3)]) (by decide +kernel) (Nat.le_of_ble_eq_true rfl) rfl ?_
  intro p e s m below meth c base D cy E
  generalize (List.map toV [vR (some o1), vI a1, vI a2, vI a3]).toArray = ar at E ⊢
  have E : EN p s m ar meth c D cy RX7 cX7_hasThree 4 (some .boolean) "hasThree" := E
  refine v_aload_n E dX7_hasThree_0 rfl ?_
  refine v_iload_n E dX7_hasThree_1 rfl ?_
  replace h := bnd_e h
  obtain ⟨r1, er1, h⟩ := h
  refine v_callV (na := 1) (As := [vI a1]) (rest := []) (ci := 7) (q := (RX7, TX7, 14)) E gw7_71 (by decide +kernel) rfl rfl (by decide) (kX7_hasLetter l er1).2 (kX7_hasLetter l er1).1 rfl rfl dX7_hasThree_2 ⟨Nat.le_of_ble_eq_true rfl, Nat.le_of_ble_eq_true rfl⟩ ⟨(Nat.le_of_ble_eq_true rfl), (Nat.le_of_ble_eq_true rfl)⟩ (Nat.le_of_ble_eq_true rfl) ?_
  refine v_if_eq (tgt := 43) E dX7_hasThree_5 (by decide) (fun c9 => ?_) (fun c9 => ?_)
  · rw [if_pos c9] at h
    refine v_iconst (v := 0) E dX7_hasThree_43 (by decide) ?_
    replace h := Option.some.inj h
    subst h
    refine v_widen (k' := 0) (n' := 0) (Nat.le_of_ble_eq_true rfl) (Nat.le_of_ble_eq_true rfl) ?_
    exact v_zret E (Or.inl rfl) dX7_hasThree_44
  · rw [if_neg c9] at h
    refine v_aload_n E dX7_hasThree_8 rfl ?_
    refine v_iload_n E dX7_hasThree_9 rfl ?_
    replace h := bnd_e h
    obtain ⟨r2, er2, h⟩ := h
    refine v_callV (na := 1) (As := [vI a2]) (rest := []) (ci := 7) (q := (RX7, TX7, 14)) E gw7_71 (by decide +kernel) rfl rfl (by decide) (kX7_hasLetter l er2).2 (kX7_hasLetter l er2).1 rfl rfl dX7_hasThree_10 ⟨Nat.le_of_ble_eq_true rfl, Nat.le_of_ble_eq_true rfl⟩ ⟨(Nat.le_of_ble_eq_true rfl), (Nat.le_of_ble_eq_true rfl)⟩ (Nat.le_of_ble_eq_true rfl) ?_
    refine v_if_eq (tgt := 43) E dX7_hasThree_13 (by decide) (fun c8 => ?_) (fun c8 => ?_)
    · rw [if_pos c8] at h
      refine v_iconst (v := 0) E dX7_hasThree_43 (by decide) ?_
      replace h := Option.some.inj h
      subst h
      refine v_widen (k' := 0) (n' := 0) (Nat.le_of_ble_eq_true rfl) (Nat.le_of_ble_eq_true rfl) ?_
      exact v_zret E (Or.inl rfl) dX7_hasThree_44
    · rw [if_neg c8] at h
      refine v_aload_n E dX7_hasThree_16 rfl ?_
      refine v_iload_n E dX7_hasThree_17 rfl ?_
      replace h := bnd_e h
      obtain ⟨r3, er3, h⟩ := h
      refine v_callV (na := 1) (As := [vI a3]) (rest := []) (ci := 7) (q := (RX7, TX7, 14)) E gw7_71 (by decide +kernel) rfl rfl (by decide) (kX7_hasLetter l er3).2 (kX7_hasLetter l er3).1 rfl rfl dX7_hasThree_18 ⟨Nat.le_of_ble_eq_true rfl, Nat.le_of_ble_eq_true rfl⟩ ⟨(Nat.le_of_ble_eq_true rfl), (Nat.le_of_ble_eq_true rfl)⟩ (Nat.le_of_ble_eq_true rfl) ?_
      refine v_if_eq (tgt := 43) E dX7_hasThree_21 (by decide) (fun c7 => ?_) (fun c7 => ?_)
      · rw [if_pos c7] at h
        refine v_iconst (v := 0) E dX7_hasThree_43 (by decide) ?_
        replace h := Option.some.inj h
        subst h
        refine v_widen (k' := 0) (n' := 0) (Nat.le_of_ble_eq_true rfl) (Nat.le_of_ble_eq_true rfl) ?_
        exact v_zret E (Or.inl rfl) dX7_hasThree_44
      · rw [if_neg c7] at h
        refine v_iload_n E dX7_hasThree_24 rfl ?_
        refine v_iload_n E dX7_hasThree_25 rfl ?_
        refine v_icmp_eq (tgt := 43) E dX7_hasThree_26 (by decide) (fun c6 => ?_) (fun c6 => ?_)
        · rw [if_pos c6] at h
          refine v_iconst (v := 0) E dX7_hasThree_43 (by decide) ?_
          replace h := Option.some.inj h
          subst h
          refine v_widen (k' := 0) (n' := 0) (Nat.le_of_ble_eq_true rfl) (Nat.le_of_ble_eq_true rfl) ?_
          exact v_zret E (Or.inl rfl) dX7_hasThree_44
        · rw [if_neg c6] at h
          refine v_iload_n E dX7_hasThree_29 rfl ?_
          refine v_iload_n E dX7_hasThree_30 rfl ?_
          refine v_icmp_eq (tgt := 43) E dX7_hasThree_31 (by decide) (fun c5 => ?_) (fun c5 => ?_)
          · rw [if_pos c5] at h
            refine v_iconst (v := 0) E dX7_hasThree_43 (by decide) ?_
            replace h := Option.some.inj h
            subst h
            refine v_widen (k' := 0) (n' := 0) (Nat.le_of_ble_eq_true rfl) (Nat.le_of_ble_eq_true rfl) ?_
            exact v_zret E (Or.inl rfl) dX7_hasThree_44
          · rw [if_neg c5] at h
            refine v_iload_n E dX7_hasThree_34 rfl ?_
            refine v_iload_n E dX7_hasThree_35 rfl ?_
            refine v_icmp_eq (tgt := 43) E dX7_hasThree_36 (by decide) (fun c4 => ?_) (fun c4 => ?_)
            · rw [if_pos c4] at h
              refine v_iconst (v := 0) E dX7_hasThree_43 (by decide) ?_
              replace h := Option.some.inj h
              subst h
              refine v_widen (k' := 0) (n' := 0) (Nat.le_of_ble_eq_true rfl) (Nat.le_of_ble_eq_true rfl) ?_
              exact v_zret E (Or.inl rfl) dX7_hasThree_44
            · rw [if_neg c4] at h
              refine v_iconst (v := 1) E dX7_hasThree_39 (by decide) ?_
              refine v_goto (tgt := 44) E dX7_hasThree_40 (by decide) ?_
              replace h := Option.some.inj h
              subst h
              refine v_widen (k' := 0) (n' := 0) (Nat.le_of_ble_eq_true rfl) (Nat.le_of_ble_eq_true rfl) ?_
              exact v_zret E (Or.inr rfl) dX7_hasThree_44
noncomputable def fX7_slideChoice (A0 : AH) (o0 : Option Nat) (a1 : Int32) (a2 : Int32) (a3 : Int32) : Option (Int32) :=
  (rcv A0 8 o0).bind fun o0 =>
  (iter (S := Int32) (T := (Unit) ⊕ (Int32)) (fun s1 =>
      if 8 ≤ s1 then
        some (.inr (.inl ()))
      else
        (fX7_placeOf A0 ((some o0)) a1 ((((s1 : Int32) >>> ((2 : Int32) &&& 31)) &&& 1))).bind fun r4 =>
        (fX7_placeOf A0 ((some o0)) a2 ((((s1 : Int32) >>> ((1 : Int32) &&& 31)) &&& 1))).bind fun r5 =>
        (fX7_areBeside A0 ((some o0)) r4 r5).bind fun r6 =>
        jp (fun (x17 : Unit) =>
          some (.inl ((s1 + 1)))) fun K7 =>
          if r6 = 0 then
            K7 ()
          else
            (fX7_placeOf A0 ((some o0)) a2 ((1 - (((s1 : Int32) >>> ((1 : Int32) &&& 31)) &&& 1)))).bind fun r8 =>
            (fX7_placeOf A0 ((some o0)) a3 ((s1 &&& 1))).bind fun r9 =>
            (fX7_areBeside A0 ((some o0)) r8 r9).bind fun r10 =>
            if r10 = 0 then
              K7 ()
            else
              (fX7_placeOf A0 ((some o0)) a3 ((1 - (s1 &&& 1)))).bind fun r11 =>
              (fX7_placeOf A0 ((some o0)) a1 ((1 - (((s1 : Int32) >>> ((2 : Int32) &&& 31)) &&& 1)))).bind fun r12 =>
              (fX7_areBeside A0 ((some o0)) r11 r12).bind fun r13 =>
              if r13 = 0 then
                K7 ()
              else
                some (.inr (.inr s1))) 0).bind fun t2 =>
  sm t2 (fun t2 =>
    some ((-1))) (fun r => some r)
set_option maxRecDepth 100000 in
set_option maxHeartbeats 4000000 in
theorem kX7_slideChoice (l : Launch) {A0 : AH} {o0 : Option Nat} {a1 : Int32} {a2 : Int32} {a3 : Int32} {r : Int32} (h : fX7_slideChoice A0 o0 a1 a2 a3 = some r) : (∃ a, o0 = some a ∧ Hk A0 a = 8) ∧ Cn l yX7_slideChoice cX7_slideChoice 8 (some .int) 2 43 0 0 [vR o0, vI a1, vI a2, vI a3] A0 (some (vI r)) A0 := by
  unfold fX7_slideChoice at h
  replace h := bnd_e h
  obtain ⟨o1, e1, h⟩ := h
  obtain ⟨rfl, hk0⟩ := rcv_e e1
  refine ⟨⟨o1, rfl, hk0⟩, ?_⟩
  refine Cn.of (pad := 4) (lv0 := [some (vR (some o1)), some (vI a1), some (vI a2), some (vI a3), none, none, none, none]) (by decide +kernel) (Nat.le_of_ble_eq_true rfl) rfl ?_
  intro p e s m below meth c base D cy E
  generalize (List.map toV [vR (some o1), vI a1, vI a2, vI a3]).toArray = ar at E ⊢
  have E : EN p s m ar meth c D cy RX7 cX7_slideChoice 8 (some .int) "slideChoice" := E
  refine v_iconst (v := 0) E dX7_slideChoice_0 (by decide) ?_
  refine v_istore (lv' := [some (vR (some o1)), some (vI a1), some (vI a2), some (vI a3), some (vI 0), none, none, none]) E dX7_slideChoice_1 (by decide) rfl ?_
  replace h := bnd_e h
  obtain ⟨t2, et2, h⟩ := h
  refine iter_V (S := Int32) (T := (Unit) ⊕ (Int32)) (Ph := fun s1 => V p l e { frames := 2, cells := 0, slots := 0, locals := 43 } s m ar below meth c (MQ below (Qd base D cy (some (vI r)) A0) ar s 0 0 (fun q => base ≤ q)) base D cy 8 3 [some (vR (some o1)), some (vI a1), some (vI a2), some (vI a3), some (vI s1), none, none, none] [] A0 0 0) (Pt := itM (fun t2 => V p l e { frames := 2, cells := 0, slots := 0, locals := 43 } s m ar below meth c (MQ below (Qd base D cy (some (vI r)) A0) ar s 0 0 (fun q => base ≤ q)) base D cy 8 110 [none, none, none, none, none, none, none, none] [] A0 0 0) (fun z => z = r)) et2 (fun s1 w3 h hx => ?_) ?_
  · try dsimp only at h
    refine v_iload E dX7_slideChoice_3 rfl ?_
    refine v_bipush (v := 8) E dX7_slideChoice_5 (by decide) ?_
    refine v_icmp_ge (tgt := 110) E dX7_slideChoice_7 (by decide) (fun c18 => ?_) (fun c18 => ?_)
    · rw [if_pos c18] at h
      refine v_drop (lv' := [none, none, none, none, none, none, none, none]) [0, 1, 2, 3, 4] rfl ?_
      replace h := Option.some.inj h
      subst h
      exact hx
    · rw [if_neg c18] at h
      refine v_iload E dX7_slideChoice_10 rfl ?_
      refine v_iconst (v := 2) E dX7_slideChoice_12 (by decide) ?_
      refine v_ishr E dX7_slideChoice_13 ?_
      refine v_iconst (v := 1) E dX7_slideChoice_14 (by decide) ?_
      refine v_iand E dX7_slideChoice_15 ?_
      refine v_istore (lv' := [some (vR (some o1)), some (vI a1), some (vI a2), some (vI a3), some (vI s1), some (vI (((s1 : Int32) >>> ((2 : Int32) &&& 31)) &&& 1)), none, none]) E dX7_slideChoice_16 (by decide) rfl ?_
      refine v_iload E dX7_slideChoice_18 rfl ?_
      refine v_iconst (v := 1) E dX7_slideChoice_20 (by decide) ?_
      refine v_ishr E dX7_slideChoice_21 ?_
      refine v_iconst (v := 1) E dX7_slideChoice_22 (by decide) ?_
      refine v_iand E dX7_slideChoice_23 ?_
      refine v_istore (lv' := [some (vR (some o1)), some (vI a1), some (vI a2), some (vI a3), some (vI s1), some (vI (((s1 : Int32) >>> ((2 : Int32) &&& 31)) &&& 1)), some (vI (((s1 : Int32) >>> ((1 : Int32) &&& 31)) &&& 1)), none]) E dX7_slideChoice_24 (by decide) rfl ?_
      refine v_iload E dX7_slideChoice_26 rfl ?_
      refine v_iconst (v := 1) E dX7_slideChoice_28 (by decide) ?_
      refine v_iand E dX7_slideChoice_29 ?_
      refine v_istore (lv' := [some (vR (some o1)), some (vI a1), some (vI a2), some (vI a3), some (vI s1), some (vI (((s1 : Int32) >>> ((2 : Int32) &&& 31)) &&& 1)), some (vI (((s1 : Int32) >>> ((1 : Int32) &&& 31)) &&& 1)), some (vI (s1 &&& 1))]) E dX7_slideChoice_30 (by decide) rfl ?_
      refine v_aload_n E dX7_slideChoice_32 rfl ?_
      refine v_aload_n E dX7_slideChoice_33 rfl ?_
      refine v_iload_n E dX7_slideChoice_34 rfl ?_
      refine v_iload E dX7_slideChoice_35 rfl ?_
      replace h := bnd_e h
      obtain ⟨r4, er4, h⟩ := h
      refine v_callV (na := 2) (As := [vI a1, vI (((s1 : Int32) >>> ((2 : Int32) &&& 31)) &&& 1)]) (rest := [vR (some o1)]) (ci := 7) (q := (RX7, TX7, 14)) E gw7_164 (by decide +kernel) rfl rfl (by decide) (kX7_placeOf l er4).2 (kX7_placeOf l er4).1 rfl rfl dX7_slideChoice_37 ⟨Nat.le_of_ble_eq_true rfl, Nat.le_of_ble_eq_true rfl⟩ ⟨(Nat.le_of_ble_eq_true rfl), (Nat.le_of_ble_eq_true rfl)⟩ (Nat.le_of_ble_eq_true rfl) ?_
      refine v_aload_n E dX7_slideChoice_40 rfl ?_
      refine v_iload_n E dX7_slideChoice_41 rfl ?_
      refine v_iload E dX7_slideChoice_42 rfl ?_
      replace h := bnd_e h
      obtain ⟨r5, er5, h⟩ := h
      refine v_callV (na := 2) (As := [vI a2, vI (((s1 : Int32) >>> ((1 : Int32) &&& 31)) &&& 1)]) (rest := [vI r4, vR (some o1)]) (ci := 7) (q := (RX7, TX7, 14)) E gw7_164 (by decide +kernel) rfl rfl (by decide) (kX7_placeOf l er5).2 (kX7_placeOf l er5).1 rfl rfl dX7_slideChoice_44 ⟨Nat.le_of_ble_eq_true rfl, Nat.le_of_ble_eq_true rfl⟩ ⟨(Nat.le_of_ble_eq_true rfl), (Nat.le_of_ble_eq_true rfl)⟩ (Nat.le_of_ble_eq_true rfl) ?_
      replace h := bnd_e h
      obtain ⟨r6, er6, h⟩ := h
      refine v_callV (na := 2) (As := [vI r4, vI r5]) (rest := []) (ci := 7) (q := (RX7, TX7, 14)) E gw7_167 (by decide +kernel) rfl rfl (by decide) (kX7_areBeside l er6).2 (kX7_areBeside l er6).1 rfl rfl dX7_slideChoice_47 ⟨Nat.le_of_ble_eq_true rfl, Nat.le_of_ble_eq_true rfl⟩ ⟨(Nat.le_of_ble_eq_true rfl), (Nat.le_of_ble_eq_true rfl)⟩ (Nat.le_of_ble_eq_true rfl) ?_
      refine jp_use h (fun K7 eK7 h => ?_)
      have hK7 : ∀ x17 : Unit, K7 x17 = some w3 → V p l e { frames := 2, cells := 0, slots := 0, locals := 43 } s m ar below meth c (MQ below (Qd base D cy (some (vI r)) A0) ar s 0 0 (fun q => base ≤ q)) base D cy 8 104 [some (vR (some o1)), some (vI a1), some (vI a2), some (vI a3), some (vI s1), none, none, none] [] A0 0 0 := by
        intro x17 h
        rw [eK7] at h
        try dsimp only at h
        refine v_iinc (v := (s1 + 1)) (lv' := [some (vR (some o1)), some (vI a1), some (vI a2), some (vI a3), some (vI (s1 + 1)), none, none, none]) E dX7_slideChoice_104 rfl (by rfl) (by decide) rfl ?_
        refine v_goto (tgt := 3) E dX7_slideChoice_107 (by decide) ?_
        replace h := Option.some.inj h
        subst h
        exact hx
      refine v_if_eq (tgt := 104) E dX7_slideChoice_50 (by decide) (fun c16 => ?_) (fun c16 => ?_)
      · rw [if_pos c16] at h
        refine v_drop (lv' := [some (vR (some o1)), some (vI a1), some (vI a2), some (vI a3), some (vI s1), none, none, none]) [5, 6, 7] rfl ?_
        exact hK7 () h
      · rw [if_neg c16] at h
        refine v_aload_n E dX7_slideChoice_53 rfl ?_
        refine v_aload_n E dX7_slideChoice_54 rfl ?_
        refine v_iload_n E dX7_slideChoice_55 rfl ?_
        refine v_iconst (v := 1) E dX7_slideChoice_56 (by decide) ?_
        refine v_iload E dX7_slideChoice_57 rfl ?_
        refine v_isub E dX7_slideChoice_59 ?_
        replace h := bnd_e h
        obtain ⟨r8, er8, h⟩ := h
        refine v_callV (na := 2) (As := [vI a2, vI (1 - (((s1 : Int32) >>> ((1 : Int32) &&& 31)) &&& 1))]) (rest := [vR (some o1)]) (ci := 7) (q := (RX7, TX7, 14)) E gw7_164 (by decide +kernel) rfl rfl (by decide) (kX7_placeOf l er8).2 (kX7_placeOf l er8).1 rfl rfl dX7_slideChoice_60 ⟨Nat.le_of_ble_eq_true rfl, Nat.le_of_ble_eq_true rfl⟩ ⟨(Nat.le_of_ble_eq_true rfl), (Nat.le_of_ble_eq_true rfl)⟩ (Nat.le_of_ble_eq_true rfl) ?_
        refine v_aload_n E dX7_slideChoice_63 rfl ?_
        refine v_iload_n E dX7_slideChoice_64 rfl ?_
        refine v_iload E dX7_slideChoice_65 rfl ?_
        replace h := bnd_e h
        obtain ⟨r9, er9, h⟩ := h
        refine v_callV (na := 2) (As := [vI a3, vI (s1 &&& 1)]) (rest := [vI r8, vR (some o1)]) (ci := 7) (q := (RX7, TX7, 14)) E gw7_164 (by decide +kernel) rfl rfl (by decide) (kX7_placeOf l er9).2 (kX7_placeOf l er9).1 rfl rfl dX7_slideChoice_67 ⟨Nat.le_of_ble_eq_true rfl, Nat.le_of_ble_eq_true rfl⟩ ⟨(Nat.le_of_ble_eq_true rfl), (Nat.le_of_ble_eq_true rfl)⟩ (Nat.le_of_ble_eq_true rfl) ?_
        replace h := bnd_e h
        obtain ⟨r10, er10, h⟩ := h
        refine v_callV (na := 2) (As := [vI r8, vI r9]) (rest := []) (ci := 7) (q := (RX7, TX7, 14)) E gw7_167 (by decide +kernel) rfl rfl (by decide) (kX7_areBeside l er10).2 (kX7_areBeside l er10).1 rfl rfl dX7_slideChoice_70 ⟨Nat.le_of_ble_eq_true rfl, Nat.le_of_ble_eq_true rfl⟩ ⟨(Nat.le_of_ble_eq_true rfl), (Nat.le_of_ble_eq_true rfl)⟩ (Nat.le_of_ble_eq_true rfl) ?_
        refine v_if_eq (tgt := 104) E dX7_slideChoice_73 (by decide) (fun c15 => ?_) (fun c15 => ?_)
        · rw [if_pos c15] at h
          refine v_drop (lv' := [some (vR (some o1)), some (vI a1), some (vI a2), some (vI a3), some (vI s1), none, none, none]) [5, 6, 7] rfl ?_
          exact hK7 () h
        · rw [if_neg c15] at h
          refine v_aload_n E dX7_slideChoice_76 rfl ?_
          refine v_aload_n E dX7_slideChoice_77 rfl ?_
          refine v_iload_n E dX7_slideChoice_78 rfl ?_
          refine v_iconst (v := 1) E dX7_slideChoice_79 (by decide) ?_
          refine v_iload E dX7_slideChoice_80 rfl ?_
          refine v_isub E dX7_slideChoice_82 ?_
          replace h := bnd_e h
          obtain ⟨r11, er11, h⟩ := h
          refine v_callV (na := 2) (As := [vI a3, vI (1 - (s1 &&& 1))]) (rest := [vR (some o1)]) (ci := 7) (q := (RX7, TX7, 14)) E gw7_164 (by decide +kernel) rfl rfl (by decide) (kX7_placeOf l er11).2 (kX7_placeOf l er11).1 rfl rfl dX7_slideChoice_83 ⟨Nat.le_of_ble_eq_true rfl, Nat.le_of_ble_eq_true rfl⟩ ⟨(Nat.le_of_ble_eq_true rfl), (Nat.le_of_ble_eq_true rfl)⟩ (Nat.le_of_ble_eq_true rfl) ?_
          refine v_aload_n E dX7_slideChoice_86 rfl ?_
          refine v_iload_n E dX7_slideChoice_87 rfl ?_
          refine v_iconst (v := 1) E dX7_slideChoice_88 (by decide) ?_
          refine v_iload E dX7_slideChoice_89 rfl ?_
          refine v_isub E dX7_slideChoice_91 ?_
          replace h := bnd_e h
          obtain ⟨r12, er12, h⟩ := h
          refine v_callV (na := 2) (As := [vI a1, vI (1 - (((s1 : Int32) >>> ((2 : Int32) &&& 31)) &&& 1))]) (rest := [vI r11, vR (some o1)]) (ci := 7) (q := (RX7, TX7, 14)) E gw7_164 (by decide +kernel) rfl rfl (by decide) (kX7_placeOf l er12).2 (kX7_placeOf l er12).1 rfl rfl dX7_slideChoice_92 ⟨Nat.le_of_ble_eq_true rfl, Nat.le_of_ble_eq_true rfl⟩ ⟨(Nat.le_of_ble_eq_true rfl), (Nat.le_of_ble_eq_true rfl)⟩ (Nat.le_of_ble_eq_true rfl) ?_
          replace h := bnd_e h
          obtain ⟨r13, er13, h⟩ := h
          refine v_callV (na := 2) (As := [vI r11, vI r12]) (rest := []) (ci := 7) (q := (RX7, TX7, 14)) E gw7_167 (by decide +kernel) rfl rfl (by decide) (kX7_areBeside l er13).2 (kX7_areBeside l er13).1 rfl rfl dX7_slideChoice_95 ⟨Nat.le_of_ble_eq_true rfl, Nat.le_of_ble_eq_true rfl⟩ ⟨(Nat.le_of_ble_eq_true rfl), (Nat.le_of_ble_eq_true rfl)⟩ (Nat.le_of_ble_eq_true rfl) ?_
          refine v_if_eq (tgt := 104) E dX7_slideChoice_98 (by decide) (fun c14 => ?_) (fun c14 => ?_)
          · rw [if_pos c14] at h
            refine v_drop (lv' := [some (vR (some o1)), some (vI a1), some (vI a2), some (vI a3), some (vI s1), none, none, none]) [5, 6, 7] rfl ?_
            exact hK7 () h
          · rw [if_neg c14] at h
            refine v_iload E dX7_slideChoice_101 rfl ?_
            replace h := Option.some.inj h
            subst h
            have hx : _ = r := hx
            subst hx
            refine v_widen (k' := 0) (n' := 0) (Nat.le_of_ble_eq_true rfl) (Nat.le_of_ble_eq_true rfl) ?_
            exact v_iret E dX7_slideChoice_103
  · cases t2 with
    | inl t2 =>
      dsimp only [sm] at h
      refine v_iconst (v := (-1)) E dX7_slideChoice_110 (by decide) ?_
      replace h := Option.some.inj h
      subst h
      refine v_widen (k' := 0) (n' := 0) (Nat.le_of_ble_eq_true rfl) (Nat.le_of_ble_eq_true rfl) ?_
      exact v_iret E dX7_slideChoice_111
    | inr z =>
      exact Option.some.inj h
noncomputable def fX1_putPlaces (A0 : AH) (o0 : Option Nat) (a1 : Option Nat) (a2 : Int32) (a3 : Int32) : Option (AH) :=
  (rcv A0 2 o0).bind fun o0 =>
  (iter (S := Int32 × AH) (T := AH) (fun s1 =>
      if a3 ≤ s1.1 then
        some (.inr s1.2)
      else
        (fX7_letterOn s1.2 a1 s1.1).bind fun r4 =>
        (fX1_put s1.2 ((some o0)) r4).bind fun r5 =>
        some (.inl ((s1.1 + 1), r5))) (a2, A0)).bind fun t2 =>
  some t2
set_option maxRecDepth 100000 in
set_option maxHeartbeats 4000000 in
theorem kX1_putPlaces (l : Launch) {A0 : AH} {o0 : Option Nat} {a1 : Option Nat} {a2 : Int32} {a3 : Int32} {r : AH} (h : fX1_putPlaces A0 o0 a1 a2 a3 = some r) : (∃ a, o0 = some a ∧ Hk A0 a = 2) ∧ Cn l yX1_putPlaces cX1_putPlaces 5 none 2 42 0 0 [vR o0, vR a1, vI a2, vI a3] A0 none r := by
  unfold fX1_putPlaces at h
  replace h := bnd_e h
  obtain ⟨o1, e1, h⟩ := h
  obtain ⟨rfl, hk0⟩ := rcv_e e1
  refine ⟨⟨o1, rfl, hk0⟩, ?_⟩
  refine Cn.of (pad := 1) (lv0 := [some (vR (some o1)), some (vR a1), some (vI a2), some (vI a3), none]) (by decide +kernel) (Nat.le_of_ble_eq_true rfl) rfl ?_
  intro p e s m below meth c base D cy E
  generalize (List.map toV [vR (some o1), vR a1, vI a2, vI a3]).toArray = ar at E ⊢
  have E : EN p s m ar meth c D cy RX1 cX1_putPlaces 5 none "putPlaces" := E
  refine v_iload_n E dX1_putPlaces_0 rfl ?_
  refine v_istore (lv' := [some (vR (some o1)), some (vR a1), some (vI a2), some (vI a3), some (vI a2)]) E dX1_putPlaces_1 (by decide) rfl ?_
  refine v_drop (lv' := [some (vR (some o1)), some (vR a1), none, some (vI a3), some (vI a2)]) [2] rfl ?_
  replace h := bnd_e h
  obtain ⟨t2, et2, h⟩ := h
  refine iter_V (S := Int32 × AH) (T := AH) (Ph := fun s1 => V p l e { frames := 2, cells := 0, slots := 0, locals := 42 } s m ar below meth c (MQ below (Qd base D cy none r) ar s 0 0 (fun q => base ≤ q)) base D cy 5 3 [some (vR (some o1)), some (vR a1), none, some (vI a3), some (vI s1.1)] [] s1.2 0 0) (Pt := fun t2 => V p l e { frames := 2, cells := 0, slots := 0, locals := 42 } s m ar below meth c (MQ below (Qd base D cy none r) ar s 0 0 (fun q => base ≤ q)) base D cy 5 25 [none, none, none, none, none] [] t2 0 0) et2 (fun s1 w3 h hx => ?_) ?_
  · try dsimp only at h
    refine v_iload E dX1_putPlaces_3 rfl ?_
    refine v_iload_n E dX1_putPlaces_5 rfl ?_
    refine v_icmp_ge (tgt := 25) E dX1_putPlaces_6 (by decide) (fun c6 => ?_) (fun c6 => ?_)
    · rw [if_pos c6] at h
      refine v_drop (lv' := [none, none, none, none, none]) [0, 1, 3, 4] rfl ?_
      replace h := Option.some.inj h
      subst h
      exact hx
    · rw [if_neg c6] at h
      refine v_aload_n E dX1_putPlaces_9 rfl ?_
      refine v_aload_n E dX1_putPlaces_10 rfl ?_
      refine v_iload E dX1_putPlaces_11 rfl ?_
      replace h := bnd_e h
      obtain ⟨r4, er4, h⟩ := h
      refine v_callV (na := 1) (As := [vI s1.1]) (rest := [vR (some o1)]) (ci := 7) (q := (RX7, TX7, 14)) E gw1_37 (by decide +kernel) rfl rfl (by decide) (kX7_letterOn l er4).2 (kX7_letterOn l er4).1 rfl rfl dX1_putPlaces_13 ⟨Nat.le_of_ble_eq_true rfl, Nat.le_of_ble_eq_true rfl⟩ ⟨(Nat.le_of_ble_eq_true rfl), (Nat.le_of_ble_eq_true rfl)⟩ (Nat.le_of_ble_eq_true rfl) ?_
      replace h := bnd_e h
      obtain ⟨r5, er5, h⟩ := h
      refine v_callV (na := 1) (As := [vI r4]) (rest := []) (ci := 1) (q := (RX1, TX1, 2)) E gw1_41 (by decide +kernel) rfl rfl (by decide) (kX1_put l er5).2 (kX1_put l er5).1 rfl rfl dX1_putPlaces_16 ⟨Nat.le_of_ble_eq_true rfl, Nat.le_of_ble_eq_true rfl⟩ ⟨(Nat.le_of_ble_eq_true rfl), (Nat.le_of_ble_eq_true rfl)⟩ (Nat.le_of_ble_eq_true rfl) ?_
      refine v_iinc (v := (s1.1 + 1)) (lv' := [some (vR (some o1)), some (vR a1), none, some (vI a3), some (vI (s1.1 + 1))]) E dX1_putPlaces_19 rfl (by rfl) (by decide) rfl ?_
      refine v_goto (tgt := 3) E dX1_putPlaces_22 (by decide) ?_
      replace h := Option.some.inj h
      subst h
      exact hx
  · replace h := Option.some.inj h
    subst h
    refine v_widen (k' := 0) (n' := 0) (Nat.le_of_ble_eq_true rfl) (Nat.le_of_ble_eq_true rfl) ?_
    exact v_vret E dX1_putPlaces_25
noncomputable def fX1_swap (A0 : AH) (o0 : Option Nat) (a1 : Int32) (a2 : Int32) : Option (AH) :=
  (rcv A0 2 o0).bind fun o0 =>
  if a1 < 0 then
    some A0
  else
    (gI A0 2 33 ((some o0))).bind fun v1 =>
    if v1 ≤ a1 then
      some A0
    else
      if a2 < 0 then
        some A0
      else
        (gI A0 2 33 ((some o0))).bind fun v2 =>
        if v2 ≤ a2 then
          some A0
        else
          (gR A0 2 32 ((some o0))).bind fun v3 =>
          (aI A0 14 v3 a1).bind fun v4 =>
          (gR A0 2 32 ((some o0))).bind fun v5 =>
          (gR A0 2 32 ((some o0))).bind fun v6 =>
          (aI A0 14 v6 a2).bind fun v7 =>
          (sI A0 14 v5 a1 v7).bind fun A8 =>
          (gR A8 2 32 ((some o0))).bind fun v9 =>
          (sI A8 14 v9 a2 v4).bind fun A10 =>
          some A10
set_option maxRecDepth 100000 in
set_option maxHeartbeats 4000000 in
theorem kX1_swap (l : Launch) {A0 : AH} {o0 : Option Nat} {a1 : Int32} {a2 : Int32} {r : AH} (h : fX1_swap A0 o0 a1 a2 = some r) : (∃ a, o0 = some a ∧ Hk A0 a = 2) ∧ Cn l yX1_swap cX1_swap 4 none 0 0 0 0 [vR o0, vI a1, vI a2] A0 none r := by
  unfold fX1_swap at h
  replace h := bnd_e h
  obtain ⟨o1, e1, h⟩ := h
  obtain ⟨rfl, hk0⟩ := rcv_e e1
  refine ⟨⟨o1, rfl, hk0⟩, ?_⟩
  refine Cn.of (pad := 1) (lv0 := [some (vR (some o1)), some (vI a1), some (vI a2), none]) (by decide +kernel) (Nat.le_of_ble_eq_true rfl) rfl ?_
  intro p e s m below meth c base D cy E
  generalize (List.map toV [vR (some o1), vI a1, vI a2]).toArray = ar at E ⊢
  have E : EN p s m ar meth c D cy RX1 cX1_swap 4 none "swap" := E
  refine v_iload_n E dX1_swap_0 rfl ?_
  refine v_if_lt (tgt := 50) E dX1_swap_1 (by decide) (fun c14 => ?_) (fun c14 => ?_)
  · rw [if_pos c14] at h
    replace h := Option.some.inj h
    subst h
    refine v_widen (k' := 0) (n' := 0) (Nat.le_of_ble_eq_true rfl) (Nat.le_of_ble_eq_true rfl) ?_
    exact v_vret E dX1_swap_50
  · rw [if_neg c14] at h
    refine v_iload_n E dX1_swap_4 rfl ?_
    refine v_aload_n E dX1_swap_5 rfl ?_
    replace h := bnd_e h
    obtain ⟨v1, ev1, h⟩ := h
    refine g1_15 E ev1 dX1_swap_6 ?_
    refine v_icmp_ge (tgt := 50) E dX1_swap_9 (by decide) (fun c13 => ?_) (fun c13 => ?_)
    · rw [if_pos c13] at h
      replace h := Option.some.inj h
      subst h
      refine v_widen (k' := 0) (n' := 0) (Nat.le_of_ble_eq_true rfl) (Nat.le_of_ble_eq_true rfl) ?_
      exact v_vret E dX1_swap_50
    · rw [if_neg c13] at h
      refine v_iload_n E dX1_swap_12 rfl ?_
      refine v_if_lt (tgt := 50) E dX1_swap_13 (by decide) (fun c12 => ?_) (fun c12 => ?_)
      · rw [if_pos c12] at h
        replace h := Option.some.inj h
        subst h
        refine v_widen (k' := 0) (n' := 0) (Nat.le_of_ble_eq_true rfl) (Nat.le_of_ble_eq_true rfl) ?_
        exact v_vret E dX1_swap_50
      · rw [if_neg c12] at h
        refine v_iload_n E dX1_swap_16 rfl ?_
        refine v_aload_n E dX1_swap_17 rfl ?_
        replace h := bnd_e h
        obtain ⟨v2, ev2, h⟩ := h
        refine g1_15 E ev2 dX1_swap_18 ?_
        refine v_icmp_ge (tgt := 50) E dX1_swap_21 (by decide) (fun c11 => ?_) (fun c11 => ?_)
        · rw [if_pos c11] at h
          replace h := Option.some.inj h
          subst h
          refine v_widen (k' := 0) (n' := 0) (Nat.le_of_ble_eq_true rfl) (Nat.le_of_ble_eq_true rfl) ?_
          exact v_vret E dX1_swap_50
        · rw [if_neg c11] at h
          refine v_aload_n E dX1_swap_24 rfl ?_
          replace h := bnd_e h
          obtain ⟨v3, ev3, h⟩ := h
          refine g1_9 E ev3 dX1_swap_25 ?_
          refine v_iload_n E dX1_swap_28 rfl ?_
          replace h := bnd_e h
          obtain ⟨v4, ev4, h⟩ := h
          refine v_iaload E ev4 dX1_swap_29 ?_
          refine v_istore_n (lv' := [some (vR (some o1)), some (vI a1), some (vI a2), some (vI v4)]) E dX1_swap_30 (by decide) rfl ?_
          refine v_aload_n E dX1_swap_31 rfl ?_
          replace h := bnd_e h
          obtain ⟨v5, ev5, h⟩ := h
          refine g1_9 E ev5 dX1_swap_32 ?_
          refine v_iload_n E dX1_swap_35 rfl ?_
          refine v_aload_n E dX1_swap_36 rfl ?_
          replace h := bnd_e h
          obtain ⟨v6, ev6, h⟩ := h
          refine g1_9 E ev6 dX1_swap_37 ?_
          refine v_iload_n E dX1_swap_40 rfl ?_
          replace h := bnd_e h
          obtain ⟨v7, ev7, h⟩ := h
          refine v_iaload E ev7 dX1_swap_41 ?_
          replace h := bnd_e h
          obtain ⟨A8, eA8, h⟩ := h
          refine v_iastore E eA8 dX1_swap_42 ?_
          refine v_aload_n E dX1_swap_43 rfl ?_
          replace h := bnd_e h
          obtain ⟨v9, ev9, h⟩ := h
          refine g1_9 E ev9 dX1_swap_44 ?_
          refine v_iload_n E dX1_swap_47 rfl ?_
          refine v_iload_n E dX1_swap_48 rfl ?_
          replace h := bnd_e h
          obtain ⟨A10, eA10, h⟩ := h
          refine v_iastore E eA10 dX1_swap_49 ?_
          replace h := Option.some.inj h
          subst h
          refine v_widen (k' := 0) (n' := 0) (Nat.le_of_ble_eq_true rfl) (Nat.le_of_ble_eq_true rfl) ?_
          exact v_vret E dX1_swap_50
noncomputable def fX1_writeSlid (A0 : AH) (o0 : Option Nat) (a1 : Option Nat) (a2 : Int32) (a3 : Int32) (a4 : Int32) (a5 : Int32) : Option (AH) :=
  (rcv A0 2 o0).bind fun o0 =>
  (fX1_clear A0 ((some o0))).bind fun r1 =>
  (fX7_placeCount r1 a1).bind fun r2 =>
  (fX1_putPlaces r1 ((some o0)) a1 0 r2).bind fun r3 =>
  (fX7_placeOf r3 a1 a2 ((((a5 : Int32) >>> ((2 : Int32) &&& 31)) &&& 1))).bind fun r4 =>
  (fX7_placeOf r3 a1 a3 ((((a5 : Int32) >>> ((1 : Int32) &&& 31)) &&& 1))).bind fun r5 =>
  (fX1_swap r3 ((some o0)) r4 r5).bind fun r6 =>
  (fX7_placeOf r6 a1 a3 ((1 - (((a5 : Int32) >>> ((1 : Int32) &&& 31)) &&& 1)))).bind fun r7 =>
  (fX7_placeOf r6 a1 a4 ((a5 &&& 1))).bind fun r8 =>
  (fX1_swap r6 ((some o0)) r7 r8).bind fun r9 =>
  (fX7_placeOf r9 a1 a4 ((1 - (a5 &&& 1)))).bind fun r10 =>
  (fX7_placeOf r9 a1 a2 ((1 - (((a5 : Int32) >>> ((2 : Int32) &&& 31)) &&& 1)))).bind fun r11 =>
  (fX1_swap r9 ((some o0)) r10 r11).bind fun r12 =>
  some r12
set_option maxRecDepth 100000 in
set_option maxHeartbeats 4000000 in
theorem kX1_writeSlid (l : Launch) {A0 : AH} {o0 : Option Nat} {a1 : Option Nat} {a2 : Int32} {a3 : Int32} {a4 : Int32} {a5 : Int32} {r : AH} (h : fX1_writeSlid A0 o0 a1 a2 a3 a4 a5 = some r) : (∃ a, o0 = some a ∧ Hk A0 a = 2) ∧ Cn l yX1_writeSlid cX1_writeSlid 9 none 3 66 0 0 [vR o0, vR a1, vI a2, vI a3, vI a4, vI a5] A0 none r := by
  unfold fX1_writeSlid at h
  replace h := bnd_e h
  obtain ⟨o1, e1, h⟩ := h
  obtain ⟨rfl, hk0⟩ := rcv_e e1
  refine ⟨⟨o1, rfl, hk0⟩, ?_⟩
  refine Cn.of (pad := 3) (lv0 := [some (vR (some o1)), some (vR a1), some (vI a2), some (vI a3), some (vI a4), some (vI a5), none, none, none]) (by decide +kernel) (Nat.le_of_ble_eq_true rfl) rfl ?_
  intro p e s m below meth c base D cy E
  generalize (List.map toV [vR (some o1), vR a1, vI a2, vI a3, vI a4, vI a5]).toArray = ar at E ⊢
  have E : EN p s m ar meth c D cy RX1 cX1_writeSlid 9 none "writeSlid" := E
  refine v_aload_n E dX1_writeSlid_0 rfl ?_
  replace h := bnd_e h
  obtain ⟨r1, er1, h⟩ := h
  refine v_callV (na := 0) (As := []) (rest := []) (ci := 1) (q := (RX1, TX1, 2)) E gw1_28 (by decide +kernel) rfl rfl (by decide) (kX1_clear l er1).2 (kX1_clear l er1).1 rfl rfl dX1_writeSlid_1 ⟨Nat.le_of_ble_eq_true rfl, Nat.le_of_ble_eq_true rfl⟩ ⟨(Nat.le_of_ble_eq_true rfl), (Nat.le_of_ble_eq_true rfl)⟩ (Nat.le_of_ble_eq_true rfl) ?_
  refine v_aload_n E dX1_writeSlid_4 rfl ?_
  refine v_aload_n E dX1_writeSlid_5 rfl ?_
  refine v_iconst (v := 0) E dX1_writeSlid_6 (by decide) ?_
  refine v_aload_n E dX1_writeSlid_7 rfl ?_
  replace h := bnd_e h
  obtain ⟨r2, er2, h⟩ := h
  refine v_callV (na := 0) (As := []) (rest := [vI 0, vR a1, vR (some o1)]) (ci := 7) (q := (RX7, TX7, 14)) E gw1_31 (by decide +kernel) rfl rfl (by decide) (kX7_placeCount l er2).2 (kX7_placeCount l er2).1 rfl rfl dX1_writeSlid_8 ⟨Nat.le_of_ble_eq_true rfl, Nat.le_of_ble_eq_true rfl⟩ ⟨(Nat.le_of_ble_eq_true rfl), (Nat.le_of_ble_eq_true rfl)⟩ (Nat.le_of_ble_eq_true rfl) ?_
  replace h := bnd_e h
  obtain ⟨r3, er3, h⟩ := h
  refine v_callV (na := 3) (As := [vR a1, vI 0, vI r2]) (rest := []) (ci := 1) (q := (RX1, TX1, 2)) E gw1_62 (by decide +kernel) rfl rfl (by decide) (kX1_putPlaces l er3).2 (kX1_putPlaces l er3).1 rfl rfl dX1_writeSlid_11 ⟨Nat.le_of_ble_eq_true rfl, Nat.le_of_ble_eq_true rfl⟩ ⟨(Nat.le_of_ble_eq_true rfl), (Nat.le_of_ble_eq_true rfl)⟩ (Nat.le_of_ble_eq_true rfl) ?_
  refine v_iload E dX1_writeSlid_14 rfl ?_
  refine v_iconst (v := 2) E dX1_writeSlid_16 (by decide) ?_
  refine v_ishr E dX1_writeSlid_17 ?_
  refine v_iconst (v := 1) E dX1_writeSlid_18 (by decide) ?_
  refine v_iand E dX1_writeSlid_19 ?_
  refine v_istore (lv' := [some (vR (some o1)), some (vR a1), some (vI a2), some (vI a3), some (vI a4), some (vI a5), some (vI (((a5 : Int32) >>> ((2 : Int32) &&& 31)) &&& 1)), none, none]) E dX1_writeSlid_20 (by decide) rfl ?_
  refine v_iload E dX1_writeSlid_22 rfl ?_
  refine v_iconst (v := 1) E dX1_writeSlid_24 (by decide) ?_
  refine v_ishr E dX1_writeSlid_25 ?_
  refine v_iconst (v := 1) E dX1_writeSlid_26 (by decide) ?_
  refine v_iand E dX1_writeSlid_27 ?_
  refine v_istore (lv' := [some (vR (some o1)), some (vR a1), some (vI a2), some (vI a3), some (vI a4), some (vI a5), some (vI (((a5 : Int32) >>> ((2 : Int32) &&& 31)) &&& 1)), some (vI (((a5 : Int32) >>> ((1 : Int32) &&& 31)) &&& 1)), none]) E dX1_writeSlid_28 (by decide) rfl ?_
  refine v_iload E dX1_writeSlid_30 rfl ?_
  refine v_iconst (v := 1) E dX1_writeSlid_32 (by decide) ?_
  refine v_iand E dX1_writeSlid_33 ?_
  refine v_istore (lv' := [some (vR (some o1)), some (vR a1), some (vI a2), some (vI a3), some (vI a4), some (vI a5), some (vI (((a5 : Int32) >>> ((2 : Int32) &&& 31)) &&& 1)), some (vI (((a5 : Int32) >>> ((1 : Int32) &&& 31)) &&& 1)), some (vI (a5 &&& 1))]) E dX1_writeSlid_34 (by decide) rfl ?_
  refine v_aload_n E dX1_writeSlid_36 rfl ?_
  refine v_aload_n E dX1_writeSlid_37 rfl ?_
  refine v_iload_n E dX1_writeSlid_38 rfl ?_
  refine v_iload E dX1_writeSlid_39 rfl ?_
  replace h := bnd_e h
  obtain ⟨r4, er4, h⟩ := h
  refine v_callV (na := 2) (As := [vI a2, vI (((a5 : Int32) >>> ((2 : Int32) &&& 31)) &&& 1)]) (rest := [vR (some o1)]) (ci := 7) (q := (RX7, TX7, 14)) E gw1_66 (by decide +kernel) rfl rfl (by decide) (kX7_placeOf l er4).2 (kX7_placeOf l er4).1 rfl rfl dX1_writeSlid_41 ⟨Nat.le_of_ble_eq_true rfl, Nat.le_of_ble_eq_true rfl⟩ ⟨(Nat.le_of_ble_eq_true rfl), (Nat.le_of_ble_eq_true rfl)⟩ (Nat.le_of_ble_eq_true rfl) ?_
  refine v_aload_n E dX1_writeSlid_44 rfl ?_
  refine v_iload_n E dX1_writeSlid_45 rfl ?_
  refine v_iload E dX1_writeSlid_46 rfl ?_
  replace h := bnd_e h
  obtain ⟨r5, er5, h⟩ := h
  refine v_callV (na := 2) (As := [vI a3, vI (((a5 : Int32) >>> ((1 : Int32) &&& 31)) &&& 1)]) (rest := [vI r4, vR (some o1)]) (ci := 7) (q := (RX7, TX7, 14)) E gw1_66 (by decide +kernel) rfl rfl (by decide) (kX7_placeOf l er5).2 (kX7_placeOf l er5).1 rfl rfl dX1_writeSlid_48 ⟨Nat.le_of_ble_eq_true rfl, Nat.le_of_ble_eq_true rfl⟩ ⟨(Nat.le_of_ble_eq_true rfl), (Nat.le_of_ble_eq_true rfl)⟩ (Nat.le_of_ble_eq_true rfl) ?_
  replace h := bnd_e h
  obtain ⟨r6, er6, h⟩ := h
  refine v_callV (na := 2) (As := [vI r4, vI r5]) (rest := []) (ci := 1) (q := (RX1, TX1, 2)) E gw1_69 (by decide +kernel) rfl rfl (by decide) (kX1_swap l er6).2 (kX1_swap l er6).1 rfl rfl dX1_writeSlid_51 ⟨Nat.le_of_ble_eq_true rfl, Nat.le_of_ble_eq_true rfl⟩ ⟨(Nat.le_of_ble_eq_true rfl), (Nat.le_of_ble_eq_true rfl)⟩ (Nat.le_of_ble_eq_true rfl) ?_
  refine v_aload_n E dX1_writeSlid_54 rfl ?_
  refine v_aload_n E dX1_writeSlid_55 rfl ?_
  refine v_iload_n E dX1_writeSlid_56 rfl ?_
  refine v_iconst (v := 1) E dX1_writeSlid_57 (by decide) ?_
  refine v_iload E dX1_writeSlid_58 rfl ?_
  refine v_isub E dX1_writeSlid_60 ?_
  replace h := bnd_e h
  obtain ⟨r7, er7, h⟩ := h
  refine v_callV (na := 2) (As := [vI a3, vI (1 - (((a5 : Int32) >>> ((1 : Int32) &&& 31)) &&& 1))]) (rest := [vR (some o1)]) (ci := 7) (q := (RX7, TX7, 14)) E gw1_66 (by decide +kernel) rfl rfl (by decide) (kX7_placeOf l er7).2 (kX7_placeOf l er7).1 rfl rfl dX1_writeSlid_61 ⟨Nat.le_of_ble_eq_true rfl, Nat.le_of_ble_eq_true rfl⟩ ⟨(Nat.le_of_ble_eq_true rfl), (Nat.le_of_ble_eq_true rfl)⟩ (Nat.le_of_ble_eq_true rfl) ?_
  refine v_aload_n E dX1_writeSlid_64 rfl ?_
  refine v_iload E dX1_writeSlid_65 rfl ?_
  refine v_iload E dX1_writeSlid_67 rfl ?_
  replace h := bnd_e h
  obtain ⟨r8, er8, h⟩ := h
  refine v_callV (na := 2) (As := [vI a4, vI (a5 &&& 1)]) (rest := [vI r7, vR (some o1)]) (ci := 7) (q := (RX7, TX7, 14)) E gw1_66 (by decide +kernel) rfl rfl (by decide) (kX7_placeOf l er8).2 (kX7_placeOf l er8).1 rfl rfl dX1_writeSlid_69 ⟨Nat.le_of_ble_eq_true rfl, Nat.le_of_ble_eq_true rfl⟩ ⟨(Nat.le_of_ble_eq_true rfl), (Nat.le_of_ble_eq_true rfl)⟩ (Nat.le_of_ble_eq_true rfl) ?_
  replace h := bnd_e h
  obtain ⟨r9, er9, h⟩ := h
  refine v_callV (na := 2) (As := [vI r7, vI r8]) (rest := []) (ci := 1) (q := (RX1, TX1, 2)) E gw1_69 (by decide +kernel) rfl rfl (by decide) (kX1_swap l er9).2 (kX1_swap l er9).1 rfl rfl dX1_writeSlid_72 ⟨Nat.le_of_ble_eq_true rfl, Nat.le_of_ble_eq_true rfl⟩ ⟨(Nat.le_of_ble_eq_true rfl), (Nat.le_of_ble_eq_true rfl)⟩ (Nat.le_of_ble_eq_true rfl) ?_
  refine v_aload_n E dX1_writeSlid_75 rfl ?_
  refine v_aload_n E dX1_writeSlid_76 rfl ?_
  refine v_iload E dX1_writeSlid_77 rfl ?_
  refine v_iconst (v := 1) E dX1_writeSlid_79 (by decide) ?_
  refine v_iload E dX1_writeSlid_80 rfl ?_
  refine v_isub E dX1_writeSlid_82 ?_
  replace h := bnd_e h
  obtain ⟨r10, er10, h⟩ := h
  refine v_callV (na := 2) (As := [vI a4, vI (1 - (a5 &&& 1))]) (rest := [vR (some o1)]) (ci := 7) (q := (RX7, TX7, 14)) E gw1_66 (by decide +kernel) rfl rfl (by decide) (kX7_placeOf l er10).2 (kX7_placeOf l er10).1 rfl rfl dX1_writeSlid_83 ⟨Nat.le_of_ble_eq_true rfl, Nat.le_of_ble_eq_true rfl⟩ ⟨(Nat.le_of_ble_eq_true rfl), (Nat.le_of_ble_eq_true rfl)⟩ (Nat.le_of_ble_eq_true rfl) ?_
  refine v_aload_n E dX1_writeSlid_86 rfl ?_
  refine v_iload_n E dX1_writeSlid_87 rfl ?_
  refine v_iconst (v := 1) E dX1_writeSlid_88 (by decide) ?_
  refine v_iload E dX1_writeSlid_89 rfl ?_
  refine v_isub E dX1_writeSlid_91 ?_
  replace h := bnd_e h
  obtain ⟨r11, er11, h⟩ := h
  refine v_callV (na := 2) (As := [vI a2, vI (1 - (((a5 : Int32) >>> ((2 : Int32) &&& 31)) &&& 1))]) (rest := [vI r10, vR (some o1)]) (ci := 7) (q := (RX7, TX7, 14)) E gw1_66 (by decide +kernel) rfl rfl (by decide) (kX7_placeOf l er11).2 (kX7_placeOf l er11).1 rfl rfl dX1_writeSlid_92 ⟨Nat.le_of_ble_eq_true rfl, Nat.le_of_ble_eq_true rfl⟩ ⟨(Nat.le_of_ble_eq_true rfl), (Nat.le_of_ble_eq_true rfl)⟩ (Nat.le_of_ble_eq_true rfl) ?_
  replace h := bnd_e h
  obtain ⟨r12, er12, h⟩ := h
  refine v_callV (na := 2) (As := [vI r10, vI r11]) (rest := []) (ci := 1) (q := (RX1, TX1, 2)) E gw1_69 (by decide +kernel) rfl rfl (by decide) (kX1_swap l er12).2 (kX1_swap l er12).1 rfl rfl dX1_writeSlid_95 ⟨Nat.le_of_ble_eq_true rfl, Nat.le_of_ble_eq_true rfl⟩ ⟨(Nat.le_of_ble_eq_true rfl), (Nat.le_of_ble_eq_true rfl)⟩ (Nat.le_of_ble_eq_true rfl) ?_
  replace h := Option.some.inj h
  subst h
  refine v_widen (k' := 0) (n' := 0) (Nat.le_of_ble_eq_true rfl) (Nat.le_of_ble_eq_true rfl) ?_
  exact v_vret E dX1_writeSlid_98
noncomputable def fX11_slide (A0 : AH) (o0 : Option Nat) (a1 : Int32) (a2 : Int32) (a3 : Int32) (a4 : Int32) : Option (Int32 × AH) :=
  (rcv A0 12 o0).bind fun o0 =>
  (gR A0 12 352 ((some o0))).bind fun v1 =>
  (fX8_get A0 v1 a1).bind fun r2 =>
  if r2 = none then
    some (((-1000000001), A0))
  else
    (fX10_row A0 r2).bind fun r3 =>
    (fX7_hasThree A0 r3 a2 a3 a4).bind fun r4 =>
    if r4 = 0 then
      some (((-1000000001), A0))
    else
      (fX10_row A0 r2).bind fun r5 =>
      (fX7_slideChoice A0 r5 a2 a3 a4).bind fun r6 =>
      if r6 = (-1) then
        some (((-1000000003), A0))
      else
        (gR A0 12 358 ((some o0))).bind fun v7 =>
        (fX10_row A0 r2).bind fun r8 =>
        (fX1_writeSlid A0 v7 r8 a2 a3 a4 r6).bind fun r9 =>
        (fX11_becomesDraft r9 ((some o0)) a1).bind fun r10 =>
        some ((r6, r10.2))
set_option maxRecDepth 100000 in
set_option maxHeartbeats 4000000 in
theorem kX11_slide (l : Launch) {A0 : AH} {o0 : Option Nat} {a1 : Int32} {a2 : Int32} {a3 : Int32} {a4 : Int32} {r : Int32 × AH} (h : fX11_slide A0 o0 a1 a2 a3 a4 = some r) : (∃ a, o0 = some a ∧ Hk A0 a = 12) ∧ Cn l yX11_slide cX11_slide 7 (some .int) 5 108 9 75 [vR o0, vI a1, vI a2, vI a3, vI a4] A0 (some (vI r.1)) r.2 := by
  unfold fX11_slide at h
  replace h := bnd_e h
  obtain ⟨o1, e1, h⟩ := h
  obtain ⟨rfl, hk0⟩ := rcv_e e1
  refine ⟨⟨o1, rfl, hk0⟩, ?_⟩
  refine Cn.of (pad := 2) (lv0 := [some (vR (some o1)), some (vI a1), some (vI a2), some (vI a3), some (vI a4), none, none]) (by decide +kernel) (Nat.le_of_ble_eq_true rfl) rfl ?_
  intro p e s m below meth c base D cy E
  generalize (List.map toV [vR (some o1), vI a1, vI a2, vI a3, vI a4]).toArray = ar at E ⊢
  have E : EN p s m ar meth c D cy RX11 cX11_slide 7 (some .int) "slide" := E
  refine v_aload_n E dX11_slide_0 rfl ?_
  replace h := bnd_e h
  obtain ⟨v1, ev1, h⟩ := h
  refine g11_10 E ev1 dX11_slide_1 ?_
  refine v_iload_n E dX11_slide_4 rfl ?_
  replace h := bnd_e h
  obtain ⟨r2, er2, h⟩ := h
  refine v_callV (na := 1) (As := [vI a1]) (rest := []) (ci := 8) (q := (RX8, TX8, 2)) E gw11_110 (by decide +kernel) rfl rfl (by decide) (kX8_get l er2).2 (kX8_get l er2).1 rfl rfl dX11_slide_5 ⟨Nat.le_of_ble_eq_true rfl, Nat.le_of_ble_eq_true rfl⟩ ⟨(Nat.le_of_ble_eq_true rfl), (Nat.le_of_ble_eq_true rfl)⟩ (Nat.le_of_ble_eq_true rfl) ?_
  refine v_astore (lv' := [some (vR (some o1)), some (vI a1), some (vI a2), some (vI a3), some (vI a4), some (vR r2), none]) E dX11_slide_8 (by decide) rfl ?_
  refine v_aload E dX11_slide_10 rfl ?_
  refine v_ifnull (tgt := 30) E dX11_slide_12 (by decide) (fun c13 => ?_) (fun c13 => ?_)
  · rw [if_pos c13] at h
    refine v_ldc (v := (-1000000001)) E dX11_slide_30 q516 ?_
    replace h := Option.some.inj h
    subst h
    refine v_widen (k' := 9) (n' := 75) (Nat.le_of_ble_eq_true rfl) (Nat.le_of_ble_eq_true rfl) ?_
    exact v_iret E dX11_slide_32
  · rw [if_neg c13] at h
    refine v_aload E dX11_slide_15 rfl ?_
    replace h := bnd_e h
    obtain ⟨r3, er3, h⟩ := h
    refine v_callV (na := 0) (As := []) (rest := []) (ci := 10) (q := (RX10, TX10, 3)) E gw11_115 (by decide +kernel) rfl rfl (by decide) (kX10_row l er3).2 (kX10_row l er3).1 rfl rfl dX11_slide_17 ⟨Nat.le_of_ble_eq_true rfl, Nat.le_of_ble_eq_true rfl⟩ ⟨(Nat.le_of_ble_eq_true rfl), (Nat.le_of_ble_eq_true rfl)⟩ (Nat.le_of_ble_eq_true rfl) ?_
    refine v_iload_n E dX11_slide_20 rfl ?_
    refine v_iload_n E dX11_slide_21 rfl ?_
    refine v_iload E dX11_slide_22 rfl ?_
    replace h := bnd_e h
    obtain ⟨r4, er4, h⟩ := h
    refine v_callV (na := 3) (As := [vI a2, vI a3, vI a4]) (rest := []) (ci := 7) (q := (RX7, TX7, 14)) E gw11_262 (by decide +kernel) rfl rfl (by decide) (kX7_hasThree l er4).2 (kX7_hasThree l er4).1 rfl rfl dX11_slide_24 ⟨Nat.le_of_ble_eq_true rfl, Nat.le_of_ble_eq_true rfl⟩ ⟨(Nat.le_of_ble_eq_true rfl), (Nat.le_of_ble_eq_true rfl)⟩ (Nat.le_of_ble_eq_true rfl) ?_
    refine v_if_ne (tgt := 33) E dX11_slide_27 (by decide) (fun c12 => ?_) (fun c12 => ?_)
    · rw [if_neg c12] at h
      refine v_aload E dX11_slide_33 rfl ?_
      replace h := bnd_e h
      obtain ⟨r5, er5, h⟩ := h
      refine v_callV (na := 0) (As := []) (rest := []) (ci := 10) (q := (RX10, TX10, 3)) E gw11_115 (by decide +kernel) rfl rfl (by decide) (kX10_row l er5).2 (kX10_row l er5).1 rfl rfl dX11_slide_35 ⟨Nat.le_of_ble_eq_true rfl, Nat.le_of_ble_eq_true rfl⟩ ⟨(Nat.le_of_ble_eq_true rfl), (Nat.le_of_ble_eq_true rfl)⟩ (Nat.le_of_ble_eq_true rfl) ?_
      refine v_iload_n E dX11_slide_38 rfl ?_
      refine v_iload_n E dX11_slide_39 rfl ?_
      refine v_iload E dX11_slide_40 rfl ?_
      replace h := bnd_e h
      obtain ⟨r6, er6, h⟩ := h
      refine v_callV (na := 3) (As := [vI a2, vI a3, vI a4]) (rest := []) (ci := 7) (q := (RX7, TX7, 14)) E gw11_266 (by decide +kernel) rfl rfl (by decide) (kX7_slideChoice l er6).2 (kX7_slideChoice l er6).1 rfl rfl dX11_slide_42 ⟨Nat.le_of_ble_eq_true rfl, Nat.le_of_ble_eq_true rfl⟩ ⟨(Nat.le_of_ble_eq_true rfl), (Nat.le_of_ble_eq_true rfl)⟩ (Nat.le_of_ble_eq_true rfl) ?_
      refine v_istore (lv' := [some (vR (some o1)), some (vI a1), some (vI a2), some (vI a3), some (vI a4), some (vR r2), some (vI r6)]) E dX11_slide_45 (by decide) rfl ?_
      refine v_iload E dX11_slide_47 rfl ?_
      refine v_iconst (v := (-1)) E dX11_slide_49 (by decide) ?_
      refine v_icmp_ne (tgt := 56) E dX11_slide_50 (by decide) (fun c11 => ?_) (fun c11 => ?_)
      · rw [if_neg c11] at h
        refine v_aload_n E dX11_slide_56 rfl ?_
        replace h := bnd_e h
        obtain ⟨v7, ev7, h⟩ := h
        refine g11_54 E ev7 dX11_slide_57 ?_
        refine v_aload E dX11_slide_60 rfl ?_
        replace h := bnd_e h
        obtain ⟨r8, er8, h⟩ := h
        refine v_callV (na := 0) (As := []) (rest := [vR v7]) (ci := 10) (q := (RX10, TX10, 3)) E gw11_115 (by decide +kernel) rfl rfl (by decide) (kX10_row l er8).2 (kX10_row l er8).1 rfl rfl dX11_slide_62 ⟨Nat.le_of_ble_eq_true rfl, Nat.le_of_ble_eq_true rfl⟩ ⟨(Nat.le_of_ble_eq_true rfl), (Nat.le_of_ble_eq_true rfl)⟩ (Nat.le_of_ble_eq_true rfl) ?_
        refine v_iload_n E dX11_slide_65 rfl ?_
        refine v_iload_n E dX11_slide_66 rfl ?_
        refine v_iload E dX11_slide_67 rfl ?_
        refine v_iload E dX11_slide_69 rfl ?_
        replace h := bnd_e h
        obtain ⟨r9, er9, h⟩ := h
        refine v_callV (na := 5) (As := [vR r8, vI a2, vI a3, vI a4, vI r6]) (rest := []) (ci := 1) (q := (RX1, TX1, 2)) E gw11_270 (by decide +kernel) rfl rfl (by decide) (kX1_writeSlid l er9).2 (kX1_writeSlid l er9).1 rfl rfl dX11_slide_71 ⟨Nat.le_of_ble_eq_true rfl, Nat.le_of_ble_eq_true rfl⟩ ⟨(Nat.le_of_ble_eq_true rfl), (Nat.le_of_ble_eq_true rfl)⟩ (Nat.le_of_ble_eq_true rfl) ?_
        refine v_aload_n E dX11_slide_74 rfl ?_
        refine v_iload_n E dX11_slide_75 rfl ?_
        replace h := bnd_e h
        obtain ⟨r10, er10, h⟩ := h
        refine v_callV (na := 1) (As := [vI a1]) (rest := []) (ci := 11) (q := (RX11, TX11, 8)) E gw11_238 (by decide +kernel) rfl rfl (by decide) (kX11_becomesDraft l er10).2 (kX11_becomesDraft l er10).1 rfl rfl dX11_slide_76 ⟨Nat.le_of_ble_eq_true rfl, Nat.le_of_ble_eq_true rfl⟩ ⟨(Nat.le_of_ble_eq_true rfl), (Nat.le_of_ble_eq_true rfl)⟩ (Nat.le_of_ble_eq_true rfl) ?_
        refine v_widen (k' := 9) (n' := 75) (Nat.le_of_ble_eq_true rfl) (Nat.le_of_ble_eq_true rfl) ?_
        refine v_pop E dX11_slide_79 rfl ?_
        refine v_iload E dX11_slide_80 rfl ?_
        replace h := Option.some.inj h
        subst h
        refine v_widen (k' := 9) (n' := 75) (Nat.le_of_ble_eq_true rfl) (Nat.le_of_ble_eq_true rfl) ?_
        exact v_iret E dX11_slide_82
      · rw [if_pos c11] at h
        refine v_ldc (v := (-1000000003)) E dX11_slide_53 q813 ?_
        replace h := Option.some.inj h
        subst h
        refine v_widen (k' := 9) (n' := 75) (Nat.le_of_ble_eq_true rfl) (Nat.le_of_ble_eq_true rfl) ?_
        exact v_iret E dX11_slide_55
    · rw [if_pos c12] at h
      refine v_ldc (v := (-1000000001)) E dX11_slide_30 q516 ?_
      replace h := Option.some.inj h
      subst h
      refine v_widen (k' := 9) (n' := 75) (Nat.le_of_ble_eq_true rfl) (Nat.le_of_ble_eq_true rfl) ?_
      exact v_iret E dX11_slide_32
noncomputable def fX1_writeSmoothed (A0 : AH) (o0 : Option Nat) (a1 : Option Nat) (a2 : Int32) : Option (AH) :=
  (rcv A0 2 o0).bind fun o0 =>
  (fX7_placeOf A0 a1 a2 0).bind fun r1 =>
  (fX7_placeOf A0 a1 a2 1).bind fun r2 =>
  (fX1_clear A0 ((some o0))).bind fun r3 =>
  (fX1_putPlaces r3 ((some o0)) a1 0 r1).bind fun r4 =>
  (iter (S := Int32 × AH) (T := AH) (fun s5 =>
      if s5.1 ≤ r1 then
        some (.inr s5.2)
      else
        (fX7_letterOn s5.2 a1 s5.1).bind fun r8 =>
        (fX1_put s5.2 ((some o0)) r8).bind fun r9 =>
        some (.inl ((s5.1 + (-1)), r9))) ((r2 - 1), r4)).bind fun t6 =>
  (fX7_placeCount t6 a1).bind fun r11 =>
  (fX1_putPlaces t6 ((some o0)) a1 ((r2 + 1)) r11).bind fun r12 =>
  some r12
set_option maxRecDepth 100000 in
set_option maxHeartbeats 4000000 in
theorem kX1_writeSmoothed (l : Launch) {A0 : AH} {o0 : Option Nat} {a1 : Option Nat} {a2 : Int32} {r : AH} (h : fX1_writeSmoothed A0 o0 a1 a2 = some r) : (∃ a, o0 = some a ∧ Hk A0 a = 2) ∧ Cn l yX1_writeSmoothed cX1_writeSmoothed 6 none 3 66 0 0 [vR o0, vR a1, vI a2] A0 none r := by
  unfold fX1_writeSmoothed at h
  replace h := bnd_e h
  obtain ⟨o1, e1, h⟩ := h
  obtain ⟨rfl, hk0⟩ := rcv_e e1
  refine ⟨⟨o1, rfl, hk0⟩, ?_⟩
  refine Cn.of (pad := 3) (lv0 := [some (vR (some o1)), some (vR a1), some (vI a2), none, none, none]) (by decide +kernel) (Nat.le_of_ble_eq_true rfl) rfl ?_
  intro p e s m below meth c base D cy E
  generalize (List.map toV [vR (some o1), vR a1, vI a2]).toArray = ar at E ⊢
  have E : EN p s m ar meth c D cy RX1 cX1_writeSmoothed 6 none "writeSmoothed" := E
  refine v_aload_n E dX1_writeSmoothed_0 rfl ?_
  refine v_iload_n E dX1_writeSmoothed_1 rfl ?_
  refine v_iconst (v := 0) E dX1_writeSmoothed_2 (by decide) ?_
  replace h := bnd_e h
  obtain ⟨r1, er1, h⟩ := h
  refine v_callV (na := 2) (As := [vI a2, vI 0]) (rest := []) (ci := 7) (q := (RX7, TX7, 14)) E gw1_66 (by decide +kernel) rfl rfl (by decide) (kX7_placeOf l er1).2 (kX7_placeOf l er1).1 rfl rfl dX1_writeSmoothed_3 ⟨Nat.le_of_ble_eq_true rfl, Nat.le_of_ble_eq_true rfl⟩ ⟨(Nat.le_of_ble_eq_true rfl), (Nat.le_of_ble_eq_true rfl)⟩ (Nat.le_of_ble_eq_true rfl) ?_
  refine v_istore_n (lv' := [some (vR (some o1)), some (vR a1), some (vI a2), some (vI r1), none, none]) E dX1_writeSmoothed_6 (by decide) rfl ?_
  refine v_aload_n E dX1_writeSmoothed_7 rfl ?_
  refine v_iload_n E dX1_writeSmoothed_8 rfl ?_
  refine v_iconst (v := 1) E dX1_writeSmoothed_9 (by decide) ?_
  replace h := bnd_e h
  obtain ⟨r2, er2, h⟩ := h
  refine v_callV (na := 2) (As := [vI a2, vI 1]) (rest := []) (ci := 7) (q := (RX7, TX7, 14)) E gw1_66 (by decide +kernel) rfl rfl (by decide) (kX7_placeOf l er2).2 (kX7_placeOf l er2).1 rfl rfl dX1_writeSmoothed_10 ⟨Nat.le_of_ble_eq_true rfl, Nat.le_of_ble_eq_true rfl⟩ ⟨(Nat.le_of_ble_eq_true rfl), (Nat.le_of_ble_eq_true rfl)⟩ (Nat.le_of_ble_eq_true rfl) ?_
  refine v_istore (lv' := [some (vR (some o1)), some (vR a1), some (vI a2), some (vI r1), some (vI r2), none]) E dX1_writeSmoothed_13 (by decide) rfl ?_
  refine v_aload_n E dX1_writeSmoothed_15 rfl ?_
  replace h := bnd_e h
  obtain ⟨r3, er3, h⟩ := h
  refine v_callV (na := 0) (As := []) (rest := []) (ci := 1) (q := (RX1, TX1, 2)) E gw1_28 (by decide +kernel) rfl rfl (by decide) (kX1_clear l er3).2 (kX1_clear l er3).1 rfl rfl dX1_writeSmoothed_16 ⟨Nat.le_of_ble_eq_true rfl, Nat.le_of_ble_eq_true rfl⟩ ⟨(Nat.le_of_ble_eq_true rfl), (Nat.le_of_ble_eq_true rfl)⟩ (Nat.le_of_ble_eq_true rfl) ?_
  refine v_aload_n E dX1_writeSmoothed_19 rfl ?_
  refine v_aload_n E dX1_writeSmoothed_20 rfl ?_
  refine v_iconst (v := 0) E dX1_writeSmoothed_21 (by decide) ?_
  refine v_iload_n E dX1_writeSmoothed_22 rfl ?_
  replace h := bnd_e h
  obtain ⟨r4, er4, h⟩ := h
  refine v_callV (na := 3) (As := [vR a1, vI 0, vI r1]) (rest := []) (ci := 1) (q := (RX1, TX1, 2)) E gw1_62 (by decide +kernel) rfl rfl (by decide) (kX1_putPlaces l er4).2 (kX1_putPlaces l er4).1 rfl rfl dX1_writeSmoothed_23 ⟨Nat.le_of_ble_eq_true rfl, Nat.le_of_ble_eq_true rfl⟩ ⟨(Nat.le_of_ble_eq_true rfl), (Nat.le_of_ble_eq_true rfl)⟩ (Nat.le_of_ble_eq_true rfl) ?_
  refine v_iload E dX1_writeSmoothed_26 rfl ?_
  refine v_iconst (v := 1) E dX1_writeSmoothed_28 (by decide) ?_
  refine v_isub E dX1_writeSmoothed_29 ?_
  refine v_istore (lv' := [some (vR (some o1)), some (vR a1), some (vI a2), some (vI r1), some (vI r2), some (vI (r2 - 1))]) E dX1_writeSmoothed_30 (by decide) rfl ?_
  refine v_drop (lv' := [some (vR (some o1)), some (vR a1), none, some (vI r1), some (vI r2), some (vI (r2 - 1))]) [2] rfl ?_
  replace h := bnd_e h
  obtain ⟨t6, et6, h⟩ := h
  refine iter_V (S := Int32 × AH) (T := AH) (Ph := fun s5 => V p l e { frames := 3, cells := 0, slots := 0, locals := 66 } s m ar below meth c (MQ below (Qd base D cy none r) ar s 0 0 (fun q => base ≤ q)) base D cy 6 32 [some (vR (some o1)), some (vR a1), none, some (vI r1), some (vI r2), some (vI s5.1)] [] s5.2 0 0) (Pt := fun t6 => V p l e { frames := 3, cells := 0, slots := 0, locals := 66 } s m ar below meth c (MQ below (Qd base D cy none r) ar s 0 0 (fun q => base ≤ q)) base D cy 6 54 [some (vR (some o1)), some (vR a1), none, none, some (vI r2), none] [] t6 0 0) et6 (fun s5 w7 h hx => ?_) ?_
  · try dsimp only at h
    refine v_iload E dX1_writeSmoothed_32 rfl ?_
    refine v_iload_n E dX1_writeSmoothed_34 rfl ?_
    refine v_icmp_le (tgt := 54) E dX1_writeSmoothed_35 (by decide) (fun c10 => ?_) (fun c10 => ?_)
    · rw [if_pos c10] at h
      refine v_drop (lv' := [some (vR (some o1)), some (vR a1), none, none, some (vI r2), none]) [3, 5] rfl ?_
      replace h := Option.some.inj h
      subst h
      exact hx
    · rw [if_neg c10] at h
      refine v_aload_n E dX1_writeSmoothed_38 rfl ?_
      refine v_aload_n E dX1_writeSmoothed_39 rfl ?_
      refine v_iload E dX1_writeSmoothed_40 rfl ?_
      replace h := bnd_e h
      obtain ⟨r8, er8, h⟩ := h
      refine v_callV (na := 1) (As := [vI s5.1]) (rest := [vR (some o1)]) (ci := 7) (q := (RX7, TX7, 14)) E gw1_37 (by decide +kernel) rfl rfl (by decide) (kX7_letterOn l er8).2 (kX7_letterOn l er8).1 rfl rfl dX1_writeSmoothed_42 ⟨Nat.le_of_ble_eq_true rfl, Nat.le_of_ble_eq_true rfl⟩ ⟨(Nat.le_of_ble_eq_true rfl), (Nat.le_of_ble_eq_true rfl)⟩ (Nat.le_of_ble_eq_true rfl) ?_
      replace h := bnd_e h
      obtain ⟨r9, er9, h⟩ := h
      refine v_callV (na := 1) (As := [vI r8]) (rest := []) (ci := 1) (q := (RX1, TX1, 2)) E gw1_41 (by decide +kernel) rfl rfl (by decide) (kX1_put l er9).2 (kX1_put l er9).1 rfl rfl dX1_writeSmoothed_45 ⟨Nat.le_of_ble_eq_true rfl, Nat.le_of_ble_eq_true rfl⟩ ⟨(Nat.le_of_ble_eq_true rfl), (Nat.le_of_ble_eq_true rfl)⟩ (Nat.le_of_ble_eq_true rfl) ?_
      refine v_iinc (v := (s5.1 + (-1))) (lv' := [some (vR (some o1)), some (vR a1), none, some (vI r1), some (vI r2), some (vI (s5.1 + (-1)))]) E dX1_writeSmoothed_48 rfl (by rfl) (by decide) rfl ?_
      refine v_goto (tgt := 32) E dX1_writeSmoothed_51 (by decide) ?_
      replace h := Option.some.inj h
      subst h
      exact hx
  · refine v_aload_n E dX1_writeSmoothed_54 rfl ?_
    refine v_aload_n E dX1_writeSmoothed_55 rfl ?_
    refine v_iload E dX1_writeSmoothed_56 rfl ?_
    refine v_iconst (v := 1) E dX1_writeSmoothed_58 (by decide) ?_
    refine v_iadd E dX1_writeSmoothed_59 ?_
    refine v_aload_n E dX1_writeSmoothed_60 rfl ?_
    replace h := bnd_e h
    obtain ⟨r11, er11, h⟩ := h
    refine v_callV (na := 0) (As := []) (rest := [vI (r2 + 1), vR a1, vR (some o1)]) (ci := 7) (q := (RX7, TX7, 14)) E gw1_31 (by decide +kernel) rfl rfl (by decide) (kX7_placeCount l er11).2 (kX7_placeCount l er11).1 rfl rfl dX1_writeSmoothed_61 ⟨Nat.le_of_ble_eq_true rfl, Nat.le_of_ble_eq_true rfl⟩ ⟨(Nat.le_of_ble_eq_true rfl), (Nat.le_of_ble_eq_true rfl)⟩ (Nat.le_of_ble_eq_true rfl) ?_
    replace h := bnd_e h
    obtain ⟨r12, er12, h⟩ := h
    refine v_callV (na := 3) (As := [vR a1, vI (r2 + 1), vI r11]) (rest := []) (ci := 1) (q := (RX1, TX1, 2)) E gw1_62 (by decide +kernel) rfl rfl (by decide) (kX1_putPlaces l er12).2 (kX1_putPlaces l er12).1 rfl rfl dX1_writeSmoothed_64 ⟨Nat.le_of_ble_eq_true rfl, Nat.le_of_ble_eq_true rfl⟩ ⟨(Nat.le_of_ble_eq_true rfl), (Nat.le_of_ble_eq_true rfl)⟩ (Nat.le_of_ble_eq_true rfl) ?_
    replace h := Option.some.inj h
    subst h
    refine v_widen (k' := 0) (n' := 0) (Nat.le_of_ble_eq_true rfl) (Nat.le_of_ble_eq_true rfl) ?_
    exact v_vret E dX1_writeSmoothed_67
noncomputable def fX11_smooth (A0 : AH) (o0 : Option Nat) (a1 : Int32) (a2 : Int32) : Option (Int32 × AH) :=
  (rcv A0 12 o0).bind fun o0 =>
  (gR A0 12 352 ((some o0))).bind fun v1 =>
  (fX8_get A0 v1 a1).bind fun r2 =>
  if r2 = none then
    some (((-1000000001), A0))
  else
    (fX10_row A0 r2).bind fun r3 =>
    (fX7_hasLetter A0 r3 a2).bind fun r4 =>
    if r4 = 0 then
      some (((-1000000001), A0))
    else
      (gR A0 12 358 ((some o0))).bind fun v5 =>
      (fX10_row A0 r2).bind fun r6 =>
      (fX1_writeSmoothed A0 v5 r6 a2).bind fun r7 =>
      (fX11_becomesDraft r7 ((some o0)) a1).bind fun r8 =>
      (fX7_letterCount r8.2 r8.1).bind fun r9 =>
      some ((r9, r8.2))
set_option maxRecDepth 100000 in
set_option maxHeartbeats 4000000 in
theorem kX11_smooth (l : Launch) {A0 : AH} {o0 : Option Nat} {a1 : Int32} {a2 : Int32} {r : Int32 × AH} (h : fX11_smooth A0 o0 a1 a2 = some r) : (∃ a, o0 = some a ∧ Hk A0 a = 12) ∧ Cn l yX11_smooth cX11_smooth 4 (some .int) 5 108 9 75 [vR o0, vI a1, vI a2] A0 (some (vI r.1)) r.2 := by
  unfold fX11_smooth at h
  replace h := bnd_e h
  obtain ⟨o1, e1, h⟩ := h
  obtain ⟨rfl, hk0⟩ := rcv_e e1
  refine ⟨⟨o1, rfl, hk0⟩, ?_⟩
  refine Cn.of (pad := 1) (lv0 := [some (vR (some o1)), some (vI a1), some (vI a2), none]) (by decide +kernel) (Nat.le_of_ble_eq_true rfl) rfl ?_
  intro p e s m below meth c base D cy E
  generalize (List.map toV [vR (some o1), vI a1, vI a2]).toArray = ar at E ⊢
  have E : EN p s m ar meth c D cy RX11 cX11_smooth 4 (some .int) "smooth" := E
  refine v_aload_n E dX11_smooth_0 rfl ?_
  replace h := bnd_e h
  obtain ⟨v1, ev1, h⟩ := h
  refine g11_10 E ev1 dX11_smooth_1 ?_
  refine v_iload_n E dX11_smooth_4 rfl ?_
  replace h := bnd_e h
  obtain ⟨r2, er2, h⟩ := h
  refine v_callV (na := 1) (As := [vI a1]) (rest := []) (ci := 8) (q := (RX8, TX8, 2)) E gw11_110 (by decide +kernel) rfl rfl (by decide) (kX8_get l er2).2 (kX8_get l er2).1 rfl rfl dX11_smooth_5 ⟨Nat.le_of_ble_eq_true rfl, Nat.le_of_ble_eq_true rfl⟩ ⟨(Nat.le_of_ble_eq_true rfl), (Nat.le_of_ble_eq_true rfl)⟩ (Nat.le_of_ble_eq_true rfl) ?_
  refine v_astore_n (lv' := [some (vR (some o1)), some (vI a1), some (vI a2), some (vR r2)]) E dX11_smooth_8 (by decide) rfl ?_
  refine v_aload_n E dX11_smooth_9 rfl ?_
  refine v_ifnull (tgt := 24) E dX11_smooth_10 (by decide) (fun c11 => ?_) (fun c11 => ?_)
  · rw [if_pos c11] at h
    refine v_ldc (v := (-1000000001)) E dX11_smooth_24 q516 ?_
    replace h := Option.some.inj h
    subst h
    refine v_widen (k' := 9) (n' := 75) (Nat.le_of_ble_eq_true rfl) (Nat.le_of_ble_eq_true rfl) ?_
    exact v_iret E dX11_smooth_26
  · rw [if_neg c11] at h
    refine v_aload_n E dX11_smooth_13 rfl ?_
    replace h := bnd_e h
    obtain ⟨r3, er3, h⟩ := h
    refine v_callV (na := 0) (As := []) (rest := []) (ci := 10) (q := (RX10, TX10, 3)) E gw11_115 (by decide +kernel) rfl rfl (by decide) (kX10_row l er3).2 (kX10_row l er3).1 rfl rfl dX11_smooth_14 ⟨Nat.le_of_ble_eq_true rfl, Nat.le_of_ble_eq_true rfl⟩ ⟨(Nat.le_of_ble_eq_true rfl), (Nat.le_of_ble_eq_true rfl)⟩ (Nat.le_of_ble_eq_true rfl) ?_
    refine v_iload_n E dX11_smooth_17 rfl ?_
    replace h := bnd_e h
    obtain ⟨r4, er4, h⟩ := h
    refine v_callV (na := 1) (As := [vI a2]) (rest := []) (ci := 7) (q := (RX7, TX7, 14)) E gw11_179 (by decide +kernel) rfl rfl (by decide) (kX7_hasLetter l er4).2 (kX7_hasLetter l er4).1 rfl rfl dX11_smooth_18 ⟨Nat.le_of_ble_eq_true rfl, Nat.le_of_ble_eq_true rfl⟩ ⟨(Nat.le_of_ble_eq_true rfl), (Nat.le_of_ble_eq_true rfl)⟩ (Nat.le_of_ble_eq_true rfl) ?_
    refine v_if_ne (tgt := 27) E dX11_smooth_21 (by decide) (fun c10 => ?_) (fun c10 => ?_)
    · rw [if_neg c10] at h
      refine v_aload_n E dX11_smooth_27 rfl ?_
      replace h := bnd_e h
      obtain ⟨v5, ev5, h⟩ := h
      refine g11_54 E ev5 dX11_smooth_28 ?_
      refine v_aload_n E dX11_smooth_31 rfl ?_
      replace h := bnd_e h
      obtain ⟨r6, er6, h⟩ := h
      refine v_callV (na := 0) (As := []) (rest := [vR v5]) (ci := 10) (q := (RX10, TX10, 3)) E gw11_115 (by decide +kernel) rfl rfl (by decide) (kX10_row l er6).2 (kX10_row l er6).1 rfl rfl dX11_smooth_32 ⟨Nat.le_of_ble_eq_true rfl, Nat.le_of_ble_eq_true rfl⟩ ⟨(Nat.le_of_ble_eq_true rfl), (Nat.le_of_ble_eq_true rfl)⟩ (Nat.le_of_ble_eq_true rfl) ?_
      refine v_iload_n E dX11_smooth_35 rfl ?_
      replace h := bnd_e h
      obtain ⟨r7, er7, h⟩ := h
      refine v_callV (na := 2) (As := [vR r6, vI a2]) (rest := []) (ci := 1) (q := (RX1, TX1, 2)) E gw11_274 (by decide +kernel) rfl rfl (by decide) (kX1_writeSmoothed l er7).2 (kX1_writeSmoothed l er7).1 rfl rfl dX11_smooth_36 ⟨Nat.le_of_ble_eq_true rfl, Nat.le_of_ble_eq_true rfl⟩ ⟨(Nat.le_of_ble_eq_true rfl), (Nat.le_of_ble_eq_true rfl)⟩ (Nat.le_of_ble_eq_true rfl) ?_
      refine v_aload_n E dX11_smooth_39 rfl ?_
      refine v_iload_n E dX11_smooth_40 rfl ?_
      replace h := bnd_e h
      obtain ⟨r8, er8, h⟩ := h
      refine v_callV (na := 1) (As := [vI a1]) (rest := []) (ci := 11) (q := (RX11, TX11, 8)) E gw11_238 (by decide +kernel) rfl rfl (by decide) (kX11_becomesDraft l er8).2 (kX11_becomesDraft l er8).1 rfl rfl dX11_smooth_41 ⟨Nat.le_of_ble_eq_true rfl, Nat.le_of_ble_eq_true rfl⟩ ⟨(Nat.le_of_ble_eq_true rfl), (Nat.le_of_ble_eq_true rfl)⟩ (Nat.le_of_ble_eq_true rfl) ?_
      refine v_widen (k' := 9) (n' := 75) (Nat.le_of_ble_eq_true rfl) (Nat.le_of_ble_eq_true rfl) ?_
      replace h := bnd_e h
      obtain ⟨r9, er9, h⟩ := h
      refine v_callV (na := 0) (As := []) (rest := []) (ci := 7) (q := (RX7, TX7, 14)) E gw11_121 (by decide +kernel) rfl rfl (by decide) (kX7_letterCount l er9).2 (kX7_letterCount l er9).1 rfl rfl dX11_smooth_44 ⟨Nat.le_of_ble_eq_true rfl, Nat.le_of_ble_eq_true rfl⟩ ⟨(Nat.le_of_ble_eq_true rfl), (Nat.le_of_ble_eq_true rfl)⟩ (Nat.le_of_ble_eq_true rfl) ?_
      replace h := Option.some.inj h
      subst h
      refine v_widen (k' := 9) (n' := 75) (Nat.le_of_ble_eq_true rfl) (Nat.le_of_ble_eq_true rfl) ?_
      exact v_iret E dX11_smooth_47
    · rw [if_pos c10] at h
      refine v_ldc (v := (-1000000001)) E dX11_smooth_24 q516 ?_
      replace h := Option.some.inj h
      subst h
      refine v_widen (k' := 9) (n' := 75) (Nat.le_of_ble_eq_true rfl) (Nat.le_of_ble_eq_true rfl) ?_
      exact v_iret E dX11_smooth_26
noncomputable def fX1_writeSum (A0 : AH) (o0 : Option Nat) (a1 : Option Nat) (a2 : Option Nat) : Option (AH) :=
  (rcv A0 2 o0).bind fun o0 =>
  (fX1_clear A0 ((some o0))).bind fun r1 =>
  (fX7_placeCount r1 a1).bind fun r2 =>
  (fX1_putPlaces r1 ((some o0)) a1 0 r2).bind fun r3 =>
  (iter (S := Int32 × AH) (T := AH) (fun s4 =>
      (fX7_placeCount s4.2 a2).bind fun r7 =>
      if r7 ≤ s4.1 then
        some (.inr s4.2)
      else
        (fX7_letterOn s4.2 a2 s4.1).bind fun r8 =>
        (fX1_put s4.2 ((some o0)) ((r8 + 8))).bind fun r9 =>
        some (.inl ((s4.1 + 1), r9))) (0, r3)).bind fun t5 =>
  some t5
set_option maxRecDepth 100000 in
set_option maxHeartbeats 4000000 in
theorem kX1_writeSum (l : Launch) {A0 : AH} {o0 : Option Nat} {a1 : Option Nat} {a2 : Option Nat} {r : AH} (h : fX1_writeSum A0 o0 a1 a2 = some r) : (∃ a, o0 = some a ∧ Hk A0 a = 2) ∧ Cn l yX1_writeSum cX1_writeSum 4 none 3 66 0 0 [vR o0, vR a1, vR a2] A0 none r := by
  unfold fX1_writeSum at h
  replace h := bnd_e h
  obtain ⟨o1, e1, h⟩ := h
  obtain ⟨rfl, hk0⟩ := rcv_e e1
  refine ⟨⟨o1, rfl, hk0⟩, ?_⟩
  refine Cn.of (pad := 1) (lv0 := [some (vR (some o1)), some (vR a1), some (vR a2), none]) (by decide +kernel) (Nat.le_of_ble_eq_true rfl) rfl ?_
  intro p e s m below meth c base D cy E
  generalize (List.map toV [vR (some o1), vR a1, vR a2]).toArray = ar at E ⊢
  have E : EN p s m ar meth c D cy RX1 cX1_writeSum 4 none "writeSum" := E
  refine v_aload_n E dX1_writeSum_0 rfl ?_
  replace h := bnd_e h
  obtain ⟨r1, er1, h⟩ := h
  refine v_callV (na := 0) (As := []) (rest := []) (ci := 1) (q := (RX1, TX1, 2)) E gw1_28 (by decide +kernel) rfl rfl (by decide) (kX1_clear l er1).2 (kX1_clear l er1).1 rfl rfl dX1_writeSum_1 ⟨Nat.le_of_ble_eq_true rfl, Nat.le_of_ble_eq_true rfl⟩ ⟨(Nat.le_of_ble_eq_true rfl), (Nat.le_of_ble_eq_true rfl)⟩ (Nat.le_of_ble_eq_true rfl) ?_
  refine v_aload_n E dX1_writeSum_4 rfl ?_
  refine v_aload_n E dX1_writeSum_5 rfl ?_
  refine v_iconst (v := 0) E dX1_writeSum_6 (by decide) ?_
  refine v_aload_n E dX1_writeSum_7 rfl ?_
  replace h := bnd_e h
  obtain ⟨r2, er2, h⟩ := h
  refine v_callV (na := 0) (As := []) (rest := [vI 0, vR a1, vR (some o1)]) (ci := 7) (q := (RX7, TX7, 14)) E gw1_31 (by decide +kernel) rfl rfl (by decide) (kX7_placeCount l er2).2 (kX7_placeCount l er2).1 rfl rfl dX1_writeSum_8 ⟨Nat.le_of_ble_eq_true rfl, Nat.le_of_ble_eq_true rfl⟩ ⟨(Nat.le_of_ble_eq_true rfl), (Nat.le_of_ble_eq_true rfl)⟩ (Nat.le_of_ble_eq_true rfl) ?_
  replace h := bnd_e h
  obtain ⟨r3, er3, h⟩ := h
  refine v_callV (na := 3) (As := [vR a1, vI 0, vI r2]) (rest := []) (ci := 1) (q := (RX1, TX1, 2)) E gw1_62 (by decide +kernel) rfl rfl (by decide) (kX1_putPlaces l er3).2 (kX1_putPlaces l er3).1 rfl rfl dX1_writeSum_11 ⟨Nat.le_of_ble_eq_true rfl, Nat.le_of_ble_eq_true rfl⟩ ⟨(Nat.le_of_ble_eq_true rfl), (Nat.le_of_ble_eq_true rfl)⟩ (Nat.le_of_ble_eq_true rfl) ?_
  refine v_iconst (v := 0) E dX1_writeSum_14 (by decide) ?_
  refine v_istore_n (lv' := [some (vR (some o1)), some (vR a1), some (vR a2), some (vI 0)]) E dX1_writeSum_15 (by decide) rfl ?_
  refine v_drop (lv' := [some (vR (some o1)), none, some (vR a2), some (vI 0)]) [1] rfl ?_
  replace h := bnd_e h
  obtain ⟨t5, et5, h⟩ := h
  refine iter_V (S := Int32 × AH) (T := AH) (Ph := fun s4 => V p l e { frames := 3, cells := 0, slots := 0, locals := 66 } s m ar below meth c (MQ below (Qd base D cy none r) ar s 0 0 (fun q => base ≤ q)) base D cy 4 16 [some (vR (some o1)), none, some (vR a2), some (vI s4.1)] [] s4.2 0 0) (Pt := fun t5 => V p l e { frames := 3, cells := 0, slots := 0, locals := 66 } s m ar below meth c (MQ below (Qd base D cy none r) ar s 0 0 (fun q => base ≤ q)) base D cy 4 42 [none, none, none, none] [] t5 0 0) et5 (fun s4 w6 h hx => ?_) ?_
  · try dsimp only at h
    refine v_iload_n E dX1_writeSum_16 rfl ?_
    refine v_aload_n E dX1_writeSum_17 rfl ?_
    replace h := bnd_e h
    obtain ⟨r7, er7, h⟩ := h
    refine v_callV (na := 0) (As := []) (rest := [vI s4.1]) (ci := 7) (q := (RX7, TX7, 14)) E gw1_31 (by decide +kernel) rfl rfl (by decide) (kX7_placeCount l er7).2 (kX7_placeCount l er7).1 rfl rfl dX1_writeSum_18 ⟨Nat.le_of_ble_eq_true rfl, Nat.le_of_ble_eq_true rfl⟩ ⟨(Nat.le_of_ble_eq_true rfl), (Nat.le_of_ble_eq_true rfl)⟩ (Nat.le_of_ble_eq_true rfl) ?_
    refine v_icmp_ge (tgt := 42) E dX1_writeSum_21 (by decide) (fun c10 => ?_) (fun c10 => ?_)
    · rw [if_pos c10] at h
      refine v_drop (lv' := [none, none, none, none]) [0, 2, 3] rfl ?_
      replace h := Option.some.inj h
      subst h
      exact hx
    · rw [if_neg c10] at h
      refine v_aload_n E dX1_writeSum_24 rfl ?_
      refine v_aload_n E dX1_writeSum_25 rfl ?_
      refine v_iload_n E dX1_writeSum_26 rfl ?_
      replace h := bnd_e h
      obtain ⟨r8, er8, h⟩ := h
      refine v_callV (na := 1) (As := [vI s4.1]) (rest := [vR (some o1)]) (ci := 7) (q := (RX7, TX7, 14)) E gw1_37 (by decide +kernel) rfl rfl (by decide) (kX7_letterOn l er8).2 (kX7_letterOn l er8).1 rfl rfl dX1_writeSum_27 ⟨Nat.le_of_ble_eq_true rfl, Nat.le_of_ble_eq_true rfl⟩ ⟨(Nat.le_of_ble_eq_true rfl), (Nat.le_of_ble_eq_true rfl)⟩ (Nat.le_of_ble_eq_true rfl) ?_
      refine v_bipush (v := 8) E dX1_writeSum_30 (by decide) ?_
      refine v_iadd E dX1_writeSum_32 ?_
      replace h := bnd_e h
      obtain ⟨r9, er9, h⟩ := h
      refine v_callV (na := 1) (As := [vI (r8 + 8)]) (rest := []) (ci := 1) (q := (RX1, TX1, 2)) E gw1_41 (by decide +kernel) rfl rfl (by decide) (kX1_put l er9).2 (kX1_put l er9).1 rfl rfl dX1_writeSum_33 ⟨Nat.le_of_ble_eq_true rfl, Nat.le_of_ble_eq_true rfl⟩ ⟨(Nat.le_of_ble_eq_true rfl), (Nat.le_of_ble_eq_true rfl)⟩ (Nat.le_of_ble_eq_true rfl) ?_
      refine v_iinc (v := (s4.1 + 1)) (lv' := [some (vR (some o1)), none, some (vR a2), some (vI (s4.1 + 1))]) E dX1_writeSum_36 rfl (by rfl) (by decide) rfl ?_
      refine v_goto (tgt := 16) E dX1_writeSum_39 (by decide) ?_
      replace h := Option.some.inj h
      subst h
      exact hx
  · replace h := Option.some.inj h
    subst h
    refine v_widen (k' := 0) (n' := 0) (Nat.le_of_ble_eq_true rfl) (Nat.le_of_ble_eq_true rfl) ?_
    exact v_vret E dX1_writeSum_42
noncomputable def fX11_sum (A0 : AH) (o0 : Option Nat) (a1 : Int32) (a2 : Int32) : Option (Int32 × AH) :=
  (rcv A0 12 o0).bind fun o0 =>
  (gR A0 12 352 ((some o0))).bind fun v1 =>
  (fX8_get A0 v1 a1).bind fun r2 =>
  (gR A0 12 352 ((some o0))).bind fun v3 =>
  (fX8_get A0 v3 a2).bind fun r4 =>
  if r2 = none then
    some (((-1000000001), A0))
  else
    if r4 = none then
      some (((-1000000001), A0))
    else
      (gR A0 12 352 ((some o0))).bind fun v5 =>
      (fX8_isFull A0 v5).bind fun r6 =>
      if r6 = 0 then
        (fX10_row A0 r2).bind fun r7 =>
        (fX7_letterCount A0 r7).bind fun r8 =>
        (fX10_row A0 r4).bind fun r9 =>
        (fX7_letterCount A0 r9).bind fun r10 =>
        if (r8 + r10) ≤ 8 then
          (gR A0 12 358 ((some o0))).bind fun v11 =>
          (fX10_row A0 r2).bind fun r12 =>
          (fX10_row A0 r4).bind fun r13 =>
          (fX1_writeSum A0 v11 r12 r13).bind fun r14 =>
          (fX11_comesAsWord r14 ((some o0))).bind fun r15 =>
          some ((r15.1, r15.2))
        else
          some (((-1000000004), A0))
      else
        some (((-1000000004), A0))
set_option maxRecDepth 100000 in
set_option maxHeartbeats 4000000 in
theorem kX11_sum (l : Launch) {A0 : AH} {o0 : Option Nat} {a1 : Int32} {a2 : Int32} {r : Int32 × AH} (h : fX11_sum A0 o0 a1 a2 = some r) : (∃ a, o0 = some a ∧ Hk A0 a = 12) ∧ Cn l yX11_sum cX11_sum 5 (some .int) 4 89 9 75 [vR o0, vI a1, vI a2] A0 (some (vI r.1)) r.2 := by
  unfold fX11_sum at h
  replace h := bnd_e h
  obtain ⟨o1, e1, h⟩ := h
  obtain ⟨rfl, hk0⟩ := rcv_e e1
  refine ⟨⟨o1, rfl, hk0⟩, ?_⟩
  refine Cn.of (pad := 2) (lv0 := [some (vR (some o1)), some (vI a1), some (vI a2), none, none]) (by decide +kernel) (Nat.le_of_ble_eq_true rfl) rfl ?_
  intro p e s m below meth c base D cy E
  generalize (List.map toV [vR (some o1), vI a1, vI a2]).toArray = ar at E ⊢
  have E : EN p s m ar meth c D cy RX11 cX11_sum 5 (some .int) "sum" := E
  refine v_aload_n E dX11_sum_0 rfl ?_
  replace h := bnd_e h
  obtain ⟨v1, ev1, h⟩ := h
  refine g11_10 E ev1 dX11_sum_1 ?_
  refine v_iload_n E dX11_sum_4 rfl ?_
  replace h := bnd_e h
  obtain ⟨r2, er2, h⟩ := h
  refine v_callV (na := 1) (As := [vI a1]) (rest := []) (ci := 8) (q := (RX8, TX8, 2)) E gw11_110 (by decide +kernel) rfl rfl (by decide) (kX8_get l er2).2 (kX8_get l er2).1 rfl rfl dX11_sum_5 ⟨Nat.le_of_ble_eq_true rfl, Nat.le_of_ble_eq_true rfl⟩ ⟨(Nat.le_of_ble_eq_true rfl), (Nat.le_of_ble_eq_true rfl)⟩ (Nat.le_of_ble_eq_true rfl) ?_
  refine v_astore_n (lv' := [some (vR (some o1)), some (vI a1), some (vI a2), some (vR r2), none]) E dX11_sum_8 (by decide) rfl ?_
  refine v_aload_n E dX11_sum_9 rfl ?_
  replace h := bnd_e h
  obtain ⟨v3, ev3, h⟩ := h
  refine g11_10 E ev3 dX11_sum_10 ?_
  refine v_iload_n E dX11_sum_13 rfl ?_
  replace h := bnd_e h
  obtain ⟨r4, er4, h⟩ := h
  refine v_callV (na := 1) (As := [vI a2]) (rest := []) (ci := 8) (q := (RX8, TX8, 2)) E gw11_110 (by decide +kernel) rfl rfl (by decide) (kX8_get l er4).2 (kX8_get l er4).1 rfl rfl dX11_sum_14 ⟨Nat.le_of_ble_eq_true rfl, Nat.le_of_ble_eq_true rfl⟩ ⟨(Nat.le_of_ble_eq_true rfl), (Nat.le_of_ble_eq_true rfl)⟩ (Nat.le_of_ble_eq_true rfl) ?_
  refine v_astore (lv' := [some (vR (some o1)), some (vI a1), some (vI a2), some (vR r2), some (vR r4)]) E dX11_sum_17 (by decide) rfl ?_
  refine v_aload_n E dX11_sum_19 rfl ?_
  refine v_ifnull (tgt := 28) E dX11_sum_20 (by decide) (fun c19 => ?_) (fun c19 => ?_)
  · rw [if_pos c19] at h
    refine v_ldc (v := (-1000000001)) E dX11_sum_28 q516 ?_
    replace h := Option.some.inj h
    subst h
    refine v_widen (k' := 9) (n' := 75) (Nat.le_of_ble_eq_true rfl) (Nat.le_of_ble_eq_true rfl) ?_
    exact v_iret E dX11_sum_30
  · rw [if_neg c19] at h
    refine v_aload E dX11_sum_23 rfl ?_
    refine v_ifnonnull (tgt := 31) E dX11_sum_25 (by decide) (fun c18 => ?_) (fun c18 => ?_)
    · rw [if_neg c18] at h
      refine v_aload_n E dX11_sum_31 rfl ?_
      replace h := bnd_e h
      obtain ⟨v5, ev5, h⟩ := h
      refine g11_10 E ev5 dX11_sum_32 ?_
      replace h := bnd_e h
      obtain ⟨r6, er6, h⟩ := h
      refine v_callV (na := 0) (As := []) (rest := []) (ci := 8) (q := (RX8, TX8, 2)) E gw11_75 (by decide +kernel) rfl rfl (by decide) (kX8_isFull l er6).2 (kX8_isFull l er6).1 rfl rfl dX11_sum_35 ⟨Nat.le_of_ble_eq_true rfl, Nat.le_of_ble_eq_true rfl⟩ ⟨(Nat.le_of_ble_eq_true rfl), (Nat.le_of_ble_eq_true rfl)⟩ (Nat.le_of_ble_eq_true rfl) ?_
      refine v_if_ne (tgt := 62) E dX11_sum_38 (by decide) (fun c17 => ?_) (fun c17 => ?_)
      · rw [if_neg c17] at h
        refine v_ldc (v := (-1000000004)) E dX11_sum_62 q271 ?_
        replace h := Option.some.inj h
        subst h
        refine v_widen (k' := 9) (n' := 75) (Nat.le_of_ble_eq_true rfl) (Nat.le_of_ble_eq_true rfl) ?_
        exact v_iret E dX11_sum_64
      · rw [if_pos c17] at h
        refine v_aload_n E dX11_sum_41 rfl ?_
        replace h := bnd_e h
        obtain ⟨r7, er7, h⟩ := h
        refine v_callV (na := 0) (As := []) (rest := []) (ci := 10) (q := (RX10, TX10, 3)) E gw11_115 (by decide +kernel) rfl rfl (by decide) (kX10_row l er7).2 (kX10_row l er7).1 rfl rfl dX11_sum_42 ⟨Nat.le_of_ble_eq_true rfl, Nat.le_of_ble_eq_true rfl⟩ ⟨(Nat.le_of_ble_eq_true rfl), (Nat.le_of_ble_eq_true rfl)⟩ (Nat.le_of_ble_eq_true rfl) ?_
        replace h := bnd_e h
        obtain ⟨r8, er8, h⟩ := h
        refine v_callV (na := 0) (As := []) (rest := []) (ci := 7) (q := (RX7, TX7, 14)) E gw11_121 (by decide +kernel) rfl rfl (by decide) (kX7_letterCount l er8).2 (kX7_letterCount l er8).1 rfl rfl dX11_sum_45 ⟨Nat.le_of_ble_eq_true rfl, Nat.le_of_ble_eq_true rfl⟩ ⟨(Nat.le_of_ble_eq_true rfl), (Nat.le_of_ble_eq_true rfl)⟩ (Nat.le_of_ble_eq_true rfl) ?_
        refine v_aload E dX11_sum_48 rfl ?_
        replace h := bnd_e h
        obtain ⟨r9, er9, h⟩ := h
        refine v_callV (na := 0) (As := []) (rest := [vI r8]) (ci := 10) (q := (RX10, TX10, 3)) E gw11_115 (by decide +kernel) rfl rfl (by decide) (kX10_row l er9).2 (kX10_row l er9).1 rfl rfl dX11_sum_50 ⟨Nat.le_of_ble_eq_true rfl, Nat.le_of_ble_eq_true rfl⟩ ⟨(Nat.le_of_ble_eq_true rfl), (Nat.le_of_ble_eq_true rfl)⟩ (Nat.le_of_ble_eq_true rfl) ?_
        replace h := bnd_e h
        obtain ⟨r10, er10, h⟩ := h
        refine v_callV (na := 0) (As := []) (rest := [vI r8]) (ci := 7) (q := (RX7, TX7, 14)) E gw11_121 (by decide +kernel) rfl rfl (by decide) (kX7_letterCount l er10).2 (kX7_letterCount l er10).1 rfl rfl dX11_sum_53 ⟨Nat.le_of_ble_eq_true rfl, Nat.le_of_ble_eq_true rfl⟩ ⟨(Nat.le_of_ble_eq_true rfl), (Nat.le_of_ble_eq_true rfl)⟩ (Nat.le_of_ble_eq_true rfl) ?_
        refine v_iadd E dX11_sum_56 ?_
        refine v_bipush (v := 8) E dX11_sum_57 (by decide) ?_
        refine v_icmp_le (tgt := 65) E dX11_sum_59 (by decide) (fun c16 => ?_) (fun c16 => ?_)
        · rw [if_pos c16] at h
          refine v_aload_n E dX11_sum_65 rfl ?_
          replace h := bnd_e h
          obtain ⟨v11, ev11, h⟩ := h
          refine g11_54 E ev11 dX11_sum_66 ?_
          refine v_aload_n E dX11_sum_69 rfl ?_
          replace h := bnd_e h
          obtain ⟨r12, er12, h⟩ := h
          refine v_callV (na := 0) (As := []) (rest := [vR v11]) (ci := 10) (q := (RX10, TX10, 3)) E gw11_115 (by decide +kernel) rfl rfl (by decide) (kX10_row l er12).2 (kX10_row l er12).1 rfl rfl dX11_sum_70 ⟨Nat.le_of_ble_eq_true rfl, Nat.le_of_ble_eq_true rfl⟩ ⟨(Nat.le_of_ble_eq_true rfl), (Nat.le_of_ble_eq_true rfl)⟩ (Nat.le_of_ble_eq_true rfl) ?_
          refine v_aload E dX11_sum_73 rfl ?_
          replace h := bnd_e h
          obtain ⟨r13, er13, h⟩ := h
          refine v_callV (na := 0) (As := []) (rest := [vR r12, vR v11]) (ci := 10) (q := (RX10, TX10, 3)) E gw11_115 (by decide +kernel) rfl rfl (by decide) (kX10_row l er13).2 (kX10_row l er13).1 rfl rfl dX11_sum_75 ⟨Nat.le_of_ble_eq_true rfl, Nat.le_of_ble_eq_true rfl⟩ ⟨(Nat.le_of_ble_eq_true rfl), (Nat.le_of_ble_eq_true rfl)⟩ (Nat.le_of_ble_eq_true rfl) ?_
          replace h := bnd_e h
          obtain ⟨r14, er14, h⟩ := h
          refine v_callV (na := 2) (As := [vR r12, vR r13]) (rest := []) (ci := 1) (q := (RX1, TX1, 2)) E gw11_277 (by decide +kernel) rfl rfl (by decide) (kX1_writeSum l er14).2 (kX1_writeSum l er14).1 rfl rfl dX11_sum_78 ⟨Nat.le_of_ble_eq_true rfl, Nat.le_of_ble_eq_true rfl⟩ ⟨(Nat.le_of_ble_eq_true rfl), (Nat.le_of_ble_eq_true rfl)⟩ (Nat.le_of_ble_eq_true rfl) ?_
          refine v_aload_n E dX11_sum_81 rfl ?_
          replace h := bnd_e h
          obtain ⟨r15, er15, h⟩ := h
          refine v_callV (na := 0) (As := []) (rest := []) (ci := 11) (q := (RX11, TX11, 8)) E gw11_89 (by decide +kernel) rfl rfl (by decide) (kX11_comesAsWord l er15).2 (kX11_comesAsWord l er15).1 rfl rfl dX11_sum_82 ⟨Nat.le_of_ble_eq_true rfl, Nat.le_of_ble_eq_true rfl⟩ ⟨(Nat.le_of_ble_eq_true rfl), (Nat.le_of_ble_eq_true rfl)⟩ (Nat.le_of_ble_eq_true rfl) ?_
          refine v_widen (k' := 9) (n' := 75) (Nat.le_of_ble_eq_true rfl) (Nat.le_of_ble_eq_true rfl) ?_
          replace h := Option.some.inj h
          subst h
          refine v_widen (k' := 9) (n' := 75) (Nat.le_of_ble_eq_true rfl) (Nat.le_of_ble_eq_true rfl) ?_
          exact v_iret E dX11_sum_85
        · rw [if_neg c16] at h
          refine v_ldc (v := (-1000000004)) E dX11_sum_62 q271 ?_
          replace h := Option.some.inj h
          subst h
          refine v_widen (k' := 9) (n' := 75) (Nat.le_of_ble_eq_true rfl) (Nat.le_of_ble_eq_true rfl) ?_
          exact v_iret E dX11_sum_64
    · rw [if_pos c18] at h
      refine v_ldc (v := (-1000000001)) E dX11_sum_28 q516 ?_
      replace h := Option.some.inj h
      subst h
      refine v_widen (k' := 9) (n' := 75) (Nat.le_of_ble_eq_true rfl) (Nat.le_of_ble_eq_true rfl) ?_
      exact v_iret E dX11_sum_30
noncomputable def fX8_remove (A0 : AH) (o0 : Option Nat) (a1 : Int32) : Option (AH) :=
  (rcv A0 9 o0).bind fun o0 =>
  if a1 < 0 then
    some A0
  else
    (gI A0 9 257 ((some o0))).bind fun v1 =>
    if v1 ≤ a1 then
      some A0
    else
      (iter (S := Int32 × AH) (T := AH) (fun s2 =>
          (gI s2.2 9 257 ((some o0))).bind fun v5 =>
          if v5 ≤ (s2.1 + 1) then
            some (.inr s2.2)
          else
            (gR s2.2 9 256 ((some o0))).bind fun v6 =>
            (gR s2.2 9 256 ((some o0))).bind fun v7 =>
            (aR s2.2 18 v7 ((s2.1 + 1))).bind fun v8 =>
            (sR s2.2 18 11 v6 s2.1 v8).bind fun A9 =>
            some (.inl ((s2.1 + 1), A9))) (a1, A0)).bind fun t3 =>
      (gI t3 9 257 ((some o0))).bind fun v11 =>
      (pI t3 9 257 ((some o0)) ((v11 - 1))).bind fun A12 =>
      some A12
set_option maxRecDepth 100000 in
set_option maxHeartbeats 4000000 in
theorem kX8_remove (l : Launch) {A0 : AH} {o0 : Option Nat} {a1 : Int32} {r : AH} (h : fX8_remove A0 o0 a1 = some r) : (∃ a, o0 = some a ∧ Hk A0 a = 9) ∧ Cn l yX8_remove cX8_remove 3 none 0 0 0 0 [vR o0, vI a1] A0 none r := by
  unfold fX8_remove at h
  replace h := bnd_e h
  obtain ⟨o1, e1, h⟩ := h
  obtain ⟨rfl, hk0⟩ := rcv_e e1
  refine ⟨⟨o1, rfl, hk0⟩, ?_⟩
  refine Cn.of (pad := 1) (lv0 := [some (vR (some o1)), some (vI a1), none]) (by decide +kernel) (Nat.le_of_ble_eq_true rfl) rfl ?_
  intro p e s m below meth c base D cy E
  generalize (List.map toV [vR (some o1), vI a1]).toArray = ar at E ⊢
  have E : EN p s m ar meth c D cy RX8 cX8_remove 3 none "remove" := E
  refine v_iload_n E dX8_remove_0 rfl ?_
  refine v_if_lt (tgt := 54) E dX8_remove_1 (by decide) (fun c15 => ?_) (fun c15 => ?_)
  · rw [if_pos c15] at h
    replace h := Option.some.inj h
    subst h
    refine v_widen (k' := 0) (n' := 0) (Nat.le_of_ble_eq_true rfl) (Nat.le_of_ble_eq_true rfl) ?_
    exact v_vret E dX8_remove_54
  · rw [if_neg c15] at h
    refine v_iload_n E dX8_remove_4 rfl ?_
    refine v_aload_n E dX8_remove_5 rfl ?_
    replace h := bnd_e h
    obtain ⟨v1, ev1, h⟩ := h
    refine g8_17 E ev1 dX8_remove_6 ?_
    refine v_icmp_ge (tgt := 54) E dX8_remove_9 (by decide) (fun c14 => ?_) (fun c14 => ?_)
    · rw [if_pos c14] at h
      replace h := Option.some.inj h
      subst h
      refine v_widen (k' := 0) (n' := 0) (Nat.le_of_ble_eq_true rfl) (Nat.le_of_ble_eq_true rfl) ?_
      exact v_vret E dX8_remove_54
    · rw [if_neg c14] at h
      refine v_iload_n E dX8_remove_12 rfl ?_
      refine v_istore_n (lv' := [some (vR (some o1)), some (vI a1), some (vI a1)]) E dX8_remove_13 (by decide) rfl ?_
      refine v_drop (lv' := [some (vR (some o1)), none, some (vI a1)]) [1] rfl ?_
      replace h := bnd_e h
      obtain ⟨t3, et3, h⟩ := h
      refine iter_V (S := Int32 × AH) (T := AH) (Ph := fun s2 => V p l e { frames := 0, cells := 0, slots := 0, locals := 0 } s m ar below meth c (MQ below (Qd base D cy none r) ar s 0 0 (fun q => base ≤ q)) base D cy 3 14 [some (vR (some o1)), none, some (vI s2.1)] [] s2.2 0 0) (Pt := fun t3 => V p l e { frames := 0, cells := 0, slots := 0, locals := 0 } s m ar below meth c (MQ below (Qd base D cy none r) ar s 0 0 (fun q => base ≤ q)) base D cy 3 44 [some (vR (some o1)), none, none] [] t3 0 0) et3 (fun s2 w4 h hx => ?_) ?_
      · try dsimp only at h
        refine v_iload_n E dX8_remove_14 rfl ?_
        refine v_iconst (v := 1) E dX8_remove_15 (by decide) ?_
        refine v_iadd E dX8_remove_16 ?_
        refine v_aload_n E dX8_remove_17 rfl ?_
        replace h := bnd_e h
        obtain ⟨v5, ev5, h⟩ := h
        refine g8_17 E ev5 dX8_remove_18 ?_
        refine v_icmp_ge (tgt := 44) E dX8_remove_21 (by decide) (fun c10 => ?_) (fun c10 => ?_)
        · rw [if_pos c10] at h
          refine v_drop (lv' := [some (vR (some o1)), none, none]) [2] rfl ?_
          replace h := Option.some.inj h
          subst h
          exact hx
        · rw [if_neg c10] at h
          refine v_aload_n E dX8_remove_24 rfl ?_
          replace h := bnd_e h
          obtain ⟨v6, ev6, h⟩ := h
          refine g8_11 E ev6 dX8_remove_25 ?_
          refine v_iload_n E dX8_remove_28 rfl ?_
          refine v_aload_n E dX8_remove_29 rfl ?_
          replace h := bnd_e h
          obtain ⟨v7, ev7, h⟩ := h
          refine g8_11 E ev7 dX8_remove_30 ?_
          refine v_iload_n E dX8_remove_33 rfl ?_
          refine v_iconst (v := 1) E dX8_remove_34 (by decide) ?_
          refine v_iadd E dX8_remove_35 ?_
          replace h := bnd_e h
          obtain ⟨v8, ev8, h⟩ := h
          refine v_aaload (kd := 18) (t0 := 4) E (by decide) rfl ev8 dX8_remove_36 ?_
          replace h := bnd_e h
          obtain ⟨A9, eA9, h⟩ := h
          refine v_aastore (kd := 18) (ci := 10) (t0 := 4) E (by decide) (by decide) rfl rfl eA9 dX8_remove_37 ?_
          refine v_iinc (v := (s2.1 + 1)) (lv' := [some (vR (some o1)), none, some (vI (s2.1 + 1))]) E dX8_remove_38 rfl (by rfl) (by decide) rfl ?_
          refine v_goto (tgt := 14) E dX8_remove_41 (by decide) ?_
          replace h := Option.some.inj h
          subst h
          exact hx
      · refine v_aload_n E dX8_remove_44 rfl ?_
        refine v_dup E dX8_remove_45 rfl ?_
        replace h := bnd_e h
        obtain ⟨v11, ev11, h⟩ := h
        refine g8_17 E ev11 dX8_remove_46 ?_
        refine v_iconst (v := 1) E dX8_remove_49 (by decide) ?_
        refine v_isub E dX8_remove_50 ?_
        replace h := bnd_e h
        obtain ⟨A12, eA12, h⟩ := h
        refine p8_17 E eA12 dX8_remove_51 ?_
        replace h := Option.some.inj h
        subst h
        refine v_widen (k' := 0) (n' := 0) (Nat.le_of_ble_eq_true rfl) (Nat.le_of_ble_eq_true rfl) ?_
        exact v_vret E dX8_remove_54
noncomputable def fX11_take (A0 : AH) (o0 : Option Nat) (a1 : Int32) : Option (Int32 × AH) :=
  (rcv A0 12 o0).bind fun o0 =>
  (gR A0 12 352 ((some o0))).bind fun v1 =>
  (fX8_get A0 v1 a1).bind fun r2 =>
  if r2 = none then
    some (((-1000000001), A0))
  else
    (gR A0 12 355 ((some o0))).bind fun v3 =>
    (gR A0 12 352 ((some o0))).bind fun v4 =>
    (fX5_remember A0 v3 v4).bind fun r5 =>
    (gR r5 12 352 ((some o0))).bind fun v6 =>
    (fX8_remove r5 v6 a1).bind fun r7 =>
    (gR r7 12 352 ((some o0))).bind fun v8 =>
    (fX8_count r7 v8).bind fun r9 =>
    some ((r9, r7))
set_option maxRecDepth 100000 in
set_option maxHeartbeats 4000000 in
theorem kX11_take (l : Launch) {A0 : AH} {o0 : Option Nat} {a1 : Int32} {r : Int32 × AH} (h : fX11_take A0 o0 a1 = some r) : (∃ a, o0 = some a ∧ Hk A0 a = 12) ∧ Cn l yX11_take cX11_take 2 (some .int) 3 64 2 8 [vR o0, vI a1] A0 (some (vI r.1)) r.2 := by
  unfold fX11_take at h
  replace h := bnd_e h
  obtain ⟨o1, e1, h⟩ := h
  obtain ⟨rfl, hk0⟩ := rcv_e e1
  refine ⟨⟨o1, rfl, hk0⟩, ?_⟩
  refine Cn.of (pad := 0) (lv0 := [some (vR (some o1)), some (vI a1)]) (by decide +kernel) (Nat.le_of_ble_eq_true rfl) rfl ?_
  intro p e s m below meth c base D cy E
  generalize (List.map toV [vR (some o1), vI a1]).toArray = ar at E ⊢
  have E : EN p s m ar meth c D cy RX11 cX11_take 2 (some .int) "take" := E
  refine v_aload_n E dX11_take_0 rfl ?_
  replace h := bnd_e h
  obtain ⟨v1, ev1, h⟩ := h
  refine g11_10 E ev1 dX11_take_1 ?_
  refine v_iload_n E dX11_take_4 rfl ?_
  replace h := bnd_e h
  obtain ⟨r2, er2, h⟩ := h
  refine v_callV (na := 1) (As := [vI a1]) (rest := []) (ci := 8) (q := (RX8, TX8, 2)) E gw11_110 (by decide +kernel) rfl rfl (by decide) (kX8_get l er2).2 (kX8_get l er2).1 rfl rfl dX11_take_5 ⟨Nat.le_of_ble_eq_true rfl, Nat.le_of_ble_eq_true rfl⟩ ⟨(Nat.le_of_ble_eq_true rfl), (Nat.le_of_ble_eq_true rfl)⟩ (Nat.le_of_ble_eq_true rfl) ?_
  refine v_ifnonnull (tgt := 14) E dX11_take_8 (by decide) (fun c10 => ?_) (fun c10 => ?_)
  · rw [if_neg c10] at h
    refine v_aload_n E dX11_take_14 rfl ?_
    replace h := bnd_e h
    obtain ⟨v3, ev3, h⟩ := h
    refine g11_33 E ev3 dX11_take_15 ?_
    refine v_aload_n E dX11_take_18 rfl ?_
    replace h := bnd_e h
    obtain ⟨v4, ev4, h⟩ := h
    refine g11_10 E ev4 dX11_take_19 ?_
    replace h := bnd_e h
    obtain ⟨r5, er5, h⟩ := h
    refine v_callV (na := 1) (As := [vR v4]) (rest := []) (ci := 5) (q := (RX5, TX5, 3)) E gw11_281 (by decide +kernel) rfl rfl (by decide) (kX5_remember l er5).2 (kX5_remember l er5).1 rfl rfl dX11_take_22 ⟨Nat.le_of_ble_eq_true rfl, Nat.le_of_ble_eq_true rfl⟩ ⟨(Nat.le_of_ble_eq_true rfl), (Nat.le_of_ble_eq_true rfl)⟩ (Nat.le_of_ble_eq_true rfl) ?_
    refine v_widen (k' := 2) (n' := 8) (Nat.le_of_ble_eq_true rfl) (Nat.le_of_ble_eq_true rfl) ?_
    refine v_aload_n E dX11_take_25 rfl ?_
    replace h := bnd_e h
    obtain ⟨v6, ev6, h⟩ := h
    refine g11_10 E ev6 dX11_take_26 ?_
    refine v_iload_n E dX11_take_29 rfl ?_
    replace h := bnd_e h
    obtain ⟨r7, er7, h⟩ := h
    refine v_callV (na := 1) (As := [vI a1]) (rest := []) (ci := 8) (q := (RX8, TX8, 2)) E gw11_285 (by decide +kernel) rfl rfl (by decide) (kX8_remove l er7).2 (kX8_remove l er7).1 rfl rfl dX11_take_30 ⟨Nat.le_of_ble_eq_true rfl, Nat.le_of_ble_eq_true rfl⟩ ⟨(Nat.le_of_ble_eq_true rfl), (Nat.le_of_ble_eq_true rfl)⟩ (Nat.le_of_ble_eq_true rfl) ?_
    refine v_aload_n E dX11_take_33 rfl ?_
    replace h := bnd_e h
    obtain ⟨v8, ev8, h⟩ := h
    refine g11_10 E ev8 dX11_take_34 ?_
    replace h := bnd_e h
    obtain ⟨r9, er9, h⟩ := h
    refine v_callV (na := 0) (As := []) (rest := []) (ci := 8) (q := (RX8, TX8, 2)) E gw11_95 (by decide +kernel) rfl rfl (by decide) (kX8_count l er9).2 (kX8_count l er9).1 rfl rfl dX11_take_37 ⟨Nat.le_of_ble_eq_true rfl, Nat.le_of_ble_eq_true rfl⟩ ⟨(Nat.le_of_ble_eq_true rfl), (Nat.le_of_ble_eq_true rfl)⟩ (Nat.le_of_ble_eq_true rfl) ?_
    replace h := Option.some.inj h
    subst h
    refine v_widen (k' := 2) (n' := 8) (Nat.le_of_ble_eq_true rfl) (Nat.le_of_ble_eq_true rfl) ?_
    exact v_iret E dX11_take_40
  · rw [if_pos c10] at h
    refine v_ldc (v := (-1000000001)) E dX11_take_11 q516 ?_
    replace h := Option.some.inj h
    subst h
    refine v_widen (k' := 2) (n' := 8) (Nat.le_of_ble_eq_true rfl) (Nat.le_of_ble_eq_true rfl) ?_
    exact v_iret E dX11_take_13
noncomputable def fX2_below (A0 : AH) (o0 : Option Nat) (a1 : Int32) : Option (Int32 × AH) :=
  (rcv A0 3 o0).bind fun o0 =>
  (gI A0 3 64 ((some o0))).bind fun v1 =>
  (pI A0 3 64 ((some o0)) ((((((((v1 : Int32).toInt64) * 1103515245) + 12345) &&& 2147483647) : Int64).toInt32))).bind fun A2 =>
  if a1 ≤ 0 then
    some ((0, A2))
  else
    (gI A2 3 64 ((some o0))).bind fun v3 =>
    (dvI v3 65536).bind fun v4 =>
    (rmI v4 a1).bind fun v5 =>
    some ((v5, A2))
set_option maxRecDepth 100000 in
set_option maxHeartbeats 4000000 in
theorem kX2_below (l : Launch) {A0 : AH} {o0 : Option Nat} {a1 : Int32} {r : Int32 × AH} (h : fX2_below A0 o0 a1 = some r) : (∃ a, o0 = some a ∧ Hk A0 a = 3) ∧ Cn l yX2_below cX2_below 2 (some .int) 0 0 0 0 [vR o0, vI a1] A0 (some (vI r.1)) r.2 := by
  unfold fX2_below at h
  replace h := bnd_e h
  obtain ⟨o1, e1, h⟩ := h
  obtain ⟨rfl, hk0⟩ := rcv_e e1
  refine ⟨⟨o1, rfl, hk0⟩, ?_⟩
  refine Cn.of (pad := 0) (lv0 := [some (vR (some o1)), some (vI a1)]) (by decide +kernel) (Nat.le_of_ble_eq_true rfl) rfl ?_
  intro p e s m below meth c base D cy E
  generalize (List.map toV [vR (some o1), vI a1]).toArray = ar at E ⊢
  have E : EN p s m ar meth c D cy RX2 cX2_below 2 (some .int) "below" := E
  refine v_aload_n E dX2_below_0 rfl ?_
  refine v_aload_n E dX2_below_1 rfl ?_
  replace h := bnd_e h
  obtain ⟨v1, ev1, h⟩ := h
  refine g2_7 E ev1 dX2_below_2 ?_
  refine v_i2l E dX2_below_5 ?_
  refine v_ldc2 (v := 1103515245) E dX2_below_6 q938 ?_
  refine v_lmul E dX2_below_9 ?_
  refine v_ldc2 (v := 12345) E dX2_below_10 q939 ?_
  refine v_ladd E dX2_below_13 ?_
  refine v_ldc2 (v := 2147483647) E dX2_below_14 q940 ?_
  refine v_land E dX2_below_17 ?_
  refine v_l2i E dX2_below_18 ?_
  replace h := bnd_e h
  obtain ⟨A2, eA2, h⟩ := h
  refine p2_7 E eA2 dX2_below_19 ?_
  refine v_iload_n E dX2_below_22 rfl ?_
  refine v_if_le (tgt := 38) E dX2_below_23 (by decide) (fun c6 => ?_) (fun c6 => ?_)
  · rw [if_pos c6] at h
    refine v_iconst (v := 0) E dX2_below_38 (by decide) ?_
    replace h := Option.some.inj h
    subst h
    refine v_widen (k' := 0) (n' := 0) (Nat.le_of_ble_eq_true rfl) (Nat.le_of_ble_eq_true rfl) ?_
    exact v_iret E dX2_below_39
  · rw [if_neg c6] at h
    refine v_aload_n E dX2_below_26 rfl ?_
    replace h := bnd_e h
    obtain ⟨v3, ev3, h⟩ := h
    refine g2_7 E ev3 dX2_below_27 ?_
    refine v_ldc (v := 65536) E dX2_below_30 q941 ?_
    replace h := bnd_e h
    obtain ⟨v4, ev4, h⟩ := h
    refine v_idiv E ev4 dX2_below_32 ?_
    refine v_iload_n E dX2_below_33 rfl ?_
    replace h := bnd_e h
    obtain ⟨v5, ev5, h⟩ := h
    refine v_irem E ev5 dX2_below_34 ?_
    refine v_goto (tgt := 39) E dX2_below_35 (by decide) ?_
    replace h := Option.some.inj h
    subst h
    refine v_widen (k' := 0) (n' := 0) (Nat.le_of_ble_eq_true rfl) (Nat.le_of_ble_eq_true rfl) ?_
    exact v_iret E dX2_below_39
noncomputable def fX1_makeEmptyPlaces (A0 : AH) (o0 : Option Nat) (a1 : Int32) : Option (AH) :=
  (rcv A0 2 o0).bind fun o0 =>
  (gR A0 2 32 ((some o0))).bind fun v1 =>
  (aL A0 14 v1).bind fun v2 =>
  (fJ9_min_7cf53 A0 a1 v2).bind fun r3 =>
  (fJ9_max_7cf53 A0 0 r3).bind fun r4 =>
  (pI A0 2 33 ((some o0)) r4).bind fun A5 =>
  (iter (S := Int32 × AH) (T := AH) (fun s6 =>
      (gI s6.2 2 33 ((some o0))).bind fun v9 =>
      if v9 ≤ s6.1 then
        some (.inr s6.2)
      else
        (gR s6.2 2 32 ((some o0))).bind fun v10 =>
        (sI s6.2 14 v10 s6.1 ((-1))).bind fun A11 =>
        some (.inl ((s6.1 + 1), A11))) (0, A5)).bind fun t7 =>
  some t7
set_option maxRecDepth 100000 in
set_option maxHeartbeats 4000000 in
theorem kX1_makeEmptyPlaces (l : Launch) {A0 : AH} {o0 : Option Nat} {a1 : Int32} {r : AH} (h : fX1_makeEmptyPlaces A0 o0 a1 = some r) : (∃ a, o0 = some a ∧ Hk A0 a = 2) ∧ Cn l yX1_makeEmptyPlaces cX1_makeEmptyPlaces 3 none 1 21 0 0 [vR o0, vI a1] A0 none r := by
  unfold fX1_makeEmptyPlaces at h
  replace h := bnd_e h
  obtain ⟨o1, e1, h⟩ := h
  obtain ⟨rfl, hk0⟩ := rcv_e e1
  refine ⟨⟨o1, rfl, hk0⟩, ?_⟩
  refine Cn.of (pad := 1) (lv0 := [some (vR (some o1)), some (vI a1), none]) (by decide +kernel) (Nat.le_of_ble_eq_true rfl) rfl ?_
  intro p e s m below meth c base D cy E
  generalize (List.map toV [vR (some o1), vI a1]).toArray = ar at E ⊢
  have E : EN p s m ar meth c D cy RX1 cX1_makeEmptyPlaces 3 none "makeEmptyPlaces" := E
  refine v_aload_n E dX1_makeEmptyPlaces_0 rfl ?_
  refine v_iconst (v := 0) E dX1_makeEmptyPlaces_1 (by decide) ?_
  refine v_iload_n E dX1_makeEmptyPlaces_2 rfl ?_
  refine v_aload_n E dX1_makeEmptyPlaces_3 rfl ?_
  replace h := bnd_e h
  obtain ⟨v1, ev1, h⟩ := h
  refine g1_9 E ev1 dX1_makeEmptyPlaces_4 ?_
  replace h := bnd_e h
  obtain ⟨v2, ev2, h⟩ := h
  refine v_alen (kd := 14) (t0 := 0) E (by decide) rfl ev2 dX1_makeEmptyPlaces_7 ?_
  replace h := bnd_e h
  obtain ⟨r3, er3, h⟩ := h
  refine v_callS (na := 2) (As := [vI a1, vI v2]) (rest := [vI 0, vR (some o1)]) E gw1_19 (by decide +kernel) (kJ9_min_7cf53 l er3) rfl rfl dX1_makeEmptyPlaces_8 ⟨Nat.le_of_ble_eq_true rfl, Nat.le_of_ble_eq_true rfl⟩ ⟨(Nat.le_of_ble_eq_true rfl), (Nat.le_of_ble_eq_true rfl)⟩ (Nat.le_of_ble_eq_true rfl) ?_
  replace h := bnd_e h
  obtain ⟨r4, er4, h⟩ := h
  refine v_callS (na := 2) (As := [vI 0, vI r3]) (rest := [vR (some o1)]) E gw1_25 (by decide +kernel) (kJ9_max_7cf53 l er4) rfl rfl dX1_makeEmptyPlaces_11 ⟨Nat.le_of_ble_eq_true rfl, Nat.le_of_ble_eq_true rfl⟩ ⟨(Nat.le_of_ble_eq_true rfl), (Nat.le_of_ble_eq_true rfl)⟩ (Nat.le_of_ble_eq_true rfl) ?_
  replace h := bnd_e h
  obtain ⟨A5, eA5, h⟩ := h
  refine p1_15 E eA5 dX1_makeEmptyPlaces_14 ?_
  refine v_iconst (v := 0) E dX1_makeEmptyPlaces_17 (by decide) ?_
  refine v_istore_n (lv' := [some (vR (some o1)), some (vI a1), some (vI 0)]) E dX1_makeEmptyPlaces_18 (by decide) rfl ?_
  refine v_drop (lv' := [some (vR (some o1)), none, some (vI 0)]) [1] rfl ?_
  replace h := bnd_e h
  obtain ⟨t7, et7, h⟩ := h
  refine iter_V (S := Int32 × AH) (T := AH) (Ph := fun s6 => V p l e { frames := 1, cells := 0, slots := 0, locals := 21 } s m ar below meth c (MQ below (Qd base D cy none r) ar s 0 0 (fun q => base ≤ q)) base D cy 3 19 [some (vR (some o1)), none, some (vI s6.1)] [] s6.2 0 0) (Pt := fun t7 => V p l e { frames := 1, cells := 0, slots := 0, locals := 21 } s m ar below meth c (MQ below (Qd base D cy none r) ar s 0 0 (fun q => base ≤ q)) base D cy 3 40 [none, none, none] [] t7 0 0) et7 (fun s6 w8 h hx => ?_) ?_
  · try dsimp only at h
    refine v_iload_n E dX1_makeEmptyPlaces_19 rfl ?_
    refine v_aload_n E dX1_makeEmptyPlaces_20 rfl ?_
    replace h := bnd_e h
    obtain ⟨v9, ev9, h⟩ := h
    refine g1_15 E ev9 dX1_makeEmptyPlaces_21 ?_
    refine v_icmp_ge (tgt := 40) E dX1_makeEmptyPlaces_24 (by decide) (fun c12 => ?_) (fun c12 => ?_)
    · rw [if_pos c12] at h
      refine v_drop (lv' := [none, none, none]) [0, 2] rfl ?_
      replace h := Option.some.inj h
      subst h
      exact hx
    · rw [if_neg c12] at h
      refine v_aload_n E dX1_makeEmptyPlaces_27 rfl ?_
      replace h := bnd_e h
      obtain ⟨v10, ev10, h⟩ := h
      refine g1_9 E ev10 dX1_makeEmptyPlaces_28 ?_
      refine v_iload_n E dX1_makeEmptyPlaces_31 rfl ?_
      refine v_iconst (v := (-1)) E dX1_makeEmptyPlaces_32 (by decide) ?_
      replace h := bnd_e h
      obtain ⟨A11, eA11, h⟩ := h
      refine v_iastore E eA11 dX1_makeEmptyPlaces_33 ?_
      refine v_iinc (v := (s6.1 + 1)) (lv' := [some (vR (some o1)), none, some (vI (s6.1 + 1))]) E dX1_makeEmptyPlaces_34 rfl (by rfl) (by decide) rfl ?_
      refine v_goto (tgt := 19) E dX1_makeEmptyPlaces_37 (by decide) ?_
      replace h := Option.some.inj h
      subst h
      exact hx
  · replace h := Option.some.inj h
    subst h
    refine v_widen (k' := 0) (n' := 0) (Nat.le_of_ble_eq_true rfl) (Nat.le_of_ble_eq_true rfl) ?_
    exact v_vret E dX1_makeEmptyPlaces_40
noncomputable def fX1_putInEmpty (A0 : AH) (o0 : Option Nat) (a1 : Int32) (a2 : Int32) : Option (AH) :=
  (rcv A0 2 o0).bind fun o0 =>
  (iter (S := Int32 × Int32 × AH) (T := (AH) ⊕ (AH)) (fun s1 =>
      (gI s1.2.2 2 33 ((some o0))).bind fun v4 =>
      if v4 ≤ s1.2.1 then
        some (.inr (.inl s1.2.2))
      else
        (gR s1.2.2 2 32 ((some o0))).bind fun v5 =>
        (aI s1.2.2 14 v5 s1.2.1).bind fun v6 =>
        jp (fun (x12 : Int32) =>
          some (.inl (x12, (s1.2.1 + 1), s1.2.2))) fun K7 =>
          if v6 = (-1) then
            if s1.1 = 0 then
              (gR s1.2.2 2 32 ((some o0))).bind fun v8 =>
              (sI s1.2.2 14 v8 s1.2.1 a2).bind fun A9 =>
              some (.inr (.inr A9))
            else
              K7 ((s1.1 + (-1)))
          else
            K7 s1.1) (a1, 0, A0)).bind fun t2 =>
  sm t2 (fun t2 =>
    some t2) (fun r => some r)
set_option maxRecDepth 100000 in
set_option maxHeartbeats 4000000 in
theorem kX1_putInEmpty (l : Launch) {A0 : AH} {o0 : Option Nat} {a1 : Int32} {a2 : Int32} {r : AH} (h : fX1_putInEmpty A0 o0 a1 a2 = some r) : (∃ a, o0 = some a ∧ Hk A0 a = 2) ∧ Cn l yX1_putInEmpty cX1_putInEmpty 5 none 0 0 0 0 [vR o0, vI a1, vI a2] A0 none r := by
  unfold fX1_putInEmpty at h
  replace h := bnd_e h
  obtain ⟨o1, e1, h⟩ := h
  obtain ⟨rfl, hk0⟩ := rcv_e e1
  refine ⟨⟨o1, rfl, hk0⟩, ?_⟩
  refine Cn.of (pad := 2) (lv0 := [some (vR (some o1)), some (vI a1), some (vI a2), none, none]) (by decide +kernel) (Nat.le_of_ble_eq_true rfl) rfl ?_
  intro p e s m below meth c base D cy E
  generalize (List.map toV [vR (some o1), vI a1, vI a2]).toArray = ar at E ⊢
  have E : EN p s m ar meth c D cy RX1 cX1_putInEmpty 5 none "putInEmpty" := E
  refine v_iload_n E dX1_putInEmpty_0 rfl ?_
  refine v_istore_n (lv' := [some (vR (some o1)), some (vI a1), some (vI a2), some (vI a1), none]) E dX1_putInEmpty_1 (by decide) rfl ?_
  refine v_iconst (v := 0) E dX1_putInEmpty_2 (by decide) ?_
  refine v_istore (lv' := [some (vR (some o1)), some (vI a1), some (vI a2), some (vI a1), some (vI 0)]) E dX1_putInEmpty_3 (by decide) rfl ?_
  refine v_drop (lv' := [some (vR (some o1)), none, some (vI a2), some (vI a1), some (vI 0)]) [1] rfl ?_
  replace h := bnd_e h
  obtain ⟨t2, et2, h⟩ := h
  refine iter_V (S := Int32 × Int32 × AH) (T := (AH) ⊕ (AH)) (Ph := fun s1 => V p l e { frames := 0, cells := 0, slots := 0, locals := 0 } s m ar below meth c (MQ below (Qd base D cy none r) ar s 0 0 (fun q => base ≤ q)) base D cy 5 5 [some (vR (some o1)), none, some (vI a2), some (vI s1.1), some (vI s1.2.1)] [] s1.2.2 0 0) (Pt := itM (fun t2 => V p l e { frames := 0, cells := 0, slots := 0, locals := 0 } s m ar below meth c (MQ below (Qd base D cy none r) ar s 0 0 (fun q => base ≤ q)) base D cy 5 47 [none, none, none, none, none] [] t2 0 0) (fun z => z = r)) et2 (fun s1 w3 h hx => ?_) ?_
  · try dsimp only at h
    refine v_iload E dX1_putInEmpty_5 rfl ?_
    refine v_aload_n E dX1_putInEmpty_7 rfl ?_
    replace h := bnd_e h
    obtain ⟨v4, ev4, h⟩ := h
    refine g1_15 E ev4 dX1_putInEmpty_8 ?_
    refine v_icmp_ge (tgt := 47) E dX1_putInEmpty_11 (by decide) (fun c13 => ?_) (fun c13 => ?_)
    · rw [if_pos c13] at h
      refine v_drop (lv' := [none, none, none, none, none]) [0, 2, 3, 4] rfl ?_
      replace h := Option.some.inj h
      subst h
      exact hx
    · rw [if_neg c13] at h
      refine v_aload_n E dX1_putInEmpty_14 rfl ?_
      replace h := bnd_e h
      obtain ⟨v5, ev5, h⟩ := h
      refine g1_9 E ev5 dX1_putInEmpty_15 ?_
      refine v_iload E dX1_putInEmpty_18 rfl ?_
      replace h := bnd_e h
      obtain ⟨v6, ev6, h⟩ := h
      refine v_iaload E ev6 dX1_putInEmpty_20 ?_
      refine v_iconst (v := (-1)) E dX1_putInEmpty_21 (by decide) ?_
      refine jp_use h (fun K7 eK7 h => ?_)
      have hK7 : ∀ x12 : Int32, K7 x12 = some w3 → V p l e { frames := 0, cells := 0, slots := 0, locals := 0 } s m ar below meth c (MQ below (Qd base D cy none r) ar s 0 0 (fun q => base ≤ q)) base D cy 5 41 [some (vR (some o1)), none, some (vI a2), some (vI x12), some (vI s1.2.1)] [] s1.2.2 0 0 := by
        intro x12 h
        rw [eK7] at h
        try dsimp only at h
        refine v_iinc (v := (s1.2.1 + 1)) (lv' := [some (vR (some o1)), none, some (vI a2), some (vI x12), some (vI (s1.2.1 + 1))]) E dX1_putInEmpty_41 rfl (by rfl) (by decide) rfl ?_
        refine v_goto (tgt := 5) E dX1_putInEmpty_44 (by decide) ?_
        replace h := Option.some.inj h
        subst h
        exact hx
      refine v_icmp_ne (tgt := 41) E dX1_putInEmpty_22 (by decide) (fun c11 => ?_) (fun c11 => ?_)
      · rw [if_neg c11] at h
        exact hK7 s1.1 h
      · rw [if_pos c11] at h
        refine v_iload_n E dX1_putInEmpty_25 rfl ?_
        refine v_if_ne (tgt := 38) E dX1_putInEmpty_26 (by decide) (fun c10 => ?_) (fun c10 => ?_)
        · rw [if_neg c10] at h
          refine v_iinc (v := (s1.1 + (-1))) (lv' := [some (vR (some o1)), none, some (vI a2), some (vI (s1.1 + (-1))), some (vI s1.2.1)]) E dX1_putInEmpty_38 rfl (by rfl) (by decide) rfl ?_
          exact hK7 ((s1.1 + (-1))) h
        · rw [if_pos c10] at h
          refine v_aload_n E dX1_putInEmpty_29 rfl ?_
          replace h := bnd_e h
          obtain ⟨v8, ev8, h⟩ := h
          refine g1_9 E ev8 dX1_putInEmpty_30 ?_
          refine v_iload E dX1_putInEmpty_33 rfl ?_
          refine v_iload_n E dX1_putInEmpty_35 rfl ?_
          replace h := bnd_e h
          obtain ⟨A9, eA9, h⟩ := h
          refine v_iastore E eA9 dX1_putInEmpty_36 ?_
          replace h := Option.some.inj h
          subst h
          have hx : _ = r := hx
          subst hx
          refine v_widen (k' := 0) (n' := 0) (Nat.le_of_ble_eq_true rfl) (Nat.le_of_ble_eq_true rfl) ?_
          exact v_vret E dX1_putInEmpty_37
  · cases t2 with
    | inl t2 =>
      dsimp only [sm] at h
      replace h := Option.some.inj h
      subst h
      refine v_widen (k' := 0) (n' := 0) (Nat.le_of_ble_eq_true rfl) (Nat.le_of_ble_eq_true rfl) ?_
      exact v_vret E dX1_putInEmpty_47
    | inr z =>
      exact Option.some.inj h
noncomputable def fX2_writeRow (A0 : AH) (o0 : Option Nat) (a1 : Option Nat) : Option (AH) :=
  (rcv A0 3 o0).bind fun o0 =>
  (fX2_below A0 ((some o0)) 7).bind fun r1 =>
  (fX1_makeEmptyPlaces r1.2 a1 ((2 * (r1.1 + 2)))).bind fun r2 =>
  (iter (S := Int32 × AH) (T := AH) (fun s3 =>
      if (2 * (r1.1 + 2)) ≤ s3.1 then
        some (.inr s3.2)
      else
        (fX2_below s3.2 ((some o0)) (((2 * (r1.1 + 2)) - s3.1))).bind fun r6 =>
        (dvI s3.1 2).bind fun v7 =>
        (fX1_putInEmpty r6.2 a1 r6.1 v7).bind fun r8 =>
        some (.inl ((s3.1 + 1), r8))) (0, r2)).bind fun t4 =>
  some t4
set_option maxRecDepth 100000 in
set_option maxHeartbeats 4000000 in
theorem kX2_writeRow (l : Launch) {A0 : AH} {o0 : Option Nat} {a1 : Option Nat} {r : AH} (h : fX2_writeRow A0 o0 a1 = some r) : (∃ a, o0 = some a ∧ Hk A0 a = 3) ∧ Cn l yX2_writeRow cX2_writeRow 4 none 2 43 0 0 [vR o0, vR a1] A0 none r := by
  unfold fX2_writeRow at h
  replace h := bnd_e h
  obtain ⟨o1, e1, h⟩ := h
  obtain ⟨rfl, hk0⟩ := rcv_e e1
  refine ⟨⟨o1, rfl, hk0⟩, ?_⟩
  refine Cn.of (pad := 2) (lv0 := [some (vR (some o1)), some (vR a1), none, none]) (by decide +kernel) (Nat.le_of_ble_eq_true rfl) rfl ?_
  intro p e s m below meth c base D cy E
  generalize (List.map toV [vR (some o1), vR a1]).toArray = ar at E ⊢
  have E : EN p s m ar meth c D cy RX2 cX2_writeRow 4 none "writeRow" := E
  refine v_aload_n E dX2_writeRow_0 rfl ?_
  refine v_bipush (v := 7) E dX2_writeRow_1 (by decide) ?_
  replace h := bnd_e h
  obtain ⟨r1, er1, h⟩ := h
  refine v_callV (na := 1) (As := [vI 7]) (rest := []) (ci := 2) (q := (RX2, TX2, 1)) E gw2_20 (by decide +kernel) rfl rfl (by decide) (kX2_below l er1).2 (kX2_below l er1).1 rfl rfl dX2_writeRow_3 ⟨Nat.le_of_ble_eq_true rfl, Nat.le_of_ble_eq_true rfl⟩ ⟨(Nat.le_of_ble_eq_true rfl), (Nat.le_of_ble_eq_true rfl)⟩ (Nat.le_of_ble_eq_true rfl) ?_
  refine v_iconst (v := 2) E dX2_writeRow_6 (by decide) ?_
  refine v_iadd E dX2_writeRow_7 ?_
  refine v_istore_n (lv' := [some (vR (some o1)), some (vR a1), some (vI (r1.1 + 2)), none]) E dX2_writeRow_8 (by decide) rfl ?_
  refine v_aload_n E dX2_writeRow_9 rfl ?_
  refine v_iconst (v := 2) E dX2_writeRow_10 (by decide) ?_
  refine v_iload_n E dX2_writeRow_11 rfl ?_
  refine v_imul E dX2_writeRow_12 ?_
  replace h := bnd_e h
  obtain ⟨r2, er2, h⟩ := h
  refine v_callV (na := 1) (As := [vI (2 * (r1.1 + 2))]) (rest := []) (ci := 1) (q := (RX1, TX1, 2)) E gw2_24 (by decide +kernel) rfl rfl (by decide) (kX1_makeEmptyPlaces l er2).2 (kX1_makeEmptyPlaces l er2).1 rfl rfl dX2_writeRow_13 ⟨Nat.le_of_ble_eq_true rfl, Nat.le_of_ble_eq_true rfl⟩ ⟨(Nat.le_of_ble_eq_true rfl), (Nat.le_of_ble_eq_true rfl)⟩ (Nat.le_of_ble_eq_true rfl) ?_
  refine v_iconst (v := 0) E dX2_writeRow_16 (by decide) ?_
  refine v_istore_n (lv' := [some (vR (some o1)), some (vR a1), some (vI (r1.1 + 2)), some (vI 0)]) E dX2_writeRow_17 (by decide) rfl ?_
  replace h := bnd_e h
  obtain ⟨t4, et4, h⟩ := h
  refine iter_V (S := Int32 × AH) (T := AH) (Ph := fun s3 => V p l e { frames := 2, cells := 0, slots := 0, locals := 43 } s m ar below meth c (MQ below (Qd base D cy none r) ar s 0 0 (fun q => base ≤ q)) base D cy 4 18 [some (vR (some o1)), some (vR a1), some (vI (r1.1 + 2)), some (vI s3.1)] [] s3.2 0 0) (Pt := fun t4 => V p l e { frames := 2, cells := 0, slots := 0, locals := 43 } s m ar below meth c (MQ below (Qd base D cy none r) ar s 0 0 (fun q => base ≤ q)) base D cy 4 47 [none, none, none, none] [] t4 0 0) et4 (fun s3 w5 h hx => ?_) ?_
  · try dsimp only at h
    refine v_iload_n E dX2_writeRow_18 rfl ?_
    refine v_iconst (v := 2) E dX2_writeRow_19 (by decide) ?_
    refine v_iload_n E dX2_writeRow_20 rfl ?_
    refine v_imul E dX2_writeRow_21 ?_
    refine v_icmp_ge (tgt := 47) E dX2_writeRow_22 (by decide) (fun c9 => ?_) (fun c9 => ?_)
    · rw [if_pos c9] at h
      refine v_drop (lv' := [none, none, none, none]) [0, 1, 2, 3] rfl ?_
      replace h := Option.some.inj h
      subst h
      exact hx
    · rw [if_neg c9] at h
      refine v_aload_n E dX2_writeRow_25 rfl ?_
      refine v_aload_n E dX2_writeRow_26 rfl ?_
      refine v_iconst (v := 2) E dX2_writeRow_27 (by decide) ?_
      refine v_iload_n E dX2_writeRow_28 rfl ?_
      refine v_imul E dX2_writeRow_29 ?_
      refine v_iload_n E dX2_writeRow_30 rfl ?_
      refine v_isub E dX2_writeRow_31 ?_
      replace h := bnd_e h
      obtain ⟨r6, er6, h⟩ := h
      refine v_callV (na := 1) (As := [vI ((2 * (r1.1 + 2)) - s3.1)]) (rest := [vR a1]) (ci := 2) (q := (RX2, TX2, 1)) E gw2_20 (by decide +kernel) rfl rfl (by decide) (kX2_below l er6).2 (kX2_below l er6).1 rfl rfl dX2_writeRow_32 ⟨Nat.le_of_ble_eq_true rfl, Nat.le_of_ble_eq_true rfl⟩ ⟨(Nat.le_of_ble_eq_true rfl), (Nat.le_of_ble_eq_true rfl)⟩ (Nat.le_of_ble_eq_true rfl) ?_
      refine v_iload_n E dX2_writeRow_35 rfl ?_
      refine v_iconst (v := 2) E dX2_writeRow_36 (by decide) ?_
      replace h := bnd_e h
      obtain ⟨v7, ev7, h⟩ := h
      refine v_idiv E ev7 dX2_writeRow_37 ?_
      replace h := bnd_e h
      obtain ⟨r8, er8, h⟩ := h
      refine v_callV (na := 2) (As := [vI r6.1, vI v7]) (rest := []) (ci := 1) (q := (RX1, TX1, 2)) E gw2_30 (by decide +kernel) rfl rfl (by decide) (kX1_putInEmpty l er8).2 (kX1_putInEmpty l er8).1 rfl rfl dX2_writeRow_38 ⟨Nat.le_of_ble_eq_true rfl, Nat.le_of_ble_eq_true rfl⟩ ⟨(Nat.le_of_ble_eq_true rfl), (Nat.le_of_ble_eq_true rfl)⟩ (Nat.le_of_ble_eq_true rfl) ?_
      refine v_iinc (v := (s3.1 + 1)) (lv' := [some (vR (some o1)), some (vR a1), some (vI (r1.1 + 2)), some (vI (s3.1 + 1))]) E dX2_writeRow_41 rfl (by rfl) (by decide) rfl ?_
      refine v_goto (tgt := 18) E dX2_writeRow_44 (by decide) ?_
      replace h := Option.some.inj h
      subst h
      exact hx
  · replace h := Option.some.inj h
    subst h
    refine v_widen (k' := 0) (n' := 0) (Nat.le_of_ble_eq_true rfl) (Nat.le_of_ble_eq_true rfl) ?_
    exact v_vret E dX2_writeRow_47
noncomputable def fX11_drift (A0 : AH) (o0 : Option Nat) (a1 : Int32) : Option (Int32 × AH) :=
  (rcv A0 12 o0).bind fun o0 =>
  if a1 < 1 then
    some (((-1000000002), A0))
  else
    if a1 ≤ 6 then
      (itN (S := Int32 × AH) (T := AH) (fun s1 =>
          if a1 ≤ s1.1 then
            some (.inr s1.2)
          else
            (gR s1.2 12 352 ((some o0))).bind fun v6 =>
            (fX8_isFull s1.2 v6).bind fun r7 =>
            if r7 = 0 then
              (gR s1.2 12 357 ((some o0))).bind fun v8 =>
              (gR s1.2 12 358 ((some o0))).bind fun v9 =>
              (fX2_writeRow s1.2 v8 v9).bind fun r10 =>
              (fX11_comesAsWord r10 ((some o0))).bind fun r11 =>
              some (.inl ((s1.1 + 1), r11.2))
            else
              some (.inr s1.2)) 7 (0, A0)).bind fun t2 =>
      (gR t2 12 352 ((some o0))).bind fun v14 =>
      (fX8_count t2 v14).bind fun r15 =>
      some ((r15, t2))
    else
      some (((-1000000002), A0))
set_option maxRecDepth 100000 in
set_option maxHeartbeats 4000000 in
theorem kX11_drift (l : Launch) {A0 : AH} {o0 : Option Nat} {a1 : Int32} {r : Int32 × AH} (h : fX11_drift A0 o0 a1 = some r) : (∃ a, o0 = some a ∧ Hk A0 a = 12) ∧ Cn l yX11_drift cX11_drift 3 (some .int) 4 84 63 525 [vR o0, vI a1] A0 (some (vI r.1)) r.2 := by
  unfold fX11_drift at h
  replace h := bnd_e h
  obtain ⟨o1, e1, h⟩ := h
  obtain ⟨rfl, hk0⟩ := rcv_e e1
  refine ⟨⟨o1, rfl, hk0⟩, ?_⟩
  refine Cn.of (pad := 1) (lv0 := [some (vR (some o1)), some (vI a1), none]) (by decide +kernel) (Nat.le_of_ble_eq_true rfl) rfl ?_
  intro p e s m below meth c base D cy E
  generalize (List.map toV [vR (some o1), vI a1]).toArray = ar at E ⊢
  have E : EN p s m ar meth c D cy RX11 cX11_drift 3 (some .int) "drift" := E
  refine v_iload_n E dX11_drift_0 rfl ?_
  refine v_iconst (v := 1) E dX11_drift_1 (by decide) ?_
  refine v_icmp_lt (tgt := 11) E dX11_drift_2 (by decide) (fun c18 => ?_) (fun c18 => ?_)
  · rw [if_pos c18] at h
    refine v_ldc (v := (-1000000002)) E dX11_drift_11 q262 ?_
    replace h := Option.some.inj h
    subst h
    refine v_widen (k' := 63) (n' := 525) (Nat.le_of_ble_eq_true rfl) (Nat.le_of_ble_eq_true rfl) ?_
    exact v_iret E dX11_drift_13
  · rw [if_neg c18] at h
    refine v_iload_n E dX11_drift_5 rfl ?_
    refine v_bipush (v := 6) E dX11_drift_6 (by decide) ?_
    refine v_icmp_le (tgt := 14) E dX11_drift_8 (by decide) (fun c17 => ?_) (fun c17 => ?_)
    · rw [if_pos c17] at h
      refine v_iconst (v := 0) E dX11_drift_14 (by decide) ?_
      refine v_istore_n (lv' := [some (vR (some o1)), some (vI a1), some (vI 0)]) E dX11_drift_15 (by decide) rfl ?_
      replace h := bnd_e h
      obtain ⟨t2, et2, h⟩ := h
      refine itB_V (S := Int32 × AH) (T := AH) (c := 9) (d := 75) (Ph := fun k4 n5 s1 => V p l e { frames := 4, cells := 63, slots := 525, locals := 84 } s m ar below meth c (MQ below (Qd base D cy (some (vI r.1)) r.2) ar s 63 525 (fun q => base ≤ q)) base D cy 3 16 [some (vR (some o1)), some (vI a1), some (vI s1.1)] [] s1.2 k4 n5) (Pt := fun t2 => V p l e { frames := 4, cells := 63, slots := 525, locals := 84 } s m ar below meth c (MQ below (Qd base D cy (some (vI r.1)) r.2) ar s 63 525 (fun q => base ≤ q)) base D cy 3 53 [some (vR (some o1)), none, none] [] t2 63 525) 7 et2 (fun k4 n5 s1 w3 hkq hnq h hx => ?_) ?_
      · try dsimp only at h
        refine v_iload_n E dX11_drift_16 rfl ?_
        refine v_iload_n E dX11_drift_17 rfl ?_
        refine v_icmp_ge (tgt := 53) E dX11_drift_18 (by decide) (fun c13 => ?_) (fun c13 => ?_)
        · rw [if_pos c13] at h
          refine v_drop (lv' := [some (vR (some o1)), none, none]) [1, 2] rfl ?_
          refine v_widen (k' := 63) (n' := 525) (by omega) (by omega) ?_
          replace h := Option.some.inj h
          subst h
          exact hx
        · rw [if_neg c13] at h
          refine v_aload_n E dX11_drift_21 rfl ?_
          replace h := bnd_e h
          obtain ⟨v6, ev6, h⟩ := h
          refine g11_10 E ev6 dX11_drift_22 ?_
          replace h := bnd_e h
          obtain ⟨r7, er7, h⟩ := h
          refine v_callV (na := 0) (As := []) (rest := []) (ci := 8) (q := (RX8, TX8, 2)) E gw11_75 (by decide +kernel) rfl rfl (by decide) (kX8_isFull l er7).2 (kX8_isFull l er7).1 rfl rfl dX11_drift_25 ⟨Nat.le_of_ble_eq_true rfl, Nat.le_of_ble_eq_true rfl⟩ ⟨(by dsimp only; omega), (by dsimp only; omega)⟩ (Nat.le_of_ble_eq_true rfl) ?_
          refine v_if_ne (tgt := 53) E dX11_drift_28 (by decide) (fun c12 => ?_) (fun c12 => ?_)
          · rw [if_neg c12] at h
            refine v_drop (lv' := [some (vR (some o1)), none, none]) [1, 2] rfl ?_
            refine v_widen (k' := 63) (n' := 525) (by omega) (by omega) ?_
            replace h := Option.some.inj h
            subst h
            exact hx
          · rw [if_pos c12] at h
            refine v_aload_n E dX11_drift_31 rfl ?_
            replace h := bnd_e h
            obtain ⟨v8, ev8, h⟩ := h
            refine g11_47 E ev8 dX11_drift_32 ?_
            refine v_aload_n E dX11_drift_35 rfl ?_
            replace h := bnd_e h
            obtain ⟨v9, ev9, h⟩ := h
            refine g11_54 E ev9 dX11_drift_36 ?_
            replace h := bnd_e h
            obtain ⟨r10, er10, h⟩ := h
            refine v_callV (na := 1) (As := [vR v9]) (rest := []) (ci := 2) (q := (RX2, TX2, 1)) E gw11_289 (by decide +kernel) rfl rfl (by decide) (kX2_writeRow l er10).2 (kX2_writeRow l er10).1 rfl rfl dX11_drift_39 ⟨Nat.le_of_ble_eq_true rfl, Nat.le_of_ble_eq_true rfl⟩ ⟨(by dsimp only; omega), (by dsimp only; omega)⟩ (Nat.le_of_ble_eq_true rfl) ?_
            refine v_aload_n E dX11_drift_42 rfl ?_
            replace h := bnd_e h
            obtain ⟨r11, er11, h⟩ := h
            refine v_callV (na := 0) (As := []) (rest := []) (ci := 11) (q := (RX11, TX11, 8)) E gw11_89 (by decide +kernel) rfl rfl (by decide) (kX11_comesAsWord l er11).2 (kX11_comesAsWord l er11).1 rfl rfl dX11_drift_43 ⟨Nat.le_of_ble_eq_true rfl, Nat.le_of_ble_eq_true rfl⟩ ⟨(by dsimp only; omega), (by dsimp only; omega)⟩ (Nat.le_of_ble_eq_true rfl) ?_
            refine v_widen (k' := (k4 + 9)) (n' := (n5 + 75)) (by omega) (by omega) ?_
            refine v_pop E dX11_drift_46 rfl ?_
            refine v_iinc (v := (s1.1 + 1)) (lv' := [some (vR (some o1)), some (vI a1), some (vI (s1.1 + 1))]) E dX11_drift_47 rfl (by rfl) (by decide) rfl ?_
            refine v_goto (tgt := 16) E dX11_drift_50 (by decide) ?_
            refine v_widen (k' := k4 + 9) (n' := n5 + 75) (by omega) (by omega) ?_
            replace h := Option.some.inj h
            subst h
            exact hx
      · refine v_aload_n E dX11_drift_53 rfl ?_
        replace h := bnd_e h
        obtain ⟨v14, ev14, h⟩ := h
        refine g11_10 E ev14 dX11_drift_54 ?_
        replace h := bnd_e h
        obtain ⟨r15, er15, h⟩ := h
        refine v_callV (na := 0) (As := []) (rest := []) (ci := 8) (q := (RX8, TX8, 2)) E gw11_95 (by decide +kernel) rfl rfl (by decide) (kX8_count l er15).2 (kX8_count l er15).1 rfl rfl dX11_drift_57 ⟨Nat.le_of_ble_eq_true rfl, Nat.le_of_ble_eq_true rfl⟩ ⟨(Nat.le_of_ble_eq_true rfl), (Nat.le_of_ble_eq_true rfl)⟩ (Nat.le_of_ble_eq_true rfl) ?_
        replace h := Option.some.inj h
        subst h
        refine v_widen (k' := 63) (n' := 525) (Nat.le_of_ble_eq_true rfl) (Nat.le_of_ble_eq_true rfl) ?_
        exact v_iret E dX11_drift_60
    · rw [if_neg c17] at h
      refine v_ldc (v := (-1000000002)) E dX11_drift_11 q262 ?_
      replace h := Option.some.inj h
      subst h
      refine v_widen (k' := 63) (n' := 525) (Nat.le_of_ble_eq_true rfl) (Nat.le_of_ble_eq_true rfl) ?_
      exact v_iret E dX11_drift_13
noncomputable def fX5_restore (A0 : AH) (o0 : Option Nat) (a1 : Int32) (a2 : Option Nat) : Option (Int32 × AH) :=
  (rcv A0 6 o0).bind fun o0 =>
  if a1 < 1 then
    some ((0, A0))
  else
    (gI A0 6 162 ((some o0))).bind fun v1 =>
    if a1 ≤ v1 then
      (gR A0 6 160 ((some o0))).bind fun v2 =>
      (gI A0 6 161 ((some o0))).bind fun v3 =>
      (fJ9_floorMod_7cf53 A0 (((v3 - a1) + 1)) 16).bind fun r4 =>
      (aR A0 17 v2 r4).bind fun v5 =>
      if v5 = none then
        some ((0, A0))
      else
        (fX8_copyFrom A0 a2 v5).bind fun r6 =>
        (gI r6 6 161 ((some o0))).bind fun v7 =>
        (fJ9_floorMod_7cf53 r6 ((v7 - a1)) 16).bind fun r8 =>
        (pI r6 6 161 ((some o0)) r8).bind fun A9 =>
        (gI A9 6 162 ((some o0))).bind fun v10 =>
        (pI A9 6 162 ((some o0)) ((v10 - a1))).bind fun A11 =>
        some ((1, A11))
    else
      some ((0, A0))
set_option maxRecDepth 100000 in
set_option maxHeartbeats 4000000 in
theorem kX5_restore (l : Launch) {A0 : AH} {o0 : Option Nat} {a1 : Int32} {a2 : Option Nat} {r : Int32 × AH} (h : fX5_restore A0 o0 a1 a2 = some r) : (∃ a, o0 = some a ∧ Hk A0 a = 6) ∧ Cn l yX5_restore cX5_restore 4 (some .boolean) 2 43 0 0 [vR o0, vI a1, vR a2] A0 (some (vI r.1)) r.2 := by
  unfold fX5_restore at h
  replace h := bnd_e h
  obtain ⟨o1, e1, h⟩ := h
  obtain ⟨rfl, hk0⟩ := rcv_e e1
  refine ⟨⟨o1, rfl, hk0⟩, ?_⟩
  refine Cn.of (pad := 1) (lv0 := [some (vR (some o1)), some (vI a1), some (vR a2), none]) (by decide +kernel) (Nat.le_of_ble_eq_true rfl) rfl ?_
  intro p e s m below meth c base D cy E
  generalize (List.map toV [vR (some o1), vI a1, vR a2]).toArray = ar at E ⊢
  have E : EN p s m ar meth c D cy RX5 cX5_restore 4 (some .boolean) "restore" := E
  refine v_iload_n E dX5_restore_0 rfl ?_
  refine v_iconst (v := 1) E dX5_restore_1 (by decide) ?_
  refine v_icmp_lt (tgt := 13) E dX5_restore_2 (by decide) (fun c14 => ?_) (fun c14 => ?_)
  · rw [if_pos c14] at h
    refine v_iconst (v := 0) E dX5_restore_13 (by decide) ?_
    replace h := Option.some.inj h
    subst h
    refine v_widen (k' := 0) (n' := 0) (Nat.le_of_ble_eq_true rfl) (Nat.le_of_ble_eq_true rfl) ?_
    exact v_zret E (Or.inl rfl) dX5_restore_14
  · rw [if_neg c14] at h
    refine v_iload_n E dX5_restore_5 rfl ?_
    refine v_aload_n E dX5_restore_6 rfl ?_
    replace h := bnd_e h
    obtain ⟨v1, ev1, h⟩ := h
    refine g5_21 E ev1 dX5_restore_7 ?_
    refine v_icmp_le (tgt := 15) E dX5_restore_10 (by decide) (fun c13 => ?_) (fun c13 => ?_)
    · rw [if_pos c13] at h
      refine v_aload_n E dX5_restore_15 rfl ?_
      replace h := bnd_e h
      obtain ⟨v2, ev2, h⟩ := h
      refine g5_11 E ev2 dX5_restore_16 ?_
      refine v_aload_n E dX5_restore_19 rfl ?_
      replace h := bnd_e h
      obtain ⟨v3, ev3, h⟩ := h
      refine g5_17 E ev3 dX5_restore_20 ?_
      refine v_iload_n E dX5_restore_23 rfl ?_
      refine v_isub E dX5_restore_24 ?_
      refine v_iconst (v := 1) E dX5_restore_25 (by decide) ?_
      refine v_iadd E dX5_restore_26 ?_
      refine v_bipush (v := 16) E dX5_restore_27 (by decide) ?_
      replace h := bnd_e h
      obtain ⟨r4, er4, h⟩ := h
      refine v_callS (na := 2) (As := [vI ((v3 - a1) + 1), vI 16]) (rest := [vR v2]) E gw5_35 (by decide +kernel) (kJ9_floorMod_7cf53 l er4) rfl rfl dX5_restore_29 ⟨Nat.le_of_ble_eq_true rfl, Nat.le_of_ble_eq_true rfl⟩ ⟨(Nat.le_of_ble_eq_true rfl), (Nat.le_of_ble_eq_true rfl)⟩ (Nat.le_of_ble_eq_true rfl) ?_
      replace h := bnd_e h
      obtain ⟨v5, ev5, h⟩ := h
      refine v_aaload (kd := 17) (t0 := 3) E (by decide) rfl ev5 dX5_restore_32 ?_
      refine v_astore_n (lv' := [some (vR (some o1)), some (vI a1), some (vR a2), some (vR v5)]) E dX5_restore_33 (by decide) rfl ?_
      refine v_aload_n E dX5_restore_34 rfl ?_
      refine v_ifnonnull (tgt := 40) E dX5_restore_35 (by decide) (fun c12 => ?_) (fun c12 => ?_)
      · rw [if_neg c12] at h
        refine v_aload_n E dX5_restore_40 rfl ?_
        refine v_aload_n E dX5_restore_41 rfl ?_
        replace h := bnd_e h
        obtain ⟨r6, er6, h⟩ := h
        refine v_callV (na := 1) (As := [vR v5]) (rest := []) (ci := 8) (q := (RX8, TX8, 2)) E gw5_25 (by decide +kernel) rfl rfl (by decide) (kX8_copyFrom l er6).2 (kX8_copyFrom l er6).1 rfl rfl dX5_restore_42 ⟨Nat.le_of_ble_eq_true rfl, Nat.le_of_ble_eq_true rfl⟩ ⟨(Nat.le_of_ble_eq_true rfl), (Nat.le_of_ble_eq_true rfl)⟩ (Nat.le_of_ble_eq_true rfl) ?_
        refine v_aload_n E dX5_restore_45 rfl ?_
        refine v_aload_n E dX5_restore_46 rfl ?_
        replace h := bnd_e h
        obtain ⟨v7, ev7, h⟩ := h
        refine g5_17 E ev7 dX5_restore_47 ?_
        refine v_iload_n E dX5_restore_50 rfl ?_
        refine v_isub E dX5_restore_51 ?_
        refine v_bipush (v := 16) E dX5_restore_52 (by decide) ?_
        replace h := bnd_e h
        obtain ⟨r8, er8, h⟩ := h
        refine v_callS (na := 2) (As := [vI (v7 - a1), vI 16]) (rest := [vR (some o1)]) E gw5_35 (by decide +kernel) (kJ9_floorMod_7cf53 l er8) rfl rfl dX5_restore_54 ⟨Nat.le_of_ble_eq_true rfl, Nat.le_of_ble_eq_true rfl⟩ ⟨(Nat.le_of_ble_eq_true rfl), (Nat.le_of_ble_eq_true rfl)⟩ (Nat.le_of_ble_eq_true rfl) ?_
        replace h := bnd_e h
        obtain ⟨A9, eA9, h⟩ := h
        refine p5_17 E eA9 dX5_restore_57 ?_
        refine v_aload_n E dX5_restore_60 rfl ?_
        refine v_dup E dX5_restore_61 rfl ?_
        replace h := bnd_e h
        obtain ⟨v10, ev10, h⟩ := h
        refine g5_21 E ev10 dX5_restore_62 ?_
        refine v_iload_n E dX5_restore_65 rfl ?_
        refine v_isub E dX5_restore_66 ?_
        replace h := bnd_e h
        obtain ⟨A11, eA11, h⟩ := h
        refine p5_21 E eA11 dX5_restore_67 ?_
        refine v_iconst (v := 1) E dX5_restore_70 (by decide) ?_
        replace h := Option.some.inj h
        subst h
        refine v_widen (k' := 0) (n' := 0) (Nat.le_of_ble_eq_true rfl) (Nat.le_of_ble_eq_true rfl) ?_
        exact v_zret E (Or.inr rfl) dX5_restore_71
      · rw [if_pos c12] at h
        refine v_iconst (v := 0) E dX5_restore_38 (by decide) ?_
        replace h := Option.some.inj h
        subst h
        refine v_widen (k' := 0) (n' := 0) (Nat.le_of_ble_eq_true rfl) (Nat.le_of_ble_eq_true rfl) ?_
        exact v_zret E (Or.inl rfl) dX5_restore_39
    · rw [if_neg c13] at h
      refine v_iconst (v := 0) E dX5_restore_13 (by decide) ?_
      replace h := Option.some.inj h
      subst h
      refine v_widen (k' := 0) (n' := 0) (Nat.le_of_ble_eq_true rfl) (Nat.le_of_ble_eq_true rfl) ?_
      exact v_zret E (Or.inl rfl) dX5_restore_14
noncomputable def fX11_undo (A0 : AH) (o0 : Option Nat) (a1 : Int32) : Option (Int32 × AH) :=
  (rcv A0 12 o0).bind fun o0 =>
  if a1 < 1 then
    some (((-1000000002), A0))
  else
    if a1 ≤ 16 then
      (gR A0 12 355 ((some o0))).bind fun v1 =>
      (gR A0 12 352 ((some o0))).bind fun v2 =>
      (fX5_restore A0 v1 a1 v2).bind fun r3 =>
      if r3.1 = 0 then
        some (((-1000000003), r3.2))
      else
        (gR r3.2 12 352 ((some o0))).bind fun v4 =>
        (fX8_count r3.2 v4).bind fun r5 =>
        some ((r5, r3.2))
    else
      some (((-1000000002), A0))
set_option maxRecDepth 100000 in
set_option maxHeartbeats 4000000 in
theorem kX11_undo (l : Launch) {A0 : AH} {o0 : Option Nat} {a1 : Int32} {r : Int32 × AH} (h : fX11_undo A0 o0 a1 = some r) : (∃ a, o0 = some a ∧ Hk A0 a = 12) ∧ Cn l yX11_undo cX11_undo 2 (some .int) 3 66 0 0 [vR o0, vI a1] A0 (some (vI r.1)) r.2 := by
  unfold fX11_undo at h
  replace h := bnd_e h
  obtain ⟨o1, e1, h⟩ := h
  obtain ⟨rfl, hk0⟩ := rcv_e e1
  refine ⟨⟨o1, rfl, hk0⟩, ?_⟩
  refine Cn.of (pad := 0) (lv0 := [some (vR (some o1)), some (vI a1)]) (by decide +kernel) (Nat.le_of_ble_eq_true rfl) rfl ?_
  intro p e s m below meth c base D cy E
  generalize (List.map toV [vR (some o1), vI a1]).toArray = ar at E ⊢
  have E : EN p s m ar meth c D cy RX11 cX11_undo 2 (some .int) "undo" := E
  refine v_iload_n E dX11_undo_0 rfl ?_
  refine v_iconst (v := 1) E dX11_undo_1 (by decide) ?_
  refine v_icmp_lt (tgt := 11) E dX11_undo_2 (by decide) (fun c8 => ?_) (fun c8 => ?_)
  · rw [if_pos c8] at h
    refine v_ldc (v := (-1000000002)) E dX11_undo_11 q262 ?_
    replace h := Option.some.inj h
    subst h
    refine v_widen (k' := 0) (n' := 0) (Nat.le_of_ble_eq_true rfl) (Nat.le_of_ble_eq_true rfl) ?_
    exact v_iret E dX11_undo_13
  · rw [if_neg c8] at h
    refine v_iload_n E dX11_undo_5 rfl ?_
    refine v_bipush (v := 16) E dX11_undo_6 (by decide) ?_
    refine v_icmp_le (tgt := 14) E dX11_undo_8 (by decide) (fun c7 => ?_) (fun c7 => ?_)
    · rw [if_pos c7] at h
      refine v_aload_n E dX11_undo_14 rfl ?_
      replace h := bnd_e h
      obtain ⟨v1, ev1, h⟩ := h
      refine g11_33 E ev1 dX11_undo_15 ?_
      refine v_iload_n E dX11_undo_18 rfl ?_
      refine v_aload_n E dX11_undo_19 rfl ?_
      replace h := bnd_e h
      obtain ⟨v2, ev2, h⟩ := h
      refine g11_10 E ev2 dX11_undo_20 ?_
      replace h := bnd_e h
      obtain ⟨r3, er3, h⟩ := h
      refine v_callV (na := 2) (As := [vI a1, vR v2]) (rest := []) (ci := 5) (q := (RX5, TX5, 3)) E gw11_292 (by decide +kernel) rfl rfl (by decide) (kX5_restore l er3).2 (kX5_restore l er3).1 rfl rfl dX11_undo_23 ⟨Nat.le_of_ble_eq_true rfl, Nat.le_of_ble_eq_true rfl⟩ ⟨(Nat.le_of_ble_eq_true rfl), (Nat.le_of_ble_eq_true rfl)⟩ (Nat.le_of_ble_eq_true rfl) ?_
      refine v_if_eq (tgt := 39) E dX11_undo_26 (by decide) (fun c6 => ?_) (fun c6 => ?_)
      · rw [if_pos c6] at h
        refine v_ldc (v := (-1000000003)) E dX11_undo_39 q813 ?_
        replace h := Option.some.inj h
        subst h
        refine v_widen (k' := 0) (n' := 0) (Nat.le_of_ble_eq_true rfl) (Nat.le_of_ble_eq_true rfl) ?_
        exact v_iret E dX11_undo_41
      · rw [if_neg c6] at h
        refine v_aload_n E dX11_undo_29 rfl ?_
        replace h := bnd_e h
        obtain ⟨v4, ev4, h⟩ := h
        refine g11_10 E ev4 dX11_undo_30 ?_
        replace h := bnd_e h
        obtain ⟨r5, er5, h⟩ := h
        refine v_callV (na := 0) (As := []) (rest := []) (ci := 8) (q := (RX8, TX8, 2)) E gw11_95 (by decide +kernel) rfl rfl (by decide) (kX8_count l er5).2 (kX8_count l er5).1 rfl rfl dX11_undo_33 ⟨Nat.le_of_ble_eq_true rfl, Nat.le_of_ble_eq_true rfl⟩ ⟨(Nat.le_of_ble_eq_true rfl), (Nat.le_of_ble_eq_true rfl)⟩ (Nat.le_of_ble_eq_true rfl) ?_
        refine v_goto (tgt := 41) E dX11_undo_36 (by decide) ?_
        replace h := Option.some.inj h
        subst h
        refine v_widen (k' := 0) (n' := 0) (Nat.le_of_ble_eq_true rfl) (Nat.le_of_ble_eq_true rfl) ?_
        exact v_iret E dX11_undo_41
    · rw [if_neg c7] at h
      refine v_ldc (v := (-1000000002)) E dX11_undo_11 q262 ?_
      replace h := Option.some.inj h
      subst h
      refine v_widen (k' := 0) (n' := 0) (Nat.le_of_ble_eq_true rfl) (Nat.le_of_ble_eq_true rfl) ?_
      exact v_iret E dX11_undo_13
noncomputable def fX0_put (A0 : AH) (o0 : Option Nat) (a1 : Int32) (a2 : Int32) : Option (Int32 × AH) :=
  (rcv A0 1 o0).bind fun o0 =>
  (gI A0 1 2 ((some o0))).bind fun v1 =>
  if v1 < 20 then
    (gR A0 1 0 ((some o0))).bind fun v2 =>
    (gI A0 1 2 ((some o0))).bind fun v3 =>
    (sI A0 14 v2 v3 a1).bind fun A4 =>
    (gR A4 1 1 ((some o0))).bind fun v5 =>
    (gI A4 1 2 ((some o0))).bind fun v6 =>
    (sI A4 14 v5 v6 a2).bind fun A7 =>
    (gI A7 1 2 ((some o0))).bind fun v8 =>
    (pI A7 1 2 ((some o0)) ((v8 + 1))).bind fun A9 =>
    some ((1, A9))
  else
    some ((0, A0))
set_option maxRecDepth 100000 in
set_option maxHeartbeats 4000000 in
theorem kX0_put (l : Launch) {A0 : AH} {o0 : Option Nat} {a1 : Int32} {a2 : Int32} {r : Int32 × AH} (h : fX0_put A0 o0 a1 a2 = some r) : (∃ a, o0 = some a ∧ Hk A0 a = 1) ∧ Cn l yX0_put cX0_put 3 (some .boolean) 0 0 0 0 [vR o0, vI a1, vI a2] A0 (some (vI r.1)) r.2 := by
  unfold fX0_put at h
  replace h := bnd_e h
  obtain ⟨o1, e1, h⟩ := h
  obtain ⟨rfl, hk0⟩ := rcv_e e1
  refine ⟨⟨o1, rfl, hk0⟩, ?_⟩
  refine Cn.of (pad := 0) (lv0 := [some (vR (some o1)), some (vI a1), some (vI a2)]) (by decide +kernel) (Nat.le_of_ble_eq_true rfl) rfl ?_
  intro p e s m below meth c base D cy E
  generalize (List.map toV [vR (some o1), vI a1, vI a2]).toArray = ar at E ⊢
  have E : EN p s m ar meth c D cy RX0 cX0_put 3 (some .boolean) "put" := E
  refine v_aload_n E dX0_put_0 rfl ?_
  replace h := bnd_e h
  obtain ⟨v1, ev1, h⟩ := h
  refine g0_18 E ev1 dX0_put_1 ?_
  refine v_bipush (v := 20) E dX0_put_4 (by decide) ?_
  refine v_icmp_lt (tgt := 11) E dX0_put_6 (by decide) (fun c10 => ?_) (fun c10 => ?_)
  · rw [if_pos c10] at h
    refine v_aload_n E dX0_put_11 rfl ?_
    replace h := bnd_e h
    obtain ⟨v2, ev2, h⟩ := h
    refine g0_9 E ev2 dX0_put_12 ?_
    refine v_aload_n E dX0_put_15 rfl ?_
    replace h := bnd_e h
    obtain ⟨v3, ev3, h⟩ := h
    refine g0_18 E ev3 dX0_put_16 ?_
    refine v_iload_n E dX0_put_19 rfl ?_
    replace h := bnd_e h
    obtain ⟨A4, eA4, h⟩ := h
    refine v_iastore E eA4 dX0_put_20 ?_
    refine v_aload_n E dX0_put_21 rfl ?_
    replace h := bnd_e h
    obtain ⟨v5, ev5, h⟩ := h
    refine g0_15 E ev5 dX0_put_22 ?_
    refine v_aload_n E dX0_put_25 rfl ?_
    replace h := bnd_e h
    obtain ⟨v6, ev6, h⟩ := h
    refine g0_18 E ev6 dX0_put_26 ?_
    refine v_iload_n E dX0_put_29 rfl ?_
    replace h := bnd_e h
    obtain ⟨A7, eA7, h⟩ := h
    refine v_iastore E eA7 dX0_put_30 ?_
    refine v_aload_n E dX0_put_31 rfl ?_
    refine v_dup E dX0_put_32 rfl ?_
    replace h := bnd_e h
    obtain ⟨v8, ev8, h⟩ := h
    refine g0_18 E ev8 dX0_put_33 ?_
    refine v_iconst (v := 1) E dX0_put_36 (by decide) ?_
    refine v_iadd E dX0_put_37 ?_
    replace h := bnd_e h
    obtain ⟨A9, eA9, h⟩ := h
    refine p0_18 E eA9 dX0_put_38 ?_
    refine v_iconst (v := 1) E dX0_put_41 (by decide) ?_
    replace h := Option.some.inj h
    subst h
    refine v_widen (k' := 0) (n' := 0) (Nat.le_of_ble_eq_true rfl) (Nat.le_of_ble_eq_true rfl) ?_
    exact v_zret E (Or.inr rfl) dX0_put_42
  · rw [if_neg c10] at h
    refine v_iconst (v := 0) E dX0_put_9 (by decide) ?_
    replace h := Option.some.inj h
    subst h
    refine v_widen (k' := 0) (n' := 0) (Nat.le_of_ble_eq_true rfl) (Nat.le_of_ble_eq_true rfl) ?_
    exact v_zret E (Or.inl rfl) dX0_put_10
noncomputable def fX11_write (A0 : AH) (o0 : Option Nat) (a1 : Int32) (a2 : Int32) : Option (Int32 × AH) :=
  (rcv A0 12 o0).bind fun o0 =>
  (gR A0 12 352 ((some o0))).bind fun v1 =>
  (fX8_get A0 v1 a1).bind fun r2 =>
  if r2 = none then
    some (((-1000000001), A0))
  else
    (gR A0 12 354 ((some o0))).bind fun v3 =>
    (fX0_put A0 v3 a1 a2).bind fun r4 =>
    if r4.1 = 0 then
      some (((-1000000004), r4.2))
    else
      (gR r4.2 12 354 ((some o0))).bind fun v5 =>
      (fX0_count r4.2 v5).bind fun r6 =>
      some ((r6, r4.2))
set_option maxRecDepth 100000 in
set_option maxHeartbeats 4000000 in
theorem kX11_write (l : Launch) {A0 : AH} {o0 : Option Nat} {a1 : Int32} {a2 : Int32} {r : Int32 × AH} (h : fX11_write A0 o0 a1 a2 = some r) : (∃ a, o0 = some a ∧ Hk A0 a = 12) ∧ Cn l yX11_write cX11_write 3 (some .int) 1 22 0 0 [vR o0, vI a1, vI a2] A0 (some (vI r.1)) r.2 := by
  unfold fX11_write at h
  replace h := bnd_e h
  obtain ⟨o1, e1, h⟩ := h
  obtain ⟨rfl, hk0⟩ := rcv_e e1
  refine ⟨⟨o1, rfl, hk0⟩, ?_⟩
  refine Cn.of (pad := 0) (lv0 := [some (vR (some o1)), some (vI a1), some (vI a2)]) (by decide +kernel) (Nat.le_of_ble_eq_true rfl) rfl ?_
  intro p e s m below meth c base D cy E
  generalize (List.map toV [vR (some o1), vI a1, vI a2]).toArray = ar at E ⊢
  have E : EN p s m ar meth c D cy RX11 cX11_write 3 (some .int) "write" := E
  refine v_aload_n E dX11_write_0 rfl ?_
  replace h := bnd_e h
  obtain ⟨v1, ev1, h⟩ := h
  refine g11_10 E ev1 dX11_write_1 ?_
  refine v_iload_n E dX11_write_4 rfl ?_
  replace h := bnd_e h
  obtain ⟨r2, er2, h⟩ := h
  refine v_callV (na := 1) (As := [vI a1]) (rest := []) (ci := 8) (q := (RX8, TX8, 2)) E gw11_110 (by decide +kernel) rfl rfl (by decide) (kX8_get l er2).2 (kX8_get l er2).1 rfl rfl dX11_write_5 ⟨Nat.le_of_ble_eq_true rfl, Nat.le_of_ble_eq_true rfl⟩ ⟨(Nat.le_of_ble_eq_true rfl), (Nat.le_of_ble_eq_true rfl)⟩ (Nat.le_of_ble_eq_true rfl) ?_
  refine v_ifnonnull (tgt := 14) E dX11_write_8 (by decide) (fun c8 => ?_) (fun c8 => ?_)
  · rw [if_neg c8] at h
    refine v_aload_n E dX11_write_14 rfl ?_
    replace h := bnd_e h
    obtain ⟨v3, ev3, h⟩ := h
    refine g11_26 E ev3 dX11_write_15 ?_
    refine v_iload_n E dX11_write_18 rfl ?_
    refine v_iload_n E dX11_write_19 rfl ?_
    replace h := bnd_e h
    obtain ⟨r4, er4, h⟩ := h
    refine v_callV (na := 2) (As := [vI a1, vI a2]) (rest := []) (ci := 0) (q := (RX0, TX0, 3)) E gw11_296 (by decide +kernel) rfl rfl (by decide) (kX0_put l er4).2 (kX0_put l er4).1 rfl rfl dX11_write_20 ⟨Nat.le_of_ble_eq_true rfl, Nat.le_of_ble_eq_true rfl⟩ ⟨(Nat.le_of_ble_eq_true rfl), (Nat.le_of_ble_eq_true rfl)⟩ (Nat.le_of_ble_eq_true rfl) ?_
    refine v_if_eq (tgt := 36) E dX11_write_23 (by decide) (fun c7 => ?_) (fun c7 => ?_)
    · rw [if_pos c7] at h
      refine v_ldc (v := (-1000000004)) E dX11_write_36 q271 ?_
      replace h := Option.some.inj h
      subst h
      refine v_widen (k' := 0) (n' := 0) (Nat.le_of_ble_eq_true rfl) (Nat.le_of_ble_eq_true rfl) ?_
      exact v_iret E dX11_write_38
    · rw [if_neg c7] at h
      refine v_aload_n E dX11_write_26 rfl ?_
      replace h := bnd_e h
      obtain ⟨v5, ev5, h⟩ := h
      refine g11_26 E ev5 dX11_write_27 ?_
      replace h := bnd_e h
      obtain ⟨r6, er6, h⟩ := h
      refine v_callV (na := 0) (As := []) (rest := []) (ci := 0) (q := (RX0, TX0, 3)) E gw11_101 (by decide +kernel) rfl rfl (by decide) (kX0_count l er6).2 (kX0_count l er6).1 rfl rfl dX11_write_30 ⟨Nat.le_of_ble_eq_true rfl, Nat.le_of_ble_eq_true rfl⟩ ⟨(Nat.le_of_ble_eq_true rfl), (Nat.le_of_ble_eq_true rfl)⟩ (Nat.le_of_ble_eq_true rfl) ?_
      refine v_goto (tgt := 38) E dX11_write_33 (by decide) ?_
      replace h := Option.some.inj h
      subst h
      refine v_widen (k' := 0) (n' := 0) (Nat.le_of_ble_eq_true rfl) (Nat.le_of_ble_eq_true rfl) ?_
      exact v_iret E dX11_write_38
  · rw [if_pos c8] at h
    refine v_ldc (v := (-1000000001)) E dX11_write_11 q516 ?_
    replace h := Option.some.inj h
    subst h
    refine v_widen (k' := 0) (n' := 0) (Nat.le_of_ble_eq_true rfl) (Nat.le_of_ble_eq_true rfl) ?_
    exact v_iret E dX11_write_13
noncomputable def fX0_clear (A0 : AH) (o0 : Option Nat) : Option (Int32 × AH) :=
  (rcv A0 1 o0).bind fun o0 =>
  (gI A0 1 2 ((some o0))).bind fun v1 =>
  (pI A0 1 2 ((some o0)) 0).bind fun A2 =>
  some ((v1, A2))
set_option maxRecDepth 100000 in
set_option maxHeartbeats 4000000 in
theorem kX0_clear (l : Launch) {A0 : AH} {o0 : Option Nat} {r : Int32 × AH} (h : fX0_clear A0 o0 = some r) : (∃ a, o0 = some a ∧ Hk A0 a = 1) ∧ Cn l yX0_clear cX0_clear 2 (some .int) 0 0 0 0 [vR o0] A0 (some (vI r.1)) r.2 := by
  unfold fX0_clear at h
  replace h := bnd_e h
  obtain ⟨o1, e1, h⟩ := h
  obtain ⟨rfl, hk0⟩ := rcv_e e1
  refine ⟨⟨o1, rfl, hk0⟩, ?_⟩
  refine Cn.of (pad := 1) (lv0 := [some (vR (some o1)), none]) (by decide +kernel) (Nat.le_of_ble_eq_true rfl) rfl ?_
  intro p e s m below meth c base D cy E
  generalize (List.map toV [vR (some o1)]).toArray = ar at E ⊢
  have E : EN p s m ar meth c D cy RX0 cX0_clear 2 (some .int) "clear" := E
  refine v_aload_n E dX0_clear_0 rfl ?_
  replace h := bnd_e h
  obtain ⟨v1, ev1, h⟩ := h
  refine g0_18 E ev1 dX0_clear_1 ?_
  refine v_istore_n (lv' := [some (vR (some o1)), some (vI v1)]) E dX0_clear_4 (by decide) rfl ?_
  refine v_aload_n E dX0_clear_5 rfl ?_
  refine v_iconst (v := 0) E dX0_clear_6 (by decide) ?_
  replace h := bnd_e h
  obtain ⟨A2, eA2, h⟩ := h
  refine p0_18 E eA2 dX0_clear_7 ?_
  refine v_iload_n E dX0_clear_10 rfl ?_
  replace h := Option.some.inj h
  subst h
  refine v_widen (k' := 0) (n' := 0) (Nat.le_of_ble_eq_true rfl) (Nat.le_of_ble_eq_true rfl) ?_
  exact v_iret E dX0_clear_11
noncomputable def fX11_tear (A0 : AH) (o0 : Option Nat) : Option (Int32 × AH) :=
  (rcv A0 12 o0).bind fun o0 =>
  (gR A0 12 354 ((some o0))).bind fun v1 =>
  (fX0_clear A0 v1).bind fun r2 =>
  some ((r2.1, r2.2))
set_option maxRecDepth 100000 in
set_option maxHeartbeats 4000000 in
theorem kX11_tear (l : Launch) {A0 : AH} {o0 : Option Nat} {r : Int32 × AH} (h : fX11_tear A0 o0 = some r) : (∃ a, o0 = some a ∧ Hk A0 a = 12) ∧ Cn l yX11_tear cX11_tear 1 (some .int) 1 21 0 0 [vR o0] A0 (some (vI r.1)) r.2 := by
  unfold fX11_tear at h
  replace h := bnd_e h
  obtain ⟨o1, e1, h⟩ := h
  obtain ⟨rfl, hk0⟩ := rcv_e e1
  refine ⟨⟨o1, rfl, hk0⟩, ?_⟩
  refine Cn.of (pad := 0) (lv0 := [some (vR (some o1))]) (by decide +kernel) (Nat.le_of_ble_eq_true rfl) rfl ?_
  intro p e s m below meth c base D cy E
  generalize (List.map toV [vR (some o1)]).toArray = ar at E ⊢
  have E : EN p s m ar meth c D cy RX11 cX11_tear 1 (some .int) "tear" := E
  refine v_aload_n E dX11_tear_0 rfl ?_
  replace h := bnd_e h
  obtain ⟨v1, ev1, h⟩ := h
  refine g11_26 E ev1 dX11_tear_1 ?_
  replace h := bnd_e h
  obtain ⟨r2, er2, h⟩ := h
  refine v_callV (na := 0) (As := []) (rest := []) (ci := 0) (q := (RX0, TX0, 3)) E gw11_298 (by decide +kernel) rfl rfl (by decide) (kX0_clear l er2).2 (kX0_clear l er2).1 rfl rfl dX11_tear_4 ⟨Nat.le_of_ble_eq_true rfl, Nat.le_of_ble_eq_true rfl⟩ ⟨(Nat.le_of_ble_eq_true rfl), (Nat.le_of_ble_eq_true rfl)⟩ (Nat.le_of_ble_eq_true rfl) ?_
  replace h := Option.some.inj h
  subst h
  refine v_widen (k' := 0) (n' := 0) (Nat.le_of_ble_eq_true rfl) (Nat.le_of_ble_eq_true rfl) ?_
  exact v_iret E dX11_tear_7
noncomputable def fX2_restart (A0 : AH) (o0 : Option Nat) (a1 : Int32) : Option (AH) :=
  (rcv A0 3 o0).bind fun o0 =>
  (pI A0 3 64 ((some o0)) a1).bind fun A1 =>
  some A1
set_option maxRecDepth 100000 in
set_option maxHeartbeats 4000000 in
theorem kX2_restart (l : Launch) {A0 : AH} {o0 : Option Nat} {a1 : Int32} {r : AH} (h : fX2_restart A0 o0 a1 = some r) : (∃ a, o0 = some a ∧ Hk A0 a = 3) ∧ Cn l yX2_restart cX2_restart 2 none 0 0 0 0 [vR o0, vI a1] A0 none r := by
  unfold fX2_restart at h
  replace h := bnd_e h
  obtain ⟨o1, e1, h⟩ := h
  obtain ⟨rfl, hk0⟩ := rcv_e e1
  refine ⟨⟨o1, rfl, hk0⟩, ?_⟩
  refine Cn.of (pad := 0) (lv0 := [some (vR (some o1)), some (vI a1)]) (by decide +kernel) (Nat.le_of_ble_eq_true rfl) rfl ?_
  intro p e s m below meth c base D cy E
  generalize (List.map toV [vR (some o1), vI a1]).toArray = ar at E ⊢
  have E : EN p s m ar meth c D cy RX2 cX2_restart 2 none "restart" := E
  refine v_aload_n E dX2_restart_0 rfl ?_
  refine v_iload_n E dX2_restart_1 rfl ?_
  replace h := bnd_e h
  obtain ⟨A1, eA1, h⟩ := h
  refine p2_7 E eA1 dX2_restart_2 ?_
  replace h := Option.some.inj h
  subst h
  refine v_widen (k' := 0) (n' := 0) (Nat.le_of_ble_eq_true rfl) (Nat.le_of_ble_eq_true rfl) ?_
  exact v_vret E dX2_restart_5
noncomputable def fX11_seed (A0 : AH) (o0 : Option Nat) (a1 : Int32) : Option (Int32 × AH) :=
  (rcv A0 12 o0).bind fun o0 =>
  if 0 ≤ a1 then
    (gR A0 12 357 ((some o0))).bind fun v1 =>
    (fX2_current A0 v1).bind fun r2 =>
    (gR A0 12 357 ((some o0))).bind fun v3 =>
    (fX2_restart A0 v3 a1).bind fun r4 =>
    some ((r2, r4))
  else
    some (((-1000000002), A0))
set_option maxRecDepth 100000 in
set_option maxHeartbeats 4000000 in
theorem kX11_seed (l : Launch) {A0 : AH} {o0 : Option Nat} {a1 : Int32} {r : Int32 × AH} (h : fX11_seed A0 o0 a1 = some r) : (∃ a, o0 = some a ∧ Hk A0 a = 12) ∧ Cn l yX11_seed cX11_seed 3 (some .int) 1 21 0 0 [vR o0, vI a1] A0 (some (vI r.1)) r.2 := by
  unfold fX11_seed at h
  replace h := bnd_e h
  obtain ⟨o1, e1, h⟩ := h
  obtain ⟨rfl, hk0⟩ := rcv_e e1
  refine ⟨⟨o1, rfl, hk0⟩, ?_⟩
  refine Cn.of (pad := 1) (lv0 := [some (vR (some o1)), some (vI a1), none]) (by decide +kernel) (Nat.le_of_ble_eq_true rfl) rfl ?_
  intro p e s m below meth c base D cy E
  generalize (List.map toV [vR (some o1), vI a1]).toArray = ar at E ⊢
  have E : EN p s m ar meth c D cy RX11 cX11_seed 3 (some .int) "seed" := E
  refine v_iload_n E dX11_seed_0 rfl ?_
  refine v_if_ge (tgt := 7) E dX11_seed_1 (by decide) (fun c5 => ?_) (fun c5 => ?_)
  · rw [if_pos c5] at h
    refine v_aload_n E dX11_seed_7 rfl ?_
    replace h := bnd_e h
    obtain ⟨v1, ev1, h⟩ := h
    refine g11_47 E ev1 dX11_seed_8 ?_
    replace h := bnd_e h
    obtain ⟨r2, er2, h⟩ := h
    refine v_callV (na := 0) (As := []) (rest := []) (ci := 2) (q := (RX2, TX2, 1)) E gw11_107 (by decide +kernel) rfl rfl (by decide) (kX2_current l er2).2 (kX2_current l er2).1 rfl rfl dX11_seed_11 ⟨Nat.le_of_ble_eq_true rfl, Nat.le_of_ble_eq_true rfl⟩ ⟨(Nat.le_of_ble_eq_true rfl), (Nat.le_of_ble_eq_true rfl)⟩ (Nat.le_of_ble_eq_true rfl) ?_
    refine v_istore_n (lv' := [some (vR (some o1)), some (vI a1), some (vI r2)]) E dX11_seed_14 (by decide) rfl ?_
    refine v_aload_n E dX11_seed_15 rfl ?_
    replace h := bnd_e h
    obtain ⟨v3, ev3, h⟩ := h
    refine g11_47 E ev3 dX11_seed_16 ?_
    refine v_iload_n E dX11_seed_19 rfl ?_
    replace h := bnd_e h
    obtain ⟨r4, er4, h⟩ := h
    refine v_callV (na := 1) (As := [vI a1]) (rest := []) (ci := 2) (q := (RX2, TX2, 1)) E gw11_300 (by decide +kernel) rfl rfl (by decide) (kX2_restart l er4).2 (kX2_restart l er4).1 rfl rfl dX11_seed_20 ⟨Nat.le_of_ble_eq_true rfl, Nat.le_of_ble_eq_true rfl⟩ ⟨(Nat.le_of_ble_eq_true rfl), (Nat.le_of_ble_eq_true rfl)⟩ (Nat.le_of_ble_eq_true rfl) ?_
    refine v_iload_n E dX11_seed_23 rfl ?_
    replace h := Option.some.inj h
    subst h
    refine v_widen (k' := 0) (n' := 0) (Nat.le_of_ble_eq_true rfl) (Nat.le_of_ble_eq_true rfl) ?_
    exact v_iret E dX11_seed_24
  · rw [if_neg c5] at h
    refine v_ldc (v := (-1000000002)) E dX11_seed_4 q262 ?_
    replace h := Option.some.inj h
    subst h
    refine v_widen (k' := 0) (n' := 0) (Nat.le_of_ble_eq_true rfl) (Nat.le_of_ble_eq_true rfl) ?_
    exact v_iret E dX11_seed_6
noncomputable def fX6_store (A0 : AH) (o0 : Option Nat) (a1 : Option Nat) (a2 : Int32) : Option (AH) :=
  (rcv A0 7 o0).bind fun o0 =>
  (gR A0 7 192 ((some o0))).bind fun v1 =>
  (fX8_copyFrom A0 v1 a1).bind fun r2 =>
  (pI r2 7 193 ((some o0)) a2).bind fun A3 =>
  (pZ A3 7 194 ((some o0)) 1).bind fun A4 =>
  some A4
set_option maxRecDepth 100000 in
set_option maxHeartbeats 4000000 in
theorem kX6_store (l : Launch) {A0 : AH} {o0 : Option Nat} {a1 : Option Nat} {a2 : Int32} {r : AH} (h : fX6_store A0 o0 a1 a2 = some r) : (∃ a, o0 = some a ∧ Hk A0 a = 7) ∧ Cn l yX6_store cX6_store 3 none 2 43 0 0 [vR o0, vR a1, vI a2] A0 none r := by
  unfold fX6_store at h
  replace h := bnd_e h
  obtain ⟨o1, e1, h⟩ := h
  obtain ⟨rfl, hk0⟩ := rcv_e e1
  refine ⟨⟨o1, rfl, hk0⟩, ?_⟩
  refine Cn.of (pad := 0) (lv0 := [some (vR (some o1)), some (vR a1), some (vI a2)]) (by decide +kernel) (Nat.le_of_ble_eq_true rfl) rfl ?_
  intro p e s m below meth c base D cy E
  generalize (List.map toV [vR (some o1), vR a1, vI a2]).toArray = ar at E ⊢
  have E : EN p s m ar meth c D cy RX6 cX6_store 3 none "store" := E
  refine v_aload_n E dX6_store_0 rfl ?_
  replace h := bnd_e h
  obtain ⟨v1, ev1, h⟩ := h
  refine g6_10 E ev1 dX6_store_1 ?_
  refine v_aload_n E dX6_store_4 rfl ?_
  replace h := bnd_e h
  obtain ⟨r2, er2, h⟩ := h
  refine v_callV (na := 1) (As := [vR a1]) (rest := []) (ci := 8) (q := (RX8, TX8, 2)) E gw6_24 (by decide +kernel) rfl rfl (by decide) (kX8_copyFrom l er2).2 (kX8_copyFrom l er2).1 rfl rfl dX6_store_5 ⟨Nat.le_of_ble_eq_true rfl, Nat.le_of_ble_eq_true rfl⟩ ⟨(Nat.le_of_ble_eq_true rfl), (Nat.le_of_ble_eq_true rfl)⟩ (Nat.le_of_ble_eq_true rfl) ?_
  refine v_aload_n E dX6_store_8 rfl ?_
  refine v_iload_n E dX6_store_9 rfl ?_
  replace h := bnd_e h
  obtain ⟨A3, eA3, h⟩ := h
  refine p6_16 E eA3 dX6_store_10 ?_
  refine v_aload_n E dX6_store_13 rfl ?_
  refine v_iconst (v := 1) E dX6_store_14 (by decide) ?_
  replace h := bnd_e h
  obtain ⟨A4, eA4, h⟩ := h
  refine p6_20 E eA4 dX6_store_15 ?_
  replace h := Option.some.inj h
  subst h
  refine v_widen (k' := 0) (n' := 0) (Nat.le_of_ble_eq_true rfl) (Nat.le_of_ble_eq_true rfl) ?_
  exact v_vret E dX6_store_18
noncomputable def fX5_clear (A0 : AH) (o0 : Option Nat) : Option (AH) :=
  (rcv A0 6 o0).bind fun o0 =>
  (pI A0 6 162 ((some o0)) 0).bind fun A1 =>
  some A1
set_option maxRecDepth 100000 in
set_option maxHeartbeats 4000000 in
theorem kX5_clear (l : Launch) {A0 : AH} {o0 : Option Nat} {r : AH} (h : fX5_clear A0 o0 = some r) : (∃ a, o0 = some a ∧ Hk A0 a = 6) ∧ Cn l yX5_clear cX5_clear 1 none 0 0 0 0 [vR o0] A0 none r := by
  unfold fX5_clear at h
  replace h := bnd_e h
  obtain ⟨o1, e1, h⟩ := h
  obtain ⟨rfl, hk0⟩ := rcv_e e1
  refine ⟨⟨o1, rfl, hk0⟩, ?_⟩
  refine Cn.of (pad := 0) (lv0 := [some (vR (some o1))]) (by decide +kernel) (Nat.le_of_ble_eq_true rfl) rfl ?_
  intro p e s m below meth c base D cy E
  generalize (List.map toV [vR (some o1)]).toArray = ar at E ⊢
  have E : EN p s m ar meth c D cy RX5 cX5_clear 1 none "clear" := E
  refine v_aload_n E dX5_clear_0 rfl ?_
  refine v_iconst (v := 0) E dX5_clear_1 (by decide) ?_
  replace h := bnd_e h
  obtain ⟨A1, eA1, h⟩ := h
  refine p5_21 E eA1 dX5_clear_2 ?_
  replace h := Option.some.inj h
  subst h
  refine v_widen (k' := 0) (n' := 0) (Nat.le_of_ble_eq_true rfl) (Nat.le_of_ble_eq_true rfl) ?_
  exact v_vret E dX5_clear_5
noncomputable def fX11_keep (A0 : AH) (o0 : Option Nat) (a1 : Int32) : Option (Int32 × AH) :=
  (rcv A0 12 o0).bind fun o0 =>
  if a1 < 0 then
    some (((-1000000001), A0))
  else
    (gR A0 12 356 ((some o0))).bind fun v1 =>
    (aL A0 16 v1).bind fun v2 =>
    if a1 < v2 then
      (gR A0 12 356 ((some o0))).bind fun v3 =>
      (aR A0 16 v3 a1).bind fun v4 =>
      (gR A0 12 352 ((some o0))).bind fun v5 =>
      (gR A0 12 357 ((some o0))).bind fun v6 =>
      (fX2_current A0 v6).bind fun r7 =>
      (fX6_store A0 v4 v5 r7).bind fun r8 =>
      (gR r8 12 355 ((some o0))).bind fun v9 =>
      (fX5_clear r8 v9).bind fun r10 =>
      some ((1, r10))
    else
      some (((-1000000001), A0))
set_option maxRecDepth 100000 in
set_option maxHeartbeats 4000000 in
theorem kX11_keep (l : Launch) {A0 : AH} {o0 : Option Nat} {a1 : Int32} {r : Int32 × AH} (h : fX11_keep A0 o0 a1 = some r) : (∃ a, o0 = some a ∧ Hk A0 a = 12) ∧ Cn l yX11_keep cX11_keep 2 (some .int) 3 65 0 0 [vR o0, vI a1] A0 (some (vI r.1)) r.2 := by
  unfold fX11_keep at h
  replace h := bnd_e h
  obtain ⟨o1, e1, h⟩ := h
  obtain ⟨rfl, hk0⟩ := rcv_e e1
  refine ⟨⟨o1, rfl, hk0⟩, ?_⟩
  refine Cn.of (pad := 0) (lv0 := [some (vR (some o1)), some (vI a1)]) (by decide +kernel) (Nat.le_of_ble_eq_true rfl) rfl ?_
  intro p e s m below meth c base D cy E
  generalize (List.map toV [vR (some o1), vI a1]).toArray = ar at E ⊢
  have E : EN p s m ar meth c D cy RX11 cX11_keep 2 (some .int) "keep" := E
  refine v_iload_n E dX11_keep_0 rfl ?_
  refine v_if_lt (tgt := 13) E dX11_keep_1 (by decide) (fun c12 => ?_) (fun c12 => ?_)
  · rw [if_pos c12] at h
    refine v_ldc (v := (-1000000001)) E dX11_keep_13 q516 ?_
    replace h := Option.some.inj h
    subst h
    refine v_widen (k' := 0) (n' := 0) (Nat.le_of_ble_eq_true rfl) (Nat.le_of_ble_eq_true rfl) ?_
    exact v_iret E dX11_keep_15
  · rw [if_neg c12] at h
    refine v_iload_n E dX11_keep_4 rfl ?_
    refine v_aload_n E dX11_keep_5 rfl ?_
    replace h := bnd_e h
    obtain ⟨v1, ev1, h⟩ := h
    refine g11_40 E ev1 dX11_keep_6 ?_
    replace h := bnd_e h
    obtain ⟨v2, ev2, h⟩ := h
    refine v_alen (kd := 16) (t0 := 2) E (by decide) rfl ev2 dX11_keep_9 ?_
    refine v_icmp_lt (tgt := 16) E dX11_keep_10 (by decide) (fun c11 => ?_) (fun c11 => ?_)
    · rw [if_pos c11] at h
      refine v_aload_n E dX11_keep_16 rfl ?_
      replace h := bnd_e h
      obtain ⟨v3, ev3, h⟩ := h
      refine g11_40 E ev3 dX11_keep_17 ?_
      refine v_iload_n E dX11_keep_20 rfl ?_
      replace h := bnd_e h
      obtain ⟨v4, ev4, h⟩ := h
      refine v_aaload (kd := 16) (t0 := 2) E (by decide) rfl ev4 dX11_keep_21 ?_
      refine v_aload_n E dX11_keep_22 rfl ?_
      replace h := bnd_e h
      obtain ⟨v5, ev5, h⟩ := h
      refine g11_10 E ev5 dX11_keep_23 ?_
      refine v_aload_n E dX11_keep_26 rfl ?_
      replace h := bnd_e h
      obtain ⟨v6, ev6, h⟩ := h
      refine g11_47 E ev6 dX11_keep_27 ?_
      replace h := bnd_e h
      obtain ⟨r7, er7, h⟩ := h
      refine v_callV (na := 0) (As := []) (rest := [vR v5, vR v4]) (ci := 2) (q := (RX2, TX2, 1)) E gw11_107 (by decide +kernel) rfl rfl (by decide) (kX2_current l er7).2 (kX2_current l er7).1 rfl rfl dX11_keep_30 ⟨Nat.le_of_ble_eq_true rfl, Nat.le_of_ble_eq_true rfl⟩ ⟨(Nat.le_of_ble_eq_true rfl), (Nat.le_of_ble_eq_true rfl)⟩ (Nat.le_of_ble_eq_true rfl) ?_
      replace h := bnd_e h
      obtain ⟨r8, er8, h⟩ := h
      refine v_callV (na := 2) (As := [vR v5, vI r7]) (rest := []) (ci := 6) (q := (RX6, TX6, 3)) E gw11_303 (by decide +kernel) rfl rfl (by decide) (kX6_store l er8).2 (kX6_store l er8).1 rfl rfl dX11_keep_33 ⟨Nat.le_of_ble_eq_true rfl, Nat.le_of_ble_eq_true rfl⟩ ⟨(Nat.le_of_ble_eq_true rfl), (Nat.le_of_ble_eq_true rfl)⟩ (Nat.le_of_ble_eq_true rfl) ?_
      refine v_aload_n E dX11_keep_36 rfl ?_
      replace h := bnd_e h
      obtain ⟨v9, ev9, h⟩ := h
      refine g11_33 E ev9 dX11_keep_37 ?_
      replace h := bnd_e h
      obtain ⟨r10, er10, h⟩ := h
      refine v_callV (na := 0) (As := []) (rest := []) (ci := 5) (q := (RX5, TX5, 3)) E gw11_307 (by decide +kernel) rfl rfl (by decide) (kX5_clear l er10).2 (kX5_clear l er10).1 rfl rfl dX11_keep_40 ⟨Nat.le_of_ble_eq_true rfl, Nat.le_of_ble_eq_true rfl⟩ ⟨(Nat.le_of_ble_eq_true rfl), (Nat.le_of_ble_eq_true rfl)⟩ (Nat.le_of_ble_eq_true rfl) ?_
      refine v_iconst (v := 1) E dX11_keep_43 (by decide) ?_
      replace h := Option.some.inj h
      subst h
      refine v_widen (k' := 0) (n' := 0) (Nat.le_of_ble_eq_true rfl) (Nat.le_of_ble_eq_true rfl) ?_
      exact v_iret E dX11_keep_44
    · rw [if_neg c11] at h
      refine v_ldc (v := (-1000000001)) E dX11_keep_13 q516 ?_
      replace h := Option.some.inj h
      subst h
      refine v_widen (k' := 0) (n' := 0) (Nat.le_of_ble_eq_true rfl) (Nat.le_of_ble_eq_true rfl) ?_
      exact v_iret E dX11_keep_15
noncomputable def fX6_isKept (A0 : AH) (o0 : Option Nat) : Option (Int32) :=
  (rcv A0 7 o0).bind fun o0 =>
  (gI A0 7 194 ((some o0))).bind fun v1 =>
  (rz v1).bind fun z2 => some z2
set_option maxRecDepth 100000 in
set_option maxHeartbeats 4000000 in
theorem kX6_isKept (l : Launch) {A0 : AH} {o0 : Option Nat} {r : Int32} (h : fX6_isKept A0 o0 = some r) : (∃ a, o0 = some a ∧ Hk A0 a = 7) ∧ Cn l yX6_isKept cX6_isKept 1 (some .boolean) 0 0 0 0 [vR o0] A0 (some (vI r)) A0 := by
  unfold fX6_isKept at h
  replace h := bnd_e h
  obtain ⟨o1, e1, h⟩ := h
  obtain ⟨rfl, hk0⟩ := rcv_e e1
  refine ⟨⟨o1, rfl, hk0⟩, ?_⟩
  refine Cn.of (pad := 0) (lv0 := [some (vR (some o1))]) (by decide +kernel) (Nat.le_of_ble_eq_true rfl) rfl ?_
  intro p e s m below meth c base D cy E
  generalize (List.map toV [vR (some o1)]).toArray = ar at E ⊢
  have E : EN p s m ar meth c D cy RX6 cX6_isKept 1 (some .boolean) "isKept" := E
  refine v_aload_n E dX6_isKept_0 rfl ?_
  replace h := bnd_e h
  obtain ⟨v1, ev1, h⟩ := h
  refine g6_20 E ev1 dX6_isKept_1 ?_
  replace h := bnd_e h
  obtain ⟨z2, ez2, h⟩ := h
  obtain ⟨rfl, ez2⟩ := rz_e ez2
  replace h := Option.some.inj h
  subst h
  refine v_widen (k' := 0) (n' := 0) (Nat.le_of_ble_eq_true rfl) (Nat.le_of_ble_eq_true rfl) ?_
  exact v_zret E ez2 dX6_isKept_4
noncomputable def fX6_shelf (A0 : AH) (o0 : Option Nat) : Option (Option Nat) :=
  (rcv A0 7 o0).bind fun o0 =>
  (gR A0 7 192 ((some o0))).bind fun v1 =>
  some v1
set_option maxRecDepth 100000 in
set_option maxHeartbeats 4000000 in
theorem kX6_shelf (l : Launch) {A0 : AH} {o0 : Option Nat} {r : Option Nat} (h : fX6_shelf A0 o0 = some r) : (∃ a, o0 = some a ∧ Hk A0 a = 7) ∧ Cn l yX6_shelf cX6_shelf 1 (some (.object "OneStrokes$Shelf")) 0 0 0 0 [vR o0] A0 (some (vR r)) A0 := by
  unfold fX6_shelf at h
  replace h := bnd_e h
  obtain ⟨o1, e1, h⟩ := h
  obtain ⟨rfl, hk0⟩ := rcv_e e1
  refine ⟨⟨o1, rfl, hk0⟩, ?_⟩
  refine Cn.of (pad := 0) (lv0 := [some (vR (some o1))]) (by decide +kernel) (Nat.le_of_ble_eq_true rfl) rfl ?_
  intro p e s m below meth c base D cy E
  generalize (List.map toV [vR (some o1)]).toArray = ar at E ⊢
  have E : EN p s m ar meth c D cy RX6 cX6_shelf 1 (some (.object "OneStrokes$Shelf")) "shelf" := E
  refine v_aload_n E dX6_shelf_0 rfl ?_
  replace h := bnd_e h
  obtain ⟨v1, ev1, h⟩ := h
  refine g6_10 E ev1 dX6_shelf_1 ?_
  replace h := Option.some.inj h
  subst h
  refine v_widen (k' := 0) (n' := 0) (Nat.le_of_ble_eq_true rfl) (Nat.le_of_ble_eq_true rfl) ?_
  exact v_aret E dX6_shelf_4
noncomputable def fX6_seedThen (A0 : AH) (o0 : Option Nat) : Option (Int32) :=
  (rcv A0 7 o0).bind fun o0 =>
  (gI A0 7 193 ((some o0))).bind fun v1 =>
  some v1
set_option maxRecDepth 100000 in
set_option maxHeartbeats 4000000 in
theorem kX6_seedThen (l : Launch) {A0 : AH} {o0 : Option Nat} {r : Int32} (h : fX6_seedThen A0 o0 = some r) : (∃ a, o0 = some a ∧ Hk A0 a = 7) ∧ Cn l yX6_seedThen cX6_seedThen 1 (some .int) 0 0 0 0 [vR o0] A0 (some (vI r)) A0 := by
  unfold fX6_seedThen at h
  replace h := bnd_e h
  obtain ⟨o1, e1, h⟩ := h
  obtain ⟨rfl, hk0⟩ := rcv_e e1
  refine ⟨⟨o1, rfl, hk0⟩, ?_⟩
  refine Cn.of (pad := 0) (lv0 := [some (vR (some o1))]) (by decide +kernel) (Nat.le_of_ble_eq_true rfl) rfl ?_
  intro p e s m below meth c base D cy E
  generalize (List.map toV [vR (some o1)]).toArray = ar at E ⊢
  have E : EN p s m ar meth c D cy RX6 cX6_seedThen 1 (some .int) "seedThen" := E
  refine v_aload_n E dX6_seedThen_0 rfl ?_
  replace h := bnd_e h
  obtain ⟨v1, ev1, h⟩ := h
  refine g6_16 E ev1 dX6_seedThen_1 ?_
  replace h := Option.some.inj h
  subst h
  refine v_widen (k' := 0) (n' := 0) (Nat.le_of_ble_eq_true rfl) (Nat.le_of_ble_eq_true rfl) ?_
  exact v_iret E dX6_seedThen_4
noncomputable def fX11_goBack (A0 : AH) (o0 : Option Nat) (a1 : Int32) : Option (Int32 × AH) :=
  (rcv A0 12 o0).bind fun o0 =>
  if a1 < 0 then
    some (((-1000000001), A0))
  else
    (gR A0 12 356 ((some o0))).bind fun v1 =>
    (aL A0 16 v1).bind fun v2 =>
    if a1 < v2 then
      (gR A0 12 356 ((some o0))).bind fun v3 =>
      (aR A0 16 v3 a1).bind fun v4 =>
      (fX6_isKept A0 v4).bind fun r5 =>
      if r5 = 0 then
        some (((-1000000003), A0))
      else
        (gR A0 12 352 ((some o0))).bind fun v6 =>
        (gR A0 12 356 ((some o0))).bind fun v7 =>
        (aR A0 16 v7 a1).bind fun v8 =>
        (fX6_shelf A0 v8).bind fun r9 =>
        (fX8_copyFrom A0 v6 r9).bind fun r10 =>
        (gR r10 12 357 ((some o0))).bind fun v11 =>
        (gR r10 12 356 ((some o0))).bind fun v12 =>
        (aR r10 16 v12 a1).bind fun v13 =>
        (fX6_seedThen r10 v13).bind fun r14 =>
        (fX2_restart r10 v11 r14).bind fun r15 =>
        (gR r15 12 355 ((some o0))).bind fun v16 =>
        (fX5_clear r15 v16).bind fun r17 =>
        some ((1, r17))
    else
      some (((-1000000001), A0))
set_option maxRecDepth 100000 in
set_option maxHeartbeats 4000000 in
theorem kX11_goBack (l : Launch) {A0 : AH} {o0 : Option Nat} {a1 : Int32} {r : Int32 × AH} (h : fX11_goBack A0 o0 a1 = some r) : (∃ a, o0 = some a ∧ Hk A0 a = 12) ∧ Cn l yX11_goBack cX11_goBack 2 (some .int) 2 43 0 0 [vR o0, vI a1] A0 (some (vI r.1)) r.2 := by
  unfold fX11_goBack at h
  replace h := bnd_e h
  obtain ⟨o1, e1, h⟩ := h
  obtain ⟨rfl, hk0⟩ := rcv_e e1
  refine ⟨⟨o1, rfl, hk0⟩, ?_⟩
  refine Cn.of (pad := 0) (lv0 := [some (vR (some o1)), some (vI a1)]) (by decide +kernel) (Nat.le_of_ble_eq_true rfl) rfl ?_
  intro p e s m below meth c base D cy E
  generalize (List.map toV [vR (some o1), vI a1]).toArray = ar at E ⊢
  have E : EN p s m ar meth c D cy RX11 cX11_goBack 2 (some .int) "goBack" := E
  refine v_iload_n E dX11_goBack_0 rfl ?_
  refine v_if_lt (tgt := 13) E dX11_goBack_1 (by decide) (fun c20 => ?_) (fun c20 => ?_)
  · rw [if_pos c20] at h
    refine v_ldc (v := (-1000000001)) E dX11_goBack_13 q516 ?_
    replace h := Option.some.inj h
    subst h
    refine v_widen (k' := 0) (n' := 0) (Nat.le_of_ble_eq_true rfl) (Nat.le_of_ble_eq_true rfl) ?_
    exact v_iret E dX11_goBack_15
  · rw [if_neg c20] at h
    refine v_iload_n E dX11_goBack_4 rfl ?_
    refine v_aload_n E dX11_goBack_5 rfl ?_
    replace h := bnd_e h
    obtain ⟨v1, ev1, h⟩ := h
    refine g11_40 E ev1 dX11_goBack_6 ?_
    replace h := bnd_e h
    obtain ⟨v2, ev2, h⟩ := h
    refine v_alen (kd := 16) (t0 := 2) E (by decide) rfl ev2 dX11_goBack_9 ?_
    refine v_icmp_lt (tgt := 16) E dX11_goBack_10 (by decide) (fun c19 => ?_) (fun c19 => ?_)
    · rw [if_pos c19] at h
      refine v_aload_n E dX11_goBack_16 rfl ?_
      replace h := bnd_e h
      obtain ⟨v3, ev3, h⟩ := h
      refine g11_40 E ev3 dX11_goBack_17 ?_
      refine v_iload_n E dX11_goBack_20 rfl ?_
      replace h := bnd_e h
      obtain ⟨v4, ev4, h⟩ := h
      refine v_aaload (kd := 16) (t0 := 2) E (by decide) rfl ev4 dX11_goBack_21 ?_
      replace h := bnd_e h
      obtain ⟨r5, er5, h⟩ := h
      refine v_callV (na := 0) (As := []) (rest := []) (ci := 6) (q := (RX6, TX6, 3)) E gw11_308 (by decide +kernel) rfl rfl (by decide) (kX6_isKept l er5).2 (kX6_isKept l er5).1 rfl rfl dX11_goBack_22 ⟨Nat.le_of_ble_eq_true rfl, Nat.le_of_ble_eq_true rfl⟩ ⟨(Nat.le_of_ble_eq_true rfl), (Nat.le_of_ble_eq_true rfl)⟩ (Nat.le_of_ble_eq_true rfl) ?_
      refine v_if_ne (tgt := 31) E dX11_goBack_25 (by decide) (fun c18 => ?_) (fun c18 => ?_)
      · rw [if_neg c18] at h
        refine v_aload_n E dX11_goBack_31 rfl ?_
        replace h := bnd_e h
        obtain ⟨v6, ev6, h⟩ := h
        refine g11_10 E ev6 dX11_goBack_32 ?_
        refine v_aload_n E dX11_goBack_35 rfl ?_
        replace h := bnd_e h
        obtain ⟨v7, ev7, h⟩ := h
        refine g11_40 E ev7 dX11_goBack_36 ?_
        refine v_iload_n E dX11_goBack_39 rfl ?_
        replace h := bnd_e h
        obtain ⟨v8, ev8, h⟩ := h
        refine v_aaload (kd := 16) (t0 := 2) E (by decide) rfl ev8 dX11_goBack_40 ?_
        replace h := bnd_e h
        obtain ⟨r9, er9, h⟩ := h
        refine v_callV (na := 0) (As := []) (rest := [vR v6]) (ci := 6) (q := (RX6, TX6, 3)) E gw11_311 (by decide +kernel) rfl rfl (by decide) (kX6_shelf l er9).2 (kX6_shelf l er9).1 rfl rfl dX11_goBack_41 ⟨Nat.le_of_ble_eq_true rfl, Nat.le_of_ble_eq_true rfl⟩ ⟨(Nat.le_of_ble_eq_true rfl), (Nat.le_of_ble_eq_true rfl)⟩ (Nat.le_of_ble_eq_true rfl) ?_
        replace h := bnd_e h
        obtain ⟨r10, er10, h⟩ := h
        refine v_callV (na := 1) (As := [vR r9]) (rest := []) (ci := 8) (q := (RX8, TX8, 2)) E gw11_314 (by decide +kernel) rfl rfl (by decide) (kX8_copyFrom l er10).2 (kX8_copyFrom l er10).1 rfl rfl dX11_goBack_44 ⟨Nat.le_of_ble_eq_true rfl, Nat.le_of_ble_eq_true rfl⟩ ⟨(Nat.le_of_ble_eq_true rfl), (Nat.le_of_ble_eq_true rfl)⟩ (Nat.le_of_ble_eq_true rfl) ?_
        refine v_aload_n E dX11_goBack_47 rfl ?_
        replace h := bnd_e h
        obtain ⟨v11, ev11, h⟩ := h
        refine g11_47 E ev11 dX11_goBack_48 ?_
        refine v_aload_n E dX11_goBack_51 rfl ?_
        replace h := bnd_e h
        obtain ⟨v12, ev12, h⟩ := h
        refine g11_40 E ev12 dX11_goBack_52 ?_
        refine v_iload_n E dX11_goBack_55 rfl ?_
        replace h := bnd_e h
        obtain ⟨v13, ev13, h⟩ := h
        refine v_aaload (kd := 16) (t0 := 2) E (by decide) rfl ev13 dX11_goBack_56 ?_
        replace h := bnd_e h
        obtain ⟨r14, er14, h⟩ := h
        refine v_callV (na := 0) (As := []) (rest := [vR v11]) (ci := 6) (q := (RX6, TX6, 3)) E gw11_317 (by decide +kernel) rfl rfl (by decide) (kX6_seedThen l er14).2 (kX6_seedThen l er14).1 rfl rfl dX11_goBack_57 ⟨Nat.le_of_ble_eq_true rfl, Nat.le_of_ble_eq_true rfl⟩ ⟨(Nat.le_of_ble_eq_true rfl), (Nat.le_of_ble_eq_true rfl)⟩ (Nat.le_of_ble_eq_true rfl) ?_
        replace h := bnd_e h
        obtain ⟨r15, er15, h⟩ := h
        refine v_callV (na := 1) (As := [vI r14]) (rest := []) (ci := 2) (q := (RX2, TX2, 1)) E gw11_300 (by decide +kernel) rfl rfl (by decide) (kX2_restart l er15).2 (kX2_restart l er15).1 rfl rfl dX11_goBack_60 ⟨Nat.le_of_ble_eq_true rfl, Nat.le_of_ble_eq_true rfl⟩ ⟨(Nat.le_of_ble_eq_true rfl), (Nat.le_of_ble_eq_true rfl)⟩ (Nat.le_of_ble_eq_true rfl) ?_
        refine v_aload_n E dX11_goBack_63 rfl ?_
        replace h := bnd_e h
        obtain ⟨v16, ev16, h⟩ := h
        refine g11_33 E ev16 dX11_goBack_64 ?_
        replace h := bnd_e h
        obtain ⟨r17, er17, h⟩ := h
        refine v_callV (na := 0) (As := []) (rest := []) (ci := 5) (q := (RX5, TX5, 3)) E gw11_307 (by decide +kernel) rfl rfl (by decide) (kX5_clear l er17).2 (kX5_clear l er17).1 rfl rfl dX11_goBack_67 ⟨Nat.le_of_ble_eq_true rfl, Nat.le_of_ble_eq_true rfl⟩ ⟨(Nat.le_of_ble_eq_true rfl), (Nat.le_of_ble_eq_true rfl)⟩ (Nat.le_of_ble_eq_true rfl) ?_
        refine v_iconst (v := 1) E dX11_goBack_70 (by decide) ?_
        replace h := Option.some.inj h
        subst h
        refine v_widen (k' := 0) (n' := 0) (Nat.le_of_ble_eq_true rfl) (Nat.le_of_ble_eq_true rfl) ?_
        exact v_iret E dX11_goBack_71
      · rw [if_pos c18] at h
        refine v_ldc (v := (-1000000003)) E dX11_goBack_28 q813 ?_
        replace h := Option.some.inj h
        subst h
        refine v_widen (k' := 0) (n' := 0) (Nat.le_of_ble_eq_true rfl) (Nat.le_of_ble_eq_true rfl) ?_
        exact v_iret E dX11_goBack_30
    · rw [if_neg c19] at h
      refine v_ldc (v := (-1000000001)) E dX11_goBack_13 q516 ?_
      replace h := Option.some.inj h
      subst h
      refine v_widen (k' := 0) (n' := 0) (Nat.le_of_ble_eq_true rfl) (Nat.le_of_ble_eq_true rfl) ?_
      exact v_iret E dX11_goBack_15
